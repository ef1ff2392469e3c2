/-! acts -/
def okL (m k : Nat) (K H : Nat → Nat) (L : List Dy) : Prop := ∀ E ∈ L, okD m k K H E ∧ dd E ≤ 999
theorem okL_push {m k N : Nat} {K H : Nat → Nat} {L : List Dy} {D : Dy} (h : okL m k K H L) (hD : okD m k K H D) (hd : dd D ≤ 999) : okL m k K H (pushD N L D) := by
  intro E hE
  unfold pushD at hE
  split at hE
  · rcases List.mem_append.mp hE with g | g
    · exact h E g
    · rw [List.mem_singleton.mp g]; exact ⟨hD, hd⟩
  · rcases List.mem_append.mp hE with g | g
    · exact h E (List.mem_of_mem_drop g)
    · rw [List.mem_singleton.mp g]; exact ⟨hD, hd⟩
/-- j days -/
def dyN (m : Nat) (K H : Nat → Nat) : Nat → Dy → Dy
  | 0, D => D
  | j + 1, D => dyN m K H j (dyD m K H D)
theorem dyN_dd (m : Nat) (K H : Nat → Nat) : ∀ (j : Nat) (D : Dy), dd (dyN m K H j D) = dd D + j
  | 0, _ => rfl
  | j + 1, D => by
    show dd (dyN m K H j (dyD m K H D)) = _
    rw [dyN_dd m K H j]
    show dd D + 1 + j = _
    omega
theorem dyN_ok {m k : Nat} {K H : Nat → Nat} : ∀ (j : Nat) (D : Dy), okD m k K H D → dd D + j < 5000 → okD m k K H (dyN m K H j D)
  | 0, _, h, _ => h
  | j + 1, D, h, hd => dyN_ok j (dyD m K H D) (dyD_ok h (by omega)) (by show dd D + 1 + j < 5000; omega)
theorem okD.A {m k n : Nat} {K H : Nat → Nat} {D : Dy} (h : okD m k K H D) (hn : n < k) : dA D n < 10 := (h.2.2.2.1 n hn).lt h.1.2.1
theorem okD.B {m k n c : Nat} {K H : Nat → Nat} {D : Dy} (h : okD m k K H D) (hn : n < k) (hc : c < m) : dB D n c ≤ 9 := (h.2.2.2.1 n hn).2 c hc
def rg9 (x : Int32) : Prop := ∃ i, i < 19 ∧ x = nI i - nI 9
theorem in9_fin : ∀ i, i < 19 → ¬ (nI i - nI 9 < (-9)) ∧ ¬ ((9 : Int32) < nI i - nI 9) := by decide +kernel
theorem cut9_fin : ∀ b, b < 10 → ∀ i, i < 19 → (if (0 : Int32) < (if nI b + (nI i - nI 9) < (9 : Int32) then nI b + (nI i - nI 9) else (9 : Int32)) then (if nI b + (nI i - nI 9) < (9 : Int32) then nI b + (nI i - nI 9) else (9 : Int32)) else (0 : Int32)) = nI (min 9 (b + i - 9)) := by decide +kernel
theorem e_cut9 {b i : Nat} {Q : Int32 → Prop} (h : b < 10) (hi : i < 19) : wX5_cutBelief (nI b + (nI i - nI 9)) Q = Q (nI (min 9 (b + i - 9))) := by
  unfold wX5_cutBelief
  rw [cut9_fin b h i hi]
def wv (x : Int32) : Int32 := if 0 ≤ x then (if x ≤ 9 then x else 9) else 0
theorem r_within (x : Int32) (Q : Int32 → Prop) : wX6_within x Q = Q (wv x) := by
  unfold wX6_within wv
  by_cases h : 0 ≤ x
  · rw [ifT h, if_pos h]
    by_cases g : x ≤ 9
    · rw [ifT g, if_pos g]
    · rw [ifF g, if_neg g]
  · rw [ifF h, if_neg h]
theorem wv9_fin : ∀ b, b < 10 → ∀ i, i < 19 → wv (nI b + (nI i - nI 9)) = nI (min 9 (b + i - 9)) := by decide +kernel
theorem rg9F {x : Int32} (h : ¬ rg9 x) : x < (-9) ∨ (9 : Int32) < x := by
  by_cases h1 : x < (-9)
  · exact Or.inl h1
  · by_cases h2 : (9 : Int32) < x
    · exact Or.inr h2
    · exfalso
      apply h
      have g1 : (-9 : Int32).toInt ≤ x.toInt := Int32.le_iff_toInt_le.mp (Int32.not_lt.mp h1)
      have g2 : x.toInt ≤ (9 : Int32).toInt := Int32.le_iff_toInt_le.mp (Int32.not_lt.mp h2)
      have e1 : (-9 : Int32).toInt = -9 := by decide
      have e2 : (9 : Int32).toInt = 9 := by decide
      rw [e1] at g1
      rw [e2] at g2
      refine ⟨(x.toInt + 9).toNat, by omega, Int32.toInt_inj.mp ?_⟩
      rw [pk_sub_toInt (by omega) (by omega)]
      omega
theorem e_isIn9T {i : Nat} {Q : Int32 → Prop} (h : i < 19) : wX5_isIn (nI i - nI 9) (-9) 9 Q = Q 1 := by
  unfold wX5_isIn
  rw [ifF (in9_fin i h).1, ifF (in9_fin i h).2]
theorem e_isIn9F {x : Int32} {Q : Int32 → Prop} (h : ¬ rg9 x) : wX5_isIn x (-9) 9 Q = Q 0 := by
  unfold wX5_isIn
  rcases rg9F h with g | g
  · rw [ifT g]
  · by_cases g0 : x < (-9)
    · rw [ifT g0]
    · rw [ifF g0, ifT g]
def setB (D : Dy) (n c v : Nat) : Dy := (dP D, dS D, dA D, fun n' c' => if n' = n ∧ c' = c then v else dB D n' c', dd D)
def setA (D : Dy) (n a : Nat) : Dy := (dP D, dS D, fun n' => if n' = n then a else dA D n', dB D, dd D)
theorem setB_ok {m k n c v : Nat} {K H : Nat → Nat} {D : Dy} (h : okD m k K H D) (hv : v ≤ 9) : okD m k K H (setB D n c v) := by
  refine ⟨h.1, h.2.1, h.2.2.1, fun n' hn' => ⟨(h.2.2.2.1 n' hn').1, fun c' hc' => ?_⟩, h.2.2.2.2⟩
  show (if n' = n ∧ c' = c then v else dB D n' c') ≤ 9
  split
  · exact hv
  · exact h.B hn' hc'
theorem setA_ok {m k n a : Nat} {K H : Nat → Nat} {D : Dy} (h : okD m k K H D) (ha : a < m ∨ a = 9) : okD m k K H (setA D n a) := by
  refine ⟨h.1, h.2.1, h.2.2.1, fun n' hn' => ⟨?_, (h.2.2.2.1 n' hn').2⟩, h.2.2.2.2⟩
  show (if n' = n then a else dA D n') < m ∨ (if n' = n then a else dA D n') = 9
  split
  · exact ha
  · exact (h.2.2.2.1 n' hn').1
theorem setB_ct {m k n c v : Nat} {K H : Nat → Nat} {D : Dy} {kd hd pl st ho be : Nat → Int32} {nc nn dy : Int32} (hm : m ≤ 7) (hn : n < k) (hc : c < m) (h : ctC m k K H D kd hd pl st ho be nc nn dy) : ctC m k K H (setB D n c v) kd hd pl st ho (upd be (n * 7 + c) (nI v)) nc nn dy := by
  refine ⟨h.1, h.2.1, h.2.2.1, h.2.2.2.1, fun n' hn' => ⟨(h.2.2.2.2 n' hn').1, fun c' hc' => ?_⟩⟩
  show upd be (n * 7 + c) (nI v) (n' * 7 + c') = nI (if n' = n ∧ c' = c then v else dB D n' c')
  by_cases he : n' = n ∧ c' = c
  · rw [if_pos he, he.1, he.2, upd_at]
  · rw [if_neg he, upd_ne _ _ (by omega)]
    exact (h.2.2.2.2 n' hn').2 c' hc'
theorem setB_rf {m k n c v : Nat} {D : Dy} {ms : Nat → Int32} (hm : m ≤ 7) (hk : k ≤ 6) (hn : n < k) (hc : c < m) (h : rfD m k D ms) : rfD m k (setB D n c v) (upd ms (14 + 7 * n + c) (nI v)) := by
  refine ⟨by rw [upd_ne _ _ (by omega)]; exact h.1, fun c' hc' => by rw [upd_ne _ _ (by omega)]; exact h.2.1 c' hc', fun n' hn' => ⟨by rw [upd_ne _ _ (by omega)]; exact (h.2.2.1 n' hn').1, fun c' hc' => ?_⟩, fun i h1 h2 h3 => by rw [upd_ne _ _ (h3 n hn c hc)]; exact h.2.2.2 i h1 h2 h3⟩
  show upd ms (14 + 7 * n + c) (nI v) (14 + 7 * n' + c') = nI (if n' = n ∧ c' = c then v else dB D n' c')
  by_cases he : n' = n ∧ c' = c
  · rw [if_pos he, he.1, he.2, upd_at]
  · rw [if_neg he, upd_ne _ _ (by omega)]
    exact (h.2.2.1 n' hn').2 c' hc'
theorem setA_ct {m k n a : Nat} {K H : Nat → Nat} {D : Dy} {kd hd pl st ho be : Nat → Int32} {nc nn dy : Int32} (h : ctC m k K H D kd hd pl st ho be nc nn dy) : ctC m k K H (setA D n a) kd hd pl st (upd ho n (nI a)) be nc nn dy := by
  refine ⟨h.1, h.2.1, h.2.2.1, h.2.2.2.1, fun n' hn' => ⟨?_, (h.2.2.2.2 n' hn').2⟩⟩
  show upd ho n (nI a) n' = nI (if n' = n then a else dA D n')
  by_cases he : n' = n
  · rw [if_pos he, he, upd_at]
  · rw [if_neg he, upd_ne _ _ he]
    exact (h.2.2.2.2 n' hn').1
theorem setA_rf {m k n a : Nat} {D : Dy} {ms : Nat → Int32} (hm : m ≤ 7) (hk : k ≤ 6) (hn : n < k) (h : rfD m k D ms) : rfD m k (setA D n a) (upd ms (8 + n) (nI a)) := by
  refine ⟨by rw [upd_ne _ _ (by omega)]; exact h.1, fun c' hc' => by rw [upd_ne _ _ (by omega)]; exact h.2.1 c' hc', fun n' hn' => ⟨?_, fun c' hc' => by rw [upd_ne _ _ (by omega)]; exact (h.2.2.1 n' hn').2 c' hc'⟩, fun i h1 h2 h3 => by rw [upd_ne _ _ (by omega)]; exact h.2.2.2 i h1 h2 h3⟩
  show upd ms (8 + n) (nI a) (8 + n') = nI (if n' = n then a else dA D n')
  by_cases he : n' = n
  · rw [if_pos he, he, upd_at]
  · rw [if_neg he, upd_ne _ _ (by omega)]
    exact (h.2.2.1 n' hn').1
section SIM
variable {m k : Nat} {K H : Nat → Nat} {D : Dy} {U : List Dy} {kd hd pl st ho be : Nat → Int32} {nc nn dy : Int32} {sv : List CV} {mo ms mp mh : Nat → Int32}
theorem sim_pass (x : Int32) (ok : okD m k K H D) (hd9 : dd D ≤ 999) (hc : ctC m k K H D kd hd pl st ho be nc nn dy) (hm : rfM m k K H mo) (hr : rfD m k D ms) (hl : U.length ≤ 8) (hU : okL m k K H U) (hsv : sv.length = 8) (hsc : shC m k K H U sv) (hsr : rfS m k U mp) :
    ∃ (r : Int32) (D' : Dy) (U' : List Dy), okD m k K H D' ∧ dd D' ≤ 999 ∧ U'.length ≤ 8 ∧ okL m k K H U' ∧
      (∀ Q : Int32 → (Nat → Int32) → (Nat → Int32) → Int32 → Nat → List CV → Prop, (∀ ho' be' dy' sv', ctC m k K H D' kd hd pl st ho' be' nc nn dy' → sv'.length = 8 → shC m k K H U' sv' → Q r ho' be' dy' U'.length sv') → wX5_pass x kd hd pl st ho be nc nn dy U.length sv Q) ∧
      (∀ Q : Int32 → (Nat → Int32) → (Nat → Int32) → Int32 → (Nat → Int32) → Prop, (∀ ms' mp' mh', rfD m k D' ms' → rfS m k U' mp' → Q r ms' mp' (nI U'.length) mh') → wX6_pass x mo ms mp (nI U.length) mh Q) := by
  have hm7 := ok.1.2.1
  have hk6 := ok.2.2.1
  by_cases hx : rg x 1 24
  · obtain ⟨j, j1, j2, rfl⟩ := hx
    by_cases hdj : dd D + j ≤ 999
    · refine ⟨nI (kn (dA (dyN m K H j D)) k), dyN m K H j D, pushD 8 U D, dyN_ok j D ok (by omega), by rw [dyN_dd]; omega, (pushD_len hl (by omega)).2, okL_push hU ok hd9, fun Q hQ => ?_, fun Q hQ => ?_⟩
      · unfold wX5_pass
        have e1 : (1 : Int32) = nI 1 := rfl
        have e24 : (24 : Int32) = nI 24 := rfl
        rw [e1, e24, e_isInT j1 j2 (by omega), ifF (by decide), hc.2.2.1, nI_add, ifT (by simp (disch := omega) only [zl_0, zl_1, zl_2, zl_3, zl_4, zl_5, zl_6, zl_7, zl_8, zl_9, zl_10, zl_14, zl_16, zl_20, zl_24, zl_32, zl_40, zl_42, zl_44, zl_48, zl_56, zl_57, zl_59, zl_60, zl_61, zl_64, zl_99, zl_100, zl_110, zl_126, zl_128, zl_200, zl_392, zl_999, zl_9999, nI_add, pk_mul, nI_leI, nI_ltI, nI_eq, nI_clamp, vpn, pk_sub]; exact hdj), ← (pushD_len (D := D) hl (by omega)).1]
        have key : ∀ r i E ho1 be1 dy1, i + r = j → okD m k K H E → dd E + r < 5000 → ctC m k K H E kd hd pl st ho1 be1 nc nn dy1 → dyN m K H r E = dyN m K H j D → wX5_pass_L43 (nI j) kd hd pl st nc nn (pushD 8 U D).length (pushV 8 U.length sv (kd, hd, pl, st, ho, be, nc, nn, nI (dd D))) Q (r + 1) (nI i) ho1 be1 dy1 := by
          intro r
          induction r with
          | zero =>
            intro i E ho1 be1 dy1 hi hE hEd hcE he
            have hi : i = j := by omega
            subst hi
            unfold wX5_pass_L43
            refine ifp (Int32.le_refl _) ?_
            have he : E = dyN m K H i D := he
            subst he
            rw [hcE.2.1]
            refine s_known hk6 (fun n hn => ⟨(hcE.2.2.2.2 n hn).1, hE.A hn⟩) ?_
            rw [← hcE.2.1]
            refine hQ _ _ _ _ hcE (pushV_len hsv) (sh_push hm7 hk6 hl (by omega) hsv hsc ?_)
            have hc3 := hc.2.2.1
            rw [hc3] at hc
            exact hc
          | succ r ih =>
            intro i E ho1 be1 dy1 hi hE hEd hcE he
            unfold wX5_pass_L43
            rw [ifF (by simp (disch := omega) only [zl_0, zl_1, zl_2, zl_3, zl_4, zl_5, zl_6, zl_7, zl_8, zl_9, zl_10, zl_14, zl_16, zl_20, zl_24, zl_32, zl_40, zl_42, zl_44, zl_48, zl_56, zl_57, zl_59, zl_60, zl_61, zl_64, zl_99, zl_100, zl_110, zl_126, zl_128, zl_200, zl_392, zl_999, zl_9999, nI_add, pk_mul, nI_leI, nI_ltI, nI_eq, nI_clamp, vpn, pk_sub]; omega)]
            refine s_live hE hcE (fun ho2 be2 dy2 g => ?_)
            rw [nI_1]
            exact ih (i + 1) (dyD m K H E) ho2 be2 dy2 (by omega) (dyD_ok hE (by omega)) (by show dd E + 1 + r < 5000; omega) g he
        rw [← hc.2.2.1]
        refine ⟨j + 1, ?_⟩
        have h0 := key j 0 D ho be dy (by omega) ok (by omega) hc rfl
        rw [← hc.2.2.1] at h0
        exact h0
      · unfold wX6_pass
        have e1 : (1 : Int32) = nI 1 := rfl
        have e24 : (24 : Int32) = nI 24 := rfl
        rw [e1, e24, r_inT j1 j2 (by omega), ifF (by decide), hr.1, nI_add, ifT (by simp (disch := omega) only [zl_0, zl_1, zl_2, zl_3, zl_4, zl_5, zl_6, zl_7, zl_8, zl_9, zl_10, zl_14, zl_16, zl_20, zl_24, zl_32, zl_40, zl_42, zl_44, zl_48, zl_56, zl_57, zl_59, zl_60, zl_61, zl_64, zl_99, zl_100, zl_110, zl_126, zl_128, zl_200, zl_392, zl_999, zl_9999, nI_add, pk_mul, nI_leI, nI_ltI, nI_eq, nI_clamp, vpn, pk_sub]; exact hdj)]
        refine ref_keeps hm7 hk6 hl hr hsr (fun mp' g1 => ?_)
        have key : ∀ r i E ms1 mh1, i + r = j → okD m k K H E → dd E + r < 5000 → rfD m k E ms1 → dyN m K H r E = dyN m K H j D → wX6_pass_L35 (nI j) mo mp' (nI (pushD 8 U D).length) Q (r + 1) (nI i) ms1 mh1 := by
          intro r
          induction r with
          | zero =>
            intro i E ms1 mh1 hi hE hEd hrE he
            have hi : i = j := by omega
            subst hi
            unfold wX6_pass_L35
            refine ifp (Int32.le_refl _) ?_
            have he : E = dyN m K H i D := he
            subst he
            exact ref_known (m := m) (K := K) (H := H) hk6 hm.2.1 (fun n hn => ⟨(hrE.2.2.1 n hn).1, hE.A hn⟩) (hQ _ _ _ hrE g1)
          | succ r ih =>
            intro i E ms1 mh1 hi hE hEd hrE he
            unfold wX6_pass_L35
            rw [ifF (by simp (disch := omega) only [zl_0, zl_1, zl_2, zl_3, zl_4, zl_5, zl_6, zl_7, zl_8, zl_9, zl_10, zl_14, zl_16, zl_20, zl_24, zl_32, zl_40, zl_42, zl_44, zl_48, zl_56, zl_57, zl_59, zl_60, zl_61, zl_64, zl_99, zl_100, zl_110, zl_126, zl_128, zl_200, zl_392, zl_999, zl_9999, nI_add, pk_mul, nI_leI, nI_ltI, nI_eq, nI_clamp, vpn, pk_sub]; omega)]
            refine ref_passes hE hm hrE (fun ms2 mh2 g => ?_)
            rw [nI_1]
            exact ih (i + 1) (dyD m K H E) ms2 mh2 (by omega) (dyD_ok hE (by omega)) (by show dd E + 1 + r < 5000; omega) g he
        exact ⟨j + 1, key j 0 D ms mh (by omega) ok (by omega) hr rfl⟩
    · refine ⟨-2, D, U, ok, hd9, hl, hU, fun Q hQ => ?_, fun Q hQ => ?_⟩
      · unfold wX5_pass
        have e1 : (1 : Int32) = nI 1 := rfl
        have e24 : (24 : Int32) = nI 24 := rfl
        rw [e1, e24, e_isInT j1 j2 (by omega), ifF (by decide)]
        refine ifn ?_ (hQ _ _ _ _ hc hsv hsc)
        rw [hc.2.2.1, nI_add]
        simp (disch := omega) only [zl_0, zl_1, zl_2, zl_3, zl_4, zl_5, zl_6, zl_7, zl_8, zl_9, zl_10, zl_14, zl_16, zl_20, zl_24, zl_32, zl_40, zl_42, zl_44, zl_48, zl_56, zl_57, zl_59, zl_60, zl_61, zl_64, zl_99, zl_100, zl_110, zl_126, zl_128, zl_200, zl_392, zl_999, zl_9999, nI_add, pk_mul, nI_leI, nI_ltI, nI_eq, nI_clamp, vpn, pk_sub]
        exact hdj
      · unfold wX6_pass
        have e1 : (1 : Int32) = nI 1 := rfl
        have e24 : (24 : Int32) = nI 24 := rfl
        rw [e1, e24, r_inT j1 j2 (by omega), ifF (by decide)]
        refine ifn ?_ (hQ _ _ _ hr hsr)
        rw [hr.1, nI_add]
        simp (disch := omega) only [zl_0, zl_1, zl_2, zl_3, zl_4, zl_5, zl_6, zl_7, zl_8, zl_9, zl_10, zl_14, zl_16, zl_20, zl_24, zl_32, zl_40, zl_42, zl_44, zl_48, zl_56, zl_57, zl_59, zl_60, zl_61, zl_64, zl_99, zl_100, zl_110, zl_126, zl_128, zl_200, zl_392, zl_999, zl_9999, nI_add, pk_mul, nI_leI, nI_ltI, nI_eq, nI_clamp, vpn, pk_sub]
        exact hdj
  · refine ⟨-1, D, U, ok, hd9, hl, hU, fun Q hQ => ?_, fun Q hQ => ?_⟩
    · unfold wX5_pass
      have e1 : (1 : Int32) = nI 1 := rfl
      have e24 : (24 : Int32) = nI 24 := rfl
      rw [e1, e24, e_isInF hx (by omega) (by omega), ifT rfl]
      exact hQ _ _ _ _ hc hsv hsc
    · unfold wX6_pass
      have e1 : (1 : Int32) = nI 1 := rfl
      have e24 : (24 : Int32) = nI 24 := rfl
      rw [e1, e24, r_inF hx (by omega) (by omega), ifT rfl]
      exact hQ _ _ _ hr hsr
theorem ct_self (hc : ctC m k K H D kd hd pl st ho be nc nn dy) : ctV m k K H D (kd, hd, pl, st, ho, be, nc, nn, dy) := hc
theorem sim_prove (x y z : Int32) (ok : okD m k K H D) (hd9 : dd D ≤ 999) (hc : ctC m k K H D kd hd pl st ho be nc nn dy) (hm : rfM m k K H mo) (hr : rfD m k D ms) (hl : U.length ≤ 8) (hU : okL m k K H U) (hsv : sv.length = 8) (hsc : shC m k K H U sv) (hsr : rfS m k U mp) :
    ∃ (r : Int32) (D' : Dy) (U' : List Dy), okD m k K H D' ∧ dd D' ≤ 999 ∧ U'.length ≤ 8 ∧ okL m k K H U' ∧
      (∀ Q : Int32 → (Nat → Int32) → Nat → List CV → Prop, (∀ be' sv', ctC m k K H D' kd hd pl st ho be' nc nn dy → sv'.length = 8 → shC m k K H U' sv' → Q r be' U'.length sv') → wX5_prove x y z kd hd pl st ho be nc nn dy U.length sv Q) ∧
      (∀ Q : Int32 → (Nat → Int32) → (Nat → Int32) → Int32 → Prop, (∀ ms' mp', rfD m k D' ms' → rfS m k U' mp' → Q r ms' mp' (nI U'.length)) → wX6_prove x y z mo ms mp (nI U.length) Q) := by
  have hm7 := ok.1.2.1
  have hk6 := ok.2.2.1
  by_cases hx : ix x m
  · obtain ⟨c, c1, rfl⟩ := hx
    by_cases hy : ix y k
    · obtain ⟨n, n1, rfl⟩ := hy
      by_cases hz : rg9 z
      · obtain ⟨i, i1, rfl⟩ := hz
        have hb := ok.B n1 c1
        have e1 : ((14 : Int32) + ((7 : Int32) * nI n)) + nI c = nI (14 + 7 * n + c) := by simp (disch := omega) only [zl_0, zl_1, zl_2, zl_3, zl_4, zl_5, zl_6, zl_7, zl_8, zl_9, zl_10, zl_14, zl_16, zl_20, zl_24, zl_32, zl_40, zl_42, zl_44, zl_48, zl_56, zl_57, zl_59, zl_60, zl_61, zl_64, zl_99, zl_100, zl_110, zl_126, zl_128, zl_200, zl_392, zl_999, zl_9999, nI_add, pk_mul, nI_leI, nI_ltI, nI_eq, nI_clamp, vpn, pk_sub]
        by_cases he : min 9 (dB D n c + i - 9) = dB D n c
        · refine ⟨-2, D, U, ok, hd9, hl, hU, fun Q hQ => ?_, fun Q hQ => ?_⟩
          · unfold wX5_prove
            rw [hc.1, e_isC_T c1 (by omega), ifF (by decide), hc.2.1, e_isN_T n1 (by omega), ifF (by decide), e_isIn9T i1, ifF (by decide), e_believes (by omega) (by omega), (hc.2.2.2.2 n n1).2 c c1, e_cut9 (by omega) i1, e_believes (by omega) (by omega), (hc.2.2.2.2 n n1).2 c c1, he, ifT rfl]
            exact hQ _ _ hc hsv hsc
          · unfold wX6_prove
            rw [r_isC_T hm.1 c1 (by omega), ifF (by decide), r_isN_T hm.2.1 n1 (by omega), ifF (by decide)]
            have e9 : wX6_in (nI i - nI 9) (-9) 9 = wX5_isIn (nI i - nI 9) (-9) 9 := rfl
            rw [e9, e_isIn9T i1, ifF (by decide), nmx, e1, nI_clamp (by omega), (hr.2.2.1 n n1).2 c c1, r_within, wv9_fin _ (by omega) i i1, he, ifT rfl, vpn (by omega)]
            exact ⟨by omega, by omega, hQ _ _ hr hsr⟩
        · refine ⟨nI (min 9 (dB D n c + i - 9)), setB D n c (min 9 (dB D n c + i - 9)), pushD 8 U D, setB_ok ok (Nat.min_le_left _ _), hd9, (pushD_len hl (by omega)).2, okL_push hU ok hd9, fun Q hQ => ?_, fun Q hQ => ?_⟩
          · unfold wX5_prove
            rw [hc.1, e_isC_T c1 (by omega), ifF (by decide), hc.2.1, e_isN_T n1 (by omega), ifF (by decide), e_isIn9T i1, ifF (by decide), e_believes (by omega) (by omega), (hc.2.2.2.2 n n1).2 c c1, e_cut9 (by omega) i1, e_believes (by omega) (by omega), (hc.2.2.2.2 n n1).2 c c1, ifF (by simp (disch := omega) only [zl_0, zl_1, zl_2, zl_3, zl_4, zl_5, zl_6, zl_7, zl_8, zl_9, zl_10, zl_14, zl_16, zl_20, zl_24, zl_32, zl_40, zl_42, zl_44, zl_48, zl_56, zl_57, zl_59, zl_60, zl_61, zl_64, zl_99, zl_100, zl_110, zl_126, zl_128, zl_200, zl_392, zl_999, zl_9999, nI_add, pk_mul, nI_leI, nI_ltI, nI_eq, nI_clamp, vpn, pk_sub]; exact he), e_setBelief (by omega) (by omega), ← (pushD_len (D := D) hl (by omega)).1, ← hc.1, ← hc.2.1]
            exact hQ _ _ (setB_ct hm7 n1 c1 hc) (pushV_len hsv) (sh_push hm7 hk6 hl (by omega) hsv hsc hc)
          · unfold wX6_prove
            rw [r_isC_T hm.1 c1 (by omega), ifF (by decide), r_isN_T hm.2.1 n1 (by omega), ifF (by decide)]
            have e9 : wX6_in (nI i - nI 9) (-9) 9 = wX5_isIn (nI i - nI 9) (-9) 9 := rfl
            rw [e9, e_isIn9T i1, ifF (by decide), nmx, e1, nI_clamp (by omega), (hr.2.2.1 n n1).2 c c1, r_within, wv9_fin _ (by omega) i i1, ifF (by simp (disch := omega) only [zl_0, zl_1, zl_2, zl_3, zl_4, zl_5, zl_6, zl_7, zl_8, zl_9, zl_10, zl_14, zl_16, zl_20, zl_24, zl_32, zl_40, zl_42, zl_44, zl_48, zl_56, zl_57, zl_59, zl_60, zl_61, zl_64, zl_99, zl_100, zl_110, zl_126, zl_128, zl_200, zl_392, zl_999, zl_9999, nI_add, pk_mul, nI_leI, nI_ltI, nI_eq, nI_clamp, vpn, pk_sub]; exact he), vpn (by omega)]
            refine ⟨by omega, by omega, ref_keeps hm7 hk6 hl hr hsr (fun mp' g1 => ⟨by omega, hQ _ _ (setB_rf hm7 hk6 n1 c1 hr) g1⟩)⟩
      · refine ⟨-1, D, U, ok, hd9, hl, hU, fun Q hQ => ?_, fun Q hQ => ?_⟩
        · unfold wX5_prove
          rw [hc.1, e_isC_T c1 (by omega), ifF (by decide), hc.2.1, e_isN_T n1 (by omega), ifF (by decide), e_isIn9F hz, ifT rfl]
          exact hQ _ _ hc hsv hsc
        · unfold wX6_prove
          rw [r_isC_T hm.1 c1 (by omega), ifF (by decide), r_isN_T hm.2.1 n1 (by omega), ifF (by decide)]
          have e9 : wX6_in z (-9) 9 = wX5_isIn z (-9) 9 := rfl
          rw [e9, e_isIn9F hz, ifT rfl]
          exact hQ _ _ hr hsr
    · refine ⟨-1, D, U, ok, hd9, hl, hU, fun Q hQ => ?_, fun Q hQ => ?_⟩
      · unfold wX5_prove
        rw [hc.1, e_isC_T c1 (by omega), ifF (by decide), hc.2.1, e_isN_F hy (by omega), ifT rfl]
        exact hQ _ _ hc hsv hsc
      · unfold wX6_prove
        rw [r_isC_T hm.1 c1 (by omega), ifF (by decide), r_isN_F hm.2.1 hy ok.2.1 (by omega), ifT rfl]
        exact hQ _ _ hr hsr
  · refine ⟨-1, D, U, ok, hd9, hl, hU, fun Q hQ => ?_, fun Q hQ => ?_⟩
    · unfold wX5_prove
      rw [hc.1, e_isC_F hx (by omega), ifT rfl]
      exact hQ _ _ hc hsv hsc
    · unfold wX6_prove
      rw [r_isC_F hm.1 hx ok.1.1 (by omega), ifT rfl]
      exact hQ _ _ hr hsr
theorem sim_hand (x y : Int32) (ok : okD m k K H D) (hd9 : dd D ≤ 999) (hc : ctC m k K H D kd hd pl st ho be nc nn dy) (hm : rfM m k K H mo) (hr : rfD m k D ms) (hl : U.length ≤ 8) (hU : okL m k K H U) (hsv : sv.length = 8) (hsc : shC m k K H U sv) (hsr : rfS m k U mp) :
    ∃ (r : Int32) (D' : Dy) (U' : List Dy), okD m k K H D' ∧ dd D' ≤ 999 ∧ U'.length ≤ 8 ∧ okL m k K H U' ∧
      (∀ Q : Int32 → (Nat → Int32) → Nat → List CV → Prop, (∀ ho' sv', ctC m k K H D' kd hd pl st ho' be nc nn dy → sv'.length = 8 → shC m k K H U' sv' → Q r ho' U'.length sv') → wX5_hand x y kd hd pl st ho be nc nn dy U.length sv Q) ∧
      (∀ Q : Int32 → (Nat → Int32) → (Nat → Int32) → Int32 → Prop, (∀ ms' mp', rfD m k D' ms' → rfS m k U' mp' → Q r ms' mp' (nI U'.length)) → wX6_hand x y mo ms mp (nI U.length) Q) := by
  have hm7 := ok.1.2.1
  have hk6 := ok.2.2.1
  by_cases hy : ix x k
  · obtain ⟨n, n1, rfl⟩ := hy
    by_cases hx : ix y m
    · obtain ⟨c, c1, rfl⟩ := hx
      have ha := ok.A n1
      have e1 : (8 : Int32) + nI n = nI (8 + n) := nI_add 8 n
      by_cases he : dA D n = 9 ∨ dA D n = c
      · refine ⟨-2, D, U, ok, hd9, hl, hU, fun Q hQ => ?_, fun Q hQ => ?_⟩
        · unfold wX5_hand
          rw [hc.2.1, e_isN_T n1 (by omega), ifF (by decide), hc.1, e_isC_T c1 (by omega), ifF (by decide), e_of (by omega) (by decide), (hc.2.2.2.2 n n1).1]
          by_cases h9 : dA D n = 9
          · rw [ifT (by rw [h9]; rfl)]
            exact hQ _ _ hc hsv hsc
          · rw [ifF (by simp (disch := omega) only [zl_0, zl_1, zl_2, zl_3, zl_4, zl_5, zl_6, zl_7, zl_8, zl_9, zl_10, zl_14, zl_16, zl_20, zl_24, zl_32, zl_40, zl_42, zl_44, zl_48, zl_56, zl_57, zl_59, zl_60, zl_61, zl_64, zl_99, zl_100, zl_110, zl_126, zl_128, zl_200, zl_392, zl_999, zl_9999, nI_add, pk_mul, nI_leI, nI_ltI, nI_eq, nI_clamp, vpn, pk_sub]; exact h9), ifT (by rw [he.resolve_left h9])]
            exact hQ _ _ hc hsv hsc
        · unfold wX6_hand
          rw [r_isN_T hm.2.1 n1 (by omega), ifF (by decide), r_isC_T hm.1 c1 (by omega), ifF (by decide), e1, nI_clamp (by omega), (hr.2.2.1 n n1).1, vpn (by omega)]
          refine ⟨by omega, ?_⟩
          by_cases h9 : dA D n = 9
          · rw [ifT (by rw [h9]; rfl)]
            exact hQ _ _ hr hsr
          · rw [ifF (by simp (disch := omega) only [zl_0, zl_1, zl_2, zl_3, zl_4, zl_5, zl_6, zl_7, zl_8, zl_9, zl_10, zl_14, zl_16, zl_20, zl_24, zl_32, zl_40, zl_42, zl_44, zl_48, zl_56, zl_57, zl_59, zl_60, zl_61, zl_64, zl_99, zl_100, zl_110, zl_126, zl_128, zl_200, zl_392, zl_999, zl_9999, nI_add, pk_mul, nI_leI, nI_ltI, nI_eq, nI_clamp, vpn, pk_sub]; exact h9), ifT (by rw [he.resolve_left h9])]
            exact ⟨by omega, hQ _ _ hr hsr⟩
      · refine ⟨nI (dA D n), setA D n c, pushD 8 U D, setA_ok ok (Or.inl c1), hd9, (pushD_len hl (by omega)).2, okL_push hU ok hd9, fun Q hQ => ?_, fun Q hQ => ?_⟩
        · unfold wX5_hand
          rw [hc.2.1, e_isN_T n1 (by omega), ifF (by decide), hc.1, e_isC_T c1 (by omega), ifF (by decide), e_of (by omega) (by decide), (hc.2.2.2.2 n n1).1, ifF (by simp (disch := omega) only [zl_0, zl_1, zl_2, zl_3, zl_4, zl_5, zl_6, zl_7, zl_8, zl_9, zl_10, zl_14, zl_16, zl_20, zl_24, zl_32, zl_40, zl_42, zl_44, zl_48, zl_56, zl_57, zl_59, zl_60, zl_61, zl_64, zl_99, zl_100, zl_110, zl_126, zl_128, zl_200, zl_392, zl_999, zl_9999, nI_add, pk_mul, nI_leI, nI_ltI, nI_eq, nI_clamp, vpn, pk_sub]; omega), ifF (by simp (disch := omega) only [zl_0, zl_1, zl_2, zl_3, zl_4, zl_5, zl_6, zl_7, zl_8, zl_9, zl_10, zl_14, zl_16, zl_20, zl_24, zl_32, zl_40, zl_42, zl_44, zl_48, zl_56, zl_57, zl_59, zl_60, zl_61, zl_64, zl_99, zl_100, zl_110, zl_126, zl_128, zl_200, zl_392, zl_999, zl_9999, nI_add, pk_mul, nI_leI, nI_ltI, nI_eq, nI_clamp, vpn, pk_sub]; omega), e_put (by omega) (by decide), ← (pushD_len (D := D) hl (by omega)).1, ← hc.1, ← hc.2.1]
          exact hQ _ _ (setA_ct hc) (pushV_len hsv) (sh_push hm7 hk6 hl (by omega) hsv hsc hc)
        · unfold wX6_hand
          rw [r_isN_T hm.2.1 n1 (by omega), ifF (by decide), r_isC_T hm.1 c1 (by omega), ifF (by decide), e1, nI_clamp (by omega), (hr.2.2.1 n n1).1, vpn (by omega), ifF (by simp (disch := omega) only [zl_0, zl_1, zl_2, zl_3, zl_4, zl_5, zl_6, zl_7, zl_8, zl_9, zl_10, zl_14, zl_16, zl_20, zl_24, zl_32, zl_40, zl_42, zl_44, zl_48, zl_56, zl_57, zl_59, zl_60, zl_61, zl_64, zl_99, zl_100, zl_110, zl_126, zl_128, zl_200, zl_392, zl_999, zl_9999, nI_add, pk_mul, nI_leI, nI_ltI, nI_eq, nI_clamp, vpn, pk_sub]; omega), ifF (by simp (disch := omega) only [zl_0, zl_1, zl_2, zl_3, zl_4, zl_5, zl_6, zl_7, zl_8, zl_9, zl_10, zl_14, zl_16, zl_20, zl_24, zl_32, zl_40, zl_42, zl_44, zl_48, zl_56, zl_57, zl_59, zl_60, zl_61, zl_64, zl_99, zl_100, zl_110, zl_126, zl_128, zl_200, zl_392, zl_999, zl_9999, nI_add, pk_mul, nI_leI, nI_ltI, nI_eq, nI_clamp, vpn, pk_sub]; omega)]
          refine ⟨by omega, by omega, ref_keeps hm7 hk6 hl hr hsr (fun mp' g1 => ⟨by omega, ?_⟩)⟩
          rw [nmx]
          exact ⟨by omega, hQ _ _ (setA_rf hm7 hk6 n1 hr) g1⟩
    · refine ⟨-1, D, U, ok, hd9, hl, hU, fun Q hQ => ?_, fun Q hQ => ?_⟩
      · unfold wX5_hand
        rw [hc.2.1, e_isN_T n1 (by omega), ifF (by decide), hc.1, e_isC_F hx (by omega), ifT rfl]
        exact hQ _ _ hc hsv hsc
      · unfold wX6_hand
        rw [r_isN_T hm.2.1 n1 (by omega), ifF (by decide), r_isC_F hm.1 hx ok.1.1 (by omega), ifT rfl]
        exact hQ _ _ hr hsr
  · refine ⟨-1, D, U, ok, hd9, hl, hU, fun Q hQ => ?_, fun Q hQ => ?_⟩
    · unfold wX5_hand
      rw [hc.2.1, e_isN_F hy (by omega), ifT rfl]
      exact hQ _ _ hc hsv hsc
    · unfold wX6_hand
      rw [r_isN_F hm.2.1 hy ok.2.1 (by omega), ifT rfl]
      exact hQ _ _ hr hsr
end SIM
