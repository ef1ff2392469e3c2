/-! acts -/
def okL (m k : Nat) (K H : Nat → Nat) (L : List Dy) : Prop := ∀ E ∈ L, okD m k K H E ∧ dd E ≤ 999
theorem okL_push {m k N : Nat} {K H : Nat → Nat} {L : List Dy} {D : Dy} (h : okL m k K H L) (hD : okD m k K H D) (hd : dd D ≤ 999) : okL m k K H (pushD N L D) := by
  intro E hE
  unfold pushD at hE
  split at hE
  · rcases List.mem_append.mp hE with g | g
    · exact h E g
    · rw [List.mem_singleton.mp g]; exact ⟨hD, hd⟩
  · rcases List.mem_append.mp hE with g | g
    · exact h E (List.mem_of_mem_drop g)
    · rw [List.mem_singleton.mp g]; exact ⟨hD, hd⟩
/-- j days -/
def dyN (m : Nat) (K H : Nat → Nat) : Nat → Dy → Dy
  | 0, D => D
  | j + 1, D => dyN m K H j (dyD m K H D)
theorem dyN_dd (m : Nat) (K H : Nat → Nat) : ∀ (j : Nat) (D : Dy), dd (dyN m K H j D) = dd D + j
  | 0, _ => rfl
  | j + 1, D => by
    show dd (dyN m K H j (dyD m K H D)) = _
    rw [dyN_dd m K H j]
    show dd D + 1 + j = _
    omega
theorem dyN_ok {m k : Nat} {K H : Nat → Nat} : ∀ (j : Nat) (D : Dy), okD m k K H D → dd D + j < 5000 → okD m k K H (dyN m K H j D)
  | 0, _, h, _ => h
  | j + 1, D, h, hd => dyN_ok j (dyD m K H D) (dyD_ok h (by omega)) (by show dd D + 1 + j < 5000; omega)
theorem okD.A {m k n : Nat} {K H : Nat → Nat} {D : Dy} (h : okD m k K H D) (hn : n < k) : dA D n < 10 := (h.2.2.2.1 n hn).lt h.1.2.1
theorem okD.B {m k n c : Nat} {K H : Nat → Nat} {D : Dy} (h : okD m k K H D) (hn : n < k) (hc : c < m) : dB D n c ≤ 9 := (h.2.2.2.1 n hn).2 c hc
section SIM
variable {m k : Nat} {K H : Nat → Nat} {D : Dy} {U : List Dy} {kd hd pl st ho be : Nat → Int32} {nc nn dy : Int32} {sv : List CV} {mo ms mp mh : Nat → Int32}
theorem sim_pass (x : Int32) (ok : okD m k K H D) (hd9 : dd D ≤ 999) (hc : ctC m k K H D kd hd pl st ho be nc nn dy) (hm : rfM m k K H mo) (hr : rfD m k D ms) (hl : U.length ≤ 8) (hU : okL m k K H U) (hsv : sv.length = 8) (hsc : shC m k K H U sv) (hsr : rfS m k U mp) :
    ∃ (r : Int32) (D' : Dy) (U' : List Dy), okD m k K H D' ∧ dd D' ≤ 999 ∧ U'.length ≤ 8 ∧ okL m k K H U' ∧
      (∀ Q : Int32 → (Nat → Int32) → (Nat → Int32) → Int32 → Nat → List CV → Prop, (∀ ho' be' dy' sv', ctC m k K H D' kd hd pl st ho' be' nc nn dy' → sv'.length = 8 → shC m k K H U' sv' → Q r ho' be' dy' U'.length sv') → wX5_pass x kd hd pl st ho be nc nn dy U.length sv Q) ∧
      (∀ Q : Int32 → (Nat → Int32) → (Nat → Int32) → Int32 → (Nat → Int32) → Prop, (∀ ms' mp' mh', rfD m k D' ms' → rfS m k U' mp' → Q r ms' mp' (nI U'.length) mh') → wX6_pass x mo ms mp (nI U.length) mh Q) := by
  have hm7 := ok.1.2.1
  have hk6 := ok.2.2.1
  by_cases hx : rg x 1 24
  · obtain ⟨j, j1, j2, rfl⟩ := hx
    by_cases hdj : dd D + j ≤ 999
    · refine ⟨nI (kn (dA (dyN m K H j D)) k), dyN m K H j D, pushD 8 U D, dyN_ok j D ok (by omega), by rw [dyN_dd]; omega, (pushD_len hl (by omega)).2, okL_push hU ok hd9, fun Q hQ => ?_, fun Q hQ => ?_⟩
      · unfold wX5_pass
        have e1 : (1 : Int32) = nI 1 := rfl
        have e24 : (24 : Int32) = nI 24 := rfl
        rw [e1, e24, e_isInT j1 j2 (by omega), ifF (by decide), hc.2.2.1, nI_add, ifT (by simp (disch := omega) only [zl_0, zl_1, zl_2, zl_3, zl_4, zl_5, zl_6, zl_7, zl_8, zl_9, zl_10, zl_14, zl_16, zl_20, zl_24, zl_32, zl_40, zl_42, zl_44, zl_48, zl_56, zl_57, zl_59, zl_60, zl_61, zl_64, zl_99, zl_100, zl_110, zl_126, zl_128, zl_200, zl_392, zl_999, zl_9999, nI_add, pk_mul, nI_leI, nI_ltI, nI_eq, nI_clamp, vpn, pk_sub]; exact hdj), ← (pushD_len (D := D) hl (by omega)).1]
        have key : ∀ r i E ho1 be1 dy1, i + r = j → okD m k K H E → dd E + r < 5000 → ctC m k K H E kd hd pl st ho1 be1 nc nn dy1 → dyN m K H r E = dyN m K H j D → wX5_pass_L43 (nI j) kd hd pl st nc nn (pushD 8 U D).length (pushV 8 U.length sv (kd, hd, pl, st, ho, be, nc, nn, nI (dd D))) Q (r + 1) (nI i) ho1 be1 dy1 := by
          intro r
          induction r with
          | zero =>
            intro i E ho1 be1 dy1 hi hE hEd hcE he
            have hi : i = j := by omega
            subst hi
            unfold wX5_pass_L43
            refine ifp (Int32.le_refl _) ?_
            have he : E = dyN m K H i D := he
            subst he
            rw [hcE.2.1]
            refine s_known hk6 (fun n hn => ⟨(hcE.2.2.2.2 n hn).1, hE.A hn⟩) ?_
            rw [← hcE.2.1]
            refine hQ _ _ _ _ hcE (pushV_len hsv) (sh_push hm7 hk6 hl (by omega) hsv hsc ?_)
            have hc3 := hc.2.2.1
            rw [hc3] at hc
            exact hc
          | succ r ih =>
            intro i E ho1 be1 dy1 hi hE hEd hcE he
            unfold wX5_pass_L43
            rw [ifF (by simp (disch := omega) only [zl_0, zl_1, zl_2, zl_3, zl_4, zl_5, zl_6, zl_7, zl_8, zl_9, zl_10, zl_14, zl_16, zl_20, zl_24, zl_32, zl_40, zl_42, zl_44, zl_48, zl_56, zl_57, zl_59, zl_60, zl_61, zl_64, zl_99, zl_100, zl_110, zl_126, zl_128, zl_200, zl_392, zl_999, zl_9999, nI_add, pk_mul, nI_leI, nI_ltI, nI_eq, nI_clamp, vpn, pk_sub]; omega)]
            refine s_live hE hcE (fun ho2 be2 dy2 g => ?_)
            rw [nI_1]
            exact ih (i + 1) (dyD m K H E) ho2 be2 dy2 (by omega) (dyD_ok hE (by omega)) (by show dd E + 1 + r < 5000; omega) g he
        rw [← hc.2.2.1]
        refine ⟨j + 1, ?_⟩
        have h0 := key j 0 D ho be dy (by omega) ok (by omega) hc rfl
        rw [← hc.2.2.1] at h0
        exact h0
      · unfold wX6_pass
        have e1 : (1 : Int32) = nI 1 := rfl
        have e24 : (24 : Int32) = nI 24 := rfl
        rw [e1, e24, r_inT j1 j2 (by omega), ifF (by decide), hr.1, nI_add, ifT (by simp (disch := omega) only [zl_0, zl_1, zl_2, zl_3, zl_4, zl_5, zl_6, zl_7, zl_8, zl_9, zl_10, zl_14, zl_16, zl_20, zl_24, zl_32, zl_40, zl_42, zl_44, zl_48, zl_56, zl_57, zl_59, zl_60, zl_61, zl_64, zl_99, zl_100, zl_110, zl_126, zl_128, zl_200, zl_392, zl_999, zl_9999, nI_add, pk_mul, nI_leI, nI_ltI, nI_eq, nI_clamp, vpn, pk_sub]; exact hdj)]
        refine ref_keeps hm7 hk6 hl hr hsr (fun mp' g1 => ?_)
        have key : ∀ r i E ms1 mh1, i + r = j → okD m k K H E → dd E + r < 5000 → rfD m k E ms1 → dyN m K H r E = dyN m K H j D → wX6_pass_L35 (nI j) mo mp' (nI (pushD 8 U D).length) Q (r + 1) (nI i) ms1 mh1 := by
          intro r
          induction r with
          | zero =>
            intro i E ms1 mh1 hi hE hEd hrE he
            have hi : i = j := by omega
            subst hi
            unfold wX6_pass_L35
            refine ifp (Int32.le_refl _) ?_
            have he : E = dyN m K H i D := he
            subst he
            exact ref_known (m := m) (K := K) (H := H) hk6 hm.2.1 (fun n hn => ⟨(hrE.2.2.1 n hn).1, hE.A hn⟩) (hQ _ _ _ hrE g1)
          | succ r ih =>
            intro i E ms1 mh1 hi hE hEd hrE he
            unfold wX6_pass_L35
            rw [ifF (by simp (disch := omega) only [zl_0, zl_1, zl_2, zl_3, zl_4, zl_5, zl_6, zl_7, zl_8, zl_9, zl_10, zl_14, zl_16, zl_20, zl_24, zl_32, zl_40, zl_42, zl_44, zl_48, zl_56, zl_57, zl_59, zl_60, zl_61, zl_64, zl_99, zl_100, zl_110, zl_126, zl_128, zl_200, zl_392, zl_999, zl_9999, nI_add, pk_mul, nI_leI, nI_ltI, nI_eq, nI_clamp, vpn, pk_sub]; omega)]
            refine ref_passes hE hm hrE (fun ms2 mh2 g => ?_)
            rw [nI_1]
            exact ih (i + 1) (dyD m K H E) ms2 mh2 (by omega) (dyD_ok hE (by omega)) (by show dd E + 1 + r < 5000; omega) g he
        exact ⟨j + 1, key j 0 D ms mh (by omega) ok (by omega) hr rfl⟩
    · refine ⟨-2, D, U, ok, hd9, hl, hU, fun Q hQ => ?_, fun Q hQ => ?_⟩
      · unfold wX5_pass
        have e1 : (1 : Int32) = nI 1 := rfl
        have e24 : (24 : Int32) = nI 24 := rfl
        rw [e1, e24, e_isInT j1 j2 (by omega), ifF (by decide)]
        refine ifn ?_ (hQ _ _ _ _ hc hsv hsc)
        rw [hc.2.2.1, nI_add]
        simp (disch := omega) only [zl_0, zl_1, zl_2, zl_3, zl_4, zl_5, zl_6, zl_7, zl_8, zl_9, zl_10, zl_14, zl_16, zl_20, zl_24, zl_32, zl_40, zl_42, zl_44, zl_48, zl_56, zl_57, zl_59, zl_60, zl_61, zl_64, zl_99, zl_100, zl_110, zl_126, zl_128, zl_200, zl_392, zl_999, zl_9999, nI_add, pk_mul, nI_leI, nI_ltI, nI_eq, nI_clamp, vpn, pk_sub]
        exact hdj
      · unfold wX6_pass
        have e1 : (1 : Int32) = nI 1 := rfl
        have e24 : (24 : Int32) = nI 24 := rfl
        rw [e1, e24, r_inT j1 j2 (by omega), ifF (by decide)]
        refine ifn ?_ (hQ _ _ _ hr hsr)
        rw [hr.1, nI_add]
        simp (disch := omega) only [zl_0, zl_1, zl_2, zl_3, zl_4, zl_5, zl_6, zl_7, zl_8, zl_9, zl_10, zl_14, zl_16, zl_20, zl_24, zl_32, zl_40, zl_42, zl_44, zl_48, zl_56, zl_57, zl_59, zl_60, zl_61, zl_64, zl_99, zl_100, zl_110, zl_126, zl_128, zl_200, zl_392, zl_999, zl_9999, nI_add, pk_mul, nI_leI, nI_ltI, nI_eq, nI_clamp, vpn, pk_sub]
        exact hdj
  · refine ⟨-1, D, U, ok, hd9, hl, hU, fun Q hQ => ?_, fun Q hQ => ?_⟩
    · unfold wX5_pass
      have e1 : (1 : Int32) = nI 1 := rfl
      have e24 : (24 : Int32) = nI 24 := rfl
      rw [e1, e24, e_isInF hx (by omega) (by omega), ifT rfl]
      exact hQ _ _ _ _ hc hsv hsc
    · unfold wX6_pass
      have e1 : (1 : Int32) = nI 1 := rfl
      have e24 : (24 : Int32) = nI 24 := rfl
      rw [e1, e24, r_inF hx (by omega) (by omega), ifT rfl]
      exact hQ _ _ _ hr hsr
end SIM
