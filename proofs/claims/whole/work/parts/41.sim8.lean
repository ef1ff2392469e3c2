/-! the soonest swap -/
/-- over the pairs of c, from d on -/
def fsI (v : Nat → Nat → Nat) (c : Nat) : Nat → Nat → Nat × Nat → Nat × Nat
  | 0, _, x => x
  | r + 1, d, x => fsI v c r (d + 1) (if v c d ≤ x.1 then (v c d - 1, 10 * c + d) else x)
def fsO (v : Nat → Nat → Nat) (m : Nat) : Nat → Nat → Nat × Nat → Nat × Nat
  | 0, _, x => x
  | r + 1, c, x => fsO v m r (c + 1) (fsI v c (m - (c + 1)) (c + 1) x)
theorem fsI_ok {v : Nat → Nat → Nat} {c : Nat} (hc : c < 7) : ∀ r d x, d + r ≤ 7 → (x.1 ≤ 60 ∧ (x.2 < 100 ∨ x.2 = 999)) → (fsI v c r d x).1 ≤ 60 ∧ ((fsI v c r d x).2 < 100 ∨ (fsI v c r d x).2 = 999)
  | 0, _, x, _, h => h
  | r + 1, d, x, hd2, h => by
    show (fsI v c r (d + 1) _).1 ≤ 60 ∧ _
    refine fsI_ok hc r (d + 1) _ (by omega) ?_
    split
    · exact ⟨by show v c d - 1 ≤ 60; omega, Or.inl (by show 10 * c + d < 100; omega)⟩
    · exact h
theorem fsO_ok {v : Nat → Nat → Nat} {m : Nat} (hm : m ≤ 7) : ∀ r c x, c + r ≤ m → (x.1 ≤ 60 ∧ (x.2 < 100 ∨ x.2 = 999)) → (fsO v m r c x).1 ≤ 60 ∧ ((fsO v m r c x).2 < 100 ∨ (fsO v m r c x).2 = 999)
  | 0, _, x, _, h => h
  | r + 1, c, x, hc, h => fsO_ok hm r (c + 1) _ (by omega) (fsI_ok (by omega) _ _ x (by omega) h)
/-- what the class carries: both answers in one number -/
def pC (x : Nat × Nat) : Int32 := if x.2 = 999 then -4 else nI (100 * (x.1 + 1) + x.2)
def pR (x : Nat × Nat) : Int32 := if x.2 = 999 then -4 else nI x.2
theorem div_fin : ∀ a, a < 62 → ∀ p, p < 100 → nI (100 * a + p) / (100 : Int32) = nI a ∧ nI (100 * a + p) - nI (100 * a + p) / (100 : Int32) * (100 : Int32) = nI p := by decide +kernel
section SIM
variable {m k : Nat} {K H : Nat → Nat} {D : Dy} {kd hd pl st ho be : Nat → Int32} {nc nn dy : Int32} {kt ht pt tt ot bt : Nat → Int32} {ct ut yt : Int32} {mo ms mh mg : Nat → Int32}
theorem rfD_sw2 {c d : Nat} (h : rfD m k (swD (swD D c d) c d) ms) : rfD m k D ms := by
  refine ⟨h.1, fun i hi => ?_, h.2.2.1, h.2.2.2⟩
  have g := h.2.1 i hi
  rw [g]
  congr 1
  show (if i = d then (if c = d then dP D c else if c = c then dP D d else dP D c) else if i = c then (if d = d then dP D c else if d = c then dP D d else dP D d) else (if i = d then dP D c else if i = c then dP D d else dP D i)) = dP D i
  by_cases h1 : i = d
  · subst h1
    rw [if_pos rfl]
    by_cases h2 : c = i
    · rw [if_pos h2, h2]
    · rw [if_neg h2, if_pos rfl]
  · rw [if_neg h1]
    by_cases h2 : i = c
    · rw [if_pos h2, if_pos rfl, h2]
    · rw [if_neg h2, if_neg h1, if_neg h2]
def swV (m : Nat) (K H : Nat → Nat) (D : Dy) (n c d : Nat) : Nat := cmf m K H (dP (swD D c d)) (dS (swD D c d)) 60 0 (nx (swD D c d) n)
theorem swV_pos {n c d : Nat} (h : ¬ dA D n = 9) : 1 ≤ swV m K H D n c d := cmf_pos (x := nx (swD D c d) n) (r := 60) (i := 0) h (by omega)
theorem swV_le {n c d : Nat} : swV m K H D n c d ≤ 60 ∨ swV m K H D n c d = 99 := by
  have := cmf_le m K H (dP (swD D c d)) (dS (swD D c d)) 60 0 (nx (swD D c d) n) (by omega)
  rw [Nat.zero_add] at this
  exact this
theorem s_soonest {n : Nat} {Q : Int32 → (Nat → Int32) → (Nat → Int32) → (Nat → Int32) → (Nat → Int32) → (Nat → Int32) → (Nat → Int32) → Int32 → Int32 → Int32 → Prop} (l0 : Nat) (hl0 : l0 = if cmf m K H (dP D) (dS D) 60 0 (nx D n) = 99 then 60 else cmf m K H (dP D) (dS D) 60 0 (nx D n) - 1) (ok : okD m k K H D) (hd9 : dd D ≤ 999) (hc : ctC m k K H D kd hd pl st ho be nc nn dy) (hn : n < k) (h9 : ¬ dA D n = 9) (hQ : ∀ a b c e f g h i j, Q (pC (fsO (swV m K H D n) m m 0 (l0, 999))) a b c e f g h i j) : wX5_soonestSwap (nI n) kd hd pl st ho be nc nn dy kt ht pt tt ot bt Q := by
  have hm7 := ok.1.2.1
  have hk6 := ok.2.2.1
  have v60 : (60 : Int32) = nI 60 := rfl
  have hv0 := cmf_le m K H (dP D) (dS D) 60 0 (nx D n) (by omega)
  have hv1 : 1 ≤ cmf m K H (dP D) (dS D) 60 0 (nx D n) := cmf_pos (x := nx D n) (r := 60) (i := 0) h9 (by omega)
  unfold wX5_soonestSwap
  refine s_copy hm7 hk6 hc (fun kd' hd' pl' st' ho' be' hc2 => ?_)
  rw [v60, hc.1]
  refine s_until (x := nx D n) ok.1 hc2.2.2.2.1 (by omega) (by omega) (ok.2.2.2.1 n hn) (hc2.2.2.2.2 n hn) (fun ho2 be2 _ _ => ?_)
  have inner : ∀ c, c < m → ∀ K44 : Int32 → Int32 → Int32 → (Nat → Int32) → (Nat → Int32) → (Nat → Int32) → (Nat → Int32) → (Nat → Int32) → (Nat → Int32) → Int32 → Int32 → Int32 → Prop, ∀ r d x kt ht pt tt ot bt ct ut yt, d + r = m → (x.1 ≤ 60 ∧ (x.2 < 100 ∨ x.2 = 999)) → (∀ a b e f g h i j o, K44 (nI (fsI (swV m K H D n) c r d x).1) (pC (fsI (swV m K H D n) c r d x)) (nI (c + 1)) a b e f g h i j o) → wX5_soonestSwap_L62 (nI n) (nI c) kd hd pl st ho be (nI m) nn dy K44 (r + 1) (nI x.1) (pC x) (nI d) kt ht pt tt ot bt ct ut yt := by
    intro c hcm K44 r
    induction r with
    | zero =>
      intro d x kt ht pt tt ot bt ct ut yt hi hx hK
      have hi : d = m := by omega
      subst hi
      unfold wX5_soonestSwap_L62
      rw [nI_1]
      exact ifp (Int32.le_refl _) (hK _ _ _ _ _ _ _ _ _)
    | succ r ih =>
      intro d x kt ht pt tt ot bt ct ut yt hi hx hK
      have hdm : d < m := by omega
      unfold wX5_soonestSwap_L62
      rw [ifF (by simp (disch := omega) only [zl_0, zl_1, zl_2, zl_3, zl_4, zl_5, zl_6, zl_7, zl_8, zl_9, zl_10, zl_14, zl_16, zl_20, zl_24, zl_32, zl_40, zl_42, zl_44, zl_48, zl_56, zl_57, zl_59, zl_60, zl_61, zl_64, zl_99, zl_100, zl_110, zl_126, zl_128, zl_200, zl_392, zl_999, zl_9999, nI_add, pk_mul, nI_leI, nI_ltI, nI_eq, nI_clamp, vpn, pk_sub]; omega), ← hc.1]
      refine s_copy hm7 hk6 hc (fun k2 h2 p2 t2 o2 b2 hc3 => ?_)
      rw [hc.1, e_changePlaces ok.1 hc3.2.2.2.1 hcm hdm]
      refine s_until (x := nx (swD D c d) n) (swD_okT ok.1 hcm hdm) (swD_ctS ok.1 hc3.2.2.2.1 hcm hdm) (by omega) hx.1 (ok.2.2.2.1 n hn) (hc3.2.2.2.2 n hn) (fun o3 b3 _ _ => ?_)
      have hlim := cmf_lim m K H (dP (swD D c d)) (dS (swD D c d)) 60 x.1 0 (nx (swD D c d) n) hx.1 (by omega)
      rw [Nat.zero_add] at hlim
      have hlim : cmf m K H (fun i => if i = d then dP D c else if i = c then dP D d else dP D i) (fun q => if q = dP D c then d else if q = dP D d then c else dS D q) x.1 0 (nx (swD D c d) n) = if swV m K H D n c d ≤ x.1 then swV m K H D n c d else 99 := hlim
      have hp : 1 ≤ swV m K H D n c d := swV_pos h9
      have hK : ∀ a b e f g h i j o, K44 (nI (fsI (swV m K H D n) c r (d + 1) (if swV m K H D n c d ≤ x.1 then (swV m K H D n c d - 1, 10 * c + d) else x)).1) (pC (fsI (swV m K H D n) c r (d + 1) (if swV m K H D n c d ≤ x.1 then (swV m K H D n c d - 1, 10 * c + d) else x))) (nI (c + 1)) a b e f g h i j o := hK
      rw [hlim]
      by_cases hle : swV m K H D n c d ≤ x.1
      · rw [if_pos hle] at hK ⊢
        have e4 : cmI (swV m K H D n c d) = nI (swV m K H D n c d) := by unfold cmI; rw [if_neg (by omega)]
        have e5 : nI (swV m K H D n c d) - 1 = nI (swV m K H D n c d - 1) := pk_sub (a := swV m K H D n c d) (b := 1) hp
        have e6 : (((100 : Int32) * nI (swV m K H D n c d)) + ((10 : Int32) * nI c)) + nI d = pC (swV m K H D n c d - 1, 10 * c + d) := by
          have a1 : (100 : Int32) = nI 100 := rfl
          have a2 : (10 : Int32) = nI 10 := rfl
          unfold pC
          rw [if_neg (show ¬ 10 * c + d = 999 by omega), a1, a2, pk_mul, pk_mul, nI_add, nI_add]
          congr 1
          show 100 * swV m K H D n c d + 10 * c + d = 100 * (swV m K H D n c d - 1 + 1) + (10 * c + d)
          omega
        rw [e4, ifF (nI_ne4 _ (by omega)), nmx, nmx, e5, e6, nI_1]
        exact ih (d + 1) (swV m K H D n c d - 1, 10 * c + d) _ _ _ _ _ _ _ _ _ (by omega) ⟨by show swV m K H D n c d - 1 ≤ 60; omega, Or.inl (by show 10 * c + d < 100; omega)⟩ hK
      · rw [if_neg hle] at hK ⊢
        rw [ifT (show cmI 99 = -4 from rfl), nI_1]
        exact ih (d + 1) x _ _ _ _ _ _ _ _ _ (by omega) hx hK
  have outer : ∀ r c x kt ht pt tt ot bt ct ut yt, c + r = m → (x.1 ≤ 60 ∧ (x.2 < 100 ∨ x.2 = 999)) → fsO (swV m K H D n) m r c x = fsO (swV m K H D n) m m 0 (l0, 999) → wX5_soonestSwap_L44 (nI n) kd hd pl st ho be (nI m) nn dy Q (r + 1) (nI x.1) (pC x) (nI c) kt ht pt tt ot bt ct ut yt := by
    intro r
    induction r with
    | zero =>
      intro c x kt ht pt tt ot bt ct ut yt hi hx he
      have hi : c = m := by omega
      subst hi
      unfold wX5_soonestSwap_L44
      have he : x = fsO (swV c K H D n) c c 0 (l0, 999) := he
      refine ifp (Int32.le_refl _) ?_
      rw [he]
      exact hQ _ _ _ _ _ _ _ _ _
    | succ r ih =>
      intro c x kt ht pt tt ot bt ct ut yt hi hx he
      unfold wX5_soonestSwap_L44
      rw [ifF (by simp (disch := omega) only [zl_0, zl_1, zl_2, zl_3, zl_4, zl_5, zl_6, zl_7, zl_8, zl_9, zl_10, zl_14, zl_16, zl_20, zl_24, zl_32, zl_40, zl_42, zl_44, zl_48, zl_56, zl_57, zl_59, zl_60, zl_61, zl_64, zl_99, zl_100, zl_110, zl_126, zl_128, zl_200, zl_392, zl_999, zl_9999, nI_add, pk_mul, nI_leI, nI_ltI, nI_eq, nI_clamp, vpn, pk_sub]; omega), nmx, nI_1]
      have hcm : c < m := by omega
      refine ⟨m - (c + 1) + 1, inner c hcm _ (m - (c + 1)) (c + 1) x _ _ _ _ _ _ _ _ _ (by omega) hx (fun a b e f g h i j o => ?_)⟩
      exact ih (c + 1) _ _ _ _ _ _ _ _ _ _ (by omega) (fsI_ok (by omega) _ _ x (by omega) hx) he
  have fin : wX5_soonestSwap_J36 (nI n) (nI l0) kd hd pl st ho be (nI m) nn dy kd' hd' pl' st' ho2 be2 (nI m) nn dy Q := ⟨m + 1, outer m 0 (l0, 999) _ _ _ _ _ _ _ _ _ (by omega) ⟨by show l0 ≤ 60; rw [hl0]; split <;> omega, Or.inr rfl⟩ rfl⟩
  by_cases hv : cmf m K H (dP D) (dS D) 60 0 (nx D n) = 99
  · rw [if_pos hv] at hl0
    rw [hl0] at fin
    exact ifp (by rw [hv]; rfl) fin
  · rw [if_neg hv] at hl0
    have e4 : cmI (cmf m K H (dP D) (dS D) 60 0 (nx D n)) = nI (cmf m K H (dP D) (dS D) 60 0 (nx D n)) := by unfold cmI; rw [if_neg hv]
    rw [e4, ifF (nI_ne4 _ (by omega))]
    have e5 : nI (cmf m K H (dP D) (dS D) 60 0 (nx D n)) - 1 = nI (cmf m K H (dP D) (dS D) 60 0 (nx D n) - 1) := pk_sub (a := cmf m K H (dP D) (dS D) 60 0 (nx D n)) (b := 1) hv1
    rw [e5, ← hl0]
    exact fin
theorem r_soonest {n : Nat} {y : Int32} {Q : Int32 → (Nat → Int32) → (Nat → Int32) → (Nat → Int32) → Prop} (l0 : Nat) (hl0 : l0 ≤ 60) (ok : okD m k K H D) (hd9 : dd D ≤ 999) (hm : rfM m k K H mo) (hr : rfD m k D ms) (hn : n < k) (h9 : ¬ dA D n = 9) (hQ : ∀ r, r = (if (fsO (swV m K H D n) m m 0 (l0, 999)).2 = 999 then -4 else if y = 0 then nI (fsO (swV m K H D n) m m 0 (l0, 999)).2 else nI ((fsO (swV m K H D n) m m 0 (l0, 999)).1 + 1)) → ∀ ms' mh' mg', rfD m k D ms' → Q r ms' mh' mg') : wX6_sooner_J54 (nI n) y (nI (l0 + 1)) mo ms mh mg Q := by
  have hm7 := ok.1.2.1
  have hk6 := ok.2.2.1
  have inner : ∀ c, c < m → ∀ K62 : Int32 → Int32 → Int32 → (Nat → Int32) → (Nat → Int32) → (Nat → Int32) → Prop, ∀ r d x ms mh mg, d + r = m → (x.1 ≤ 60 ∧ (x.2 < 100 ∨ x.2 = 999)) → rfD m k D ms → (∀ ms' mh' mg', rfD m k D ms' → K62 (nI ((fsI (swV m K H D n) c r d x).1 + 1)) (pR (fsI (swV m K H D n) c r d x)) (nI (c + 1)) ms' mh' mg') → wX6_sooner_L79 (nI n) (nI c) mo K62 (r + 1) (nI (x.1 + 1)) (pR x) (nI d) ms mh mg := by
    intro c hcm K62 r
    induction r with
    | zero =>
      intro d x ms mh mg hi hx hr hK
      have hi : d = m := by omega
      subst hi
      unfold wX6_sooner_L79
      rw [nI_1, hm.1]
      exact ifp (Int32.le_refl _) (hK _ _ _ hr)
    | succ r ih =>
      intro d x ms mh mg hi hx hr hK
      have hdm : d < m := by omega
      unfold wX6_sooner_L79
      rw [hm.1, ifF (by simp (disch := omega) only [zl_0, zl_1, zl_2, zl_3, zl_4, zl_5, zl_6, zl_7, zl_8, zl_9, zl_10, zl_14, zl_16, zl_20, zl_24, zl_32, zl_40, zl_42, zl_44, zl_48, zl_56, zl_57, zl_59, zl_60, zl_61, zl_64, zl_99, zl_100, zl_110, zl_126, zl_128, zl_200, zl_392, zl_999, zl_9999, nI_add, pk_mul, nI_leI, nI_ltI, nI_eq, nI_clamp, vpn, pk_sub]; omega)]
      refine ref_changes hm7 hr hk6 hcm hdm (fun ms1 h1 => ?_)
      refine r_comesIn (swD_ok ok hcm hdm) hd9 hm h1 hn (fun ms2 mh2 mg2 h2 => ?_)
      refine ref_changes hm7 h2 hk6 hcm hdm (fun ms3 h3 => ?_)
      have h4 := rfD_sw2 h3
      have hp : 1 ≤ swV m K H D n c d := swV_pos h9
      have hle2 := swV_le (m := m) (K := K) (H := H) (D := D) (n := n) (c := c) (d := d)
      have e0 : cmf m K H (dP (swD D c d)) (dS (swD D c d)) 60 0 (nx (swD D c d) n) = swV m K H D n c d := rfl
      rw [e0]
      have hK : ∀ ms' mh' mg', rfD m k D ms' → K62 (nI ((fsI (swV m K H D n) c r (d + 1) (if swV m K H D n c d ≤ x.1 then (swV m K H D n c d - 1, 10 * c + d) else x)).1 + 1)) (pR (fsI (swV m K H D n) c r (d + 1) (if swV m K H D n c d ≤ x.1 then (swV m K H D n c d - 1, 10 * c + d) else x))) (nI (c + 1)) ms' mh' mg' := hK
      by_cases h99 : swV m K H D n c d = 99
      · rw [if_neg (by omega)] at hK
        refine ifp (by rw [h99]; rfl) ?_
        rw [nI_1]
        exact ih (d + 1) x _ _ _ (by omega) hx h4 hK
      · have e4 : cmI (swV m K H D n c d) = nI (swV m K H D n c d) := by unfold cmI; rw [if_neg h99]
        rw [e4]
        refine ifn (nI_ne4 _ (by omega)) ?_
        by_cases hle : swV m K H D n c d ≤ x.1
        · rw [if_pos hle] at hK
          refine ifn (by simp (disch := omega) only [zl_0, zl_1, zl_2, zl_3, zl_4, zl_5, zl_6, zl_7, zl_8, zl_9, zl_10, zl_14, zl_16, zl_20, zl_24, zl_32, zl_40, zl_42, zl_44, zl_48, zl_56, zl_57, zl_59, zl_60, zl_61, zl_64, zl_99, zl_100, zl_110, zl_126, zl_128, zl_200, zl_392, zl_999, zl_9999, nI_add, pk_mul, nI_leI, nI_ltI, nI_eq, nI_clamp, vpn, pk_sub]; omega) ?_
          have e6 : ((10 : Int32) * nI c) + nI d = pR (swV m K H D n c d - 1, 10 * c + d) := by
            have a2 : (10 : Int32) = nI 10 := rfl
            unfold pR
            rw [if_neg (show ¬ 10 * c + d = 999 by omega), a2, pk_mul, nI_add]
          rw [nmx, e6, nI_1]
          have g := ih (d + 1) (swV m K H D n c d - 1, 10 * c + d) ms3 mh2 mg2 (by omega) ⟨by show swV m K H D n c d - 1 ≤ 60; omega, Or.inl (by show 10 * c + d < 100; omega)⟩ h4 hK
          have e7 : (swV m K H D n c d - 1, 10 * c + d).1 + 1 = swV m K H D n c d := by show swV m K H D n c d - 1 + 1 = _; omega
          rw [e7] at g
          exact g
        · rw [if_neg hle] at hK
          refine ifp (by simp (disch := omega) only [zl_0, zl_1, zl_2, zl_3, zl_4, zl_5, zl_6, zl_7, zl_8, zl_9, zl_10, zl_14, zl_16, zl_20, zl_24, zl_32, zl_40, zl_42, zl_44, zl_48, zl_56, zl_57, zl_59, zl_60, zl_61, zl_64, zl_99, zl_100, zl_110, zl_126, zl_128, zl_200, zl_392, zl_999, zl_9999, nI_add, pk_mul, nI_leI, nI_ltI, nI_eq, nI_clamp, vpn, pk_sub]; omega) ?_
          rw [nI_1]
          exact ih (d + 1) x _ _ _ (by omega) hx h4 hK
  have outer : ∀ r c x ms mh mg, c + r = m → (x.1 ≤ 60 ∧ (x.2 < 100 ∨ x.2 = 999)) → rfD m k D ms → fsO (swV m K H D n) m r c x = fsO (swV m K H D n) m m 0 (l0, 999) → wX6_sooner_L62 (nI n) y mo Q (r + 1) (nI (x.1 + 1)) (pR x) (nI c) ms mh mg := by
    intro r
    induction r with
    | zero =>
      intro c x ms mh mg hi hx hr he
      have hi : c = m := by omega
      have he : x = fsO (swV m K H D n) m m 0 (l0, 999) := he
      unfold wX6_sooner_L62
      rw [hm.1]
      refine ifp (by rw [hi]; exact Int32.le_refl _) ?_
      rw [← he] at hQ
      by_cases g1 : x.2 = 999
      · refine ifp (by unfold pR; rw [if_pos g1]) (hQ _ (by rw [if_pos g1]; unfold pR; rw [if_pos g1]) _ _ _ hr)
      · have e1 : pR x = nI x.2 := by unfold pR; rw [if_neg g1]
        rw [e1]
        refine ifn (nI_ne4 _ (by omega)) ?_
        by_cases g2 : y = 0
        · exact ifp g2 (hQ _ (by rw [if_neg g1, if_pos g2]) _ _ _ hr)
        · exact ifn g2 (hQ _ (by rw [if_neg g1, if_neg g2]) _ _ _ hr)
    | succ r ih =>
      intro c x ms mh mg hi hx hr he
      unfold wX6_sooner_L62
      rw [hm.1, ifF (by simp (disch := omega) only [zl_0, zl_1, zl_2, zl_3, zl_4, zl_5, zl_6, zl_7, zl_8, zl_9, zl_10, zl_14, zl_16, zl_20, zl_24, zl_32, zl_40, zl_42, zl_44, zl_48, zl_56, zl_57, zl_59, zl_60, zl_61, zl_64, zl_99, zl_100, zl_110, zl_126, zl_128, zl_200, zl_392, zl_999, zl_9999, nI_add, pk_mul, nI_leI, nI_ltI, nI_eq, nI_clamp, vpn, pk_sub]; omega), nmx, nI_1]
      have hcm : c < m := by omega
      refine ⟨m - (c + 1) + 1, inner c hcm _ (m - (c + 1)) (c + 1) x _ _ _ (by omega) hx hr (fun ms' mh' mg' hr2 => ?_)⟩
      exact ih (c + 1) _ _ _ _ (by omega) (fsI_ok (by omega) _ _ x (by omega) hx) hr2 he
  exact ⟨m + 1, outer m 0 (l0, 999) ms mh mg (by omega) ⟨hl0, Or.inr rfl⟩ hr rfl⟩
theorem sim_sooner (x y : Int32) (ok : okD m k K H D) (hd9 : dd D ≤ 999) (hc : ctC m k K H D kd hd pl st ho be nc nn dy) (hm : rfM m k K H mo) (hr : rfD m k D ms) :
    ∃ r : Int32, (∀ Q : Int32 → (Nat → Int32) → (Nat → Int32) → (Nat → Int32) → (Nat → Int32) → (Nat → Int32) → (Nat → Int32) → Int32 → Int32 → Int32 → Prop, (∀ a b c d e f g h i, Q r a b c d e f g h i) → wX5_sooner x y kd hd pl st ho be nc nn dy kt ht pt tt ot bt ct ut yt Q) ∧
      (∀ Q : Int32 → (Nat → Int32) → (Nat → Int32) → (Nat → Int32) → Prop, (∀ ms' mh' mg', rfD m k D ms' → Q r ms' mh' mg') → wX6_sooner x y mo ms mh mg Q) := by
  have hm7 := ok.1.2.1
  have hk6 := ok.2.2.1
  by_cases hx : ix x k
  · obtain ⟨n, n1, rfl⟩ := hx
    have e8 : (8 : Int32) + nI n = nI (8 + n) := nI_add 8 n
    have ha := ok.A n1
    by_cases hz : rg y 0 1
    · have h7 : ∀ Q2 : Int32 → Prop, wX5_isIn y 0 1 Q2 = Q2 1 := fun Q2 => by
        obtain ⟨j, j0, j1, rfl⟩ := hz
        exact e_isInT (lo := 0) (hi := 1) j0 j1 (by omega)
      have h8 : ∀ Q2 : Int32 → Prop, wX6_in y 0 1 Q2 = Q2 1 := fun Q2 => by
        obtain ⟨j, j0, j1, rfl⟩ := hz
        exact r_inT (lo := 0) (hi := 1) j0 j1 (by omega)
      by_cases h9 : dA D n = 9
      · refine ⟨-2, fun Q hQ => ?_, fun Q hQ => ?_⟩
        · unfold wX5_sooner
          rw [hc.2.1, e_isN_T n1 (by omega), ifF (by decide), h7, ifF (by decide), e_isKnown (by omega) (hc.2.2.2.2 n n1).1 ha, if_pos h9, ifF (by decide)]
          exact hQ _ _ _ _ _ _ _ _ _
        · unfold wX6_sooner
          rw [r_isN_T hm.2.1 n1 (by omega), ifF (by decide), h8, ifF (by decide), e8, nI_clamp (by omega), vpn (by omega), (hr.2.2.1 n n1).1, ifT (show nI (dA D n) = (9 : Int32) by rw [h9]; rfl)]
          exact ⟨by omega, hQ _ _ _ hr⟩
      · have hv0 := cmf_le m K H (dP D) (dS D) 60 0 (nx D n) (by omega)
        have hv1 : 1 ≤ cmf m K H (dP D) (dS D) 60 0 (nx D n) := cmf_pos (x := nx D n) (r := 60) (i := 0) h9 (by omega)
        obtain ⟨l0, hl0⟩ : ∃ l0, l0 = if cmf m K H (dP D) (dS D) 60 0 (nx D n) = 99 then 60 else cmf m K H (dP D) (dS D) 60 0 (nx D n) - 1 := ⟨_, rfl⟩
        have hl : l0 ≤ 60 := by rw [hl0]; split <;> omega
        have hok := fsO_ok (v := swV m K H D n) hm7 m 0 (l0, 999) (by omega) ⟨hl, Or.inr rfl⟩
        refine ⟨if (fsO (swV m K H D n) m m 0 (l0, 999)).2 = 999 then -4 else if y = 0 then nI (fsO (swV m K H D n) m m 0 (l0, 999)).2 else nI ((fsO (swV m K H D n) m m 0 (l0, 999)).1 + 1), fun Q hQ => ?_, fun Q hQ => ?_⟩
        · unfold wX5_sooner
          rw [hc.2.1, e_isN_T n1 (by omega), ifF (by decide), h7, ifF (by decide), e_isKnown (by omega) (hc.2.2.2.2 n n1).1 ha, if_neg h9, ifT rfl, ← hc.2.1]
          refine s_soonest l0 hl0 ok hd9 hc n1 h9 (fun a b c e f g h i j => ?_)
          unfold pC
          by_cases g1 : (fsO (swV m K H D n) m m 0 (l0, 999)).2 = 999
          · rw [if_pos g1] at hQ ⊢
            rw [ifT rfl]
            exact hQ _ _ _ _ _ _ _ _ _
          · rw [if_neg g1] at hQ ⊢
            have dv := div_fin ((fsO (swV m K H D n) m m 0 (l0, 999)).1 + 1) (by omega) _ (hok.2.resolve_right g1)
            have hp2 : ∀ b, b < 10000 → ¬ nI b = (-4) := fun b hb => by
              intro g
              have := congrArg Int32.toInt g
              rw [nI_toInt (by omega)] at this
              have e : (-4 : Int32).toInt = -4 := by decide
              rw [e] at this
              omega
            have dv2 := dv.2
            rw [dv.1] at dv2
            rw [ifF (hp2 _ (by omega)), dv.1, dv2]
            by_cases g2 : y = 0
            · rw [if_pos g2] at hQ
              refine ifp g2 ?_
              exact hQ _ _ _ _ _ _ _ _ _
            · rw [if_neg g2] at hQ
              exact ifn g2 (hQ _ _ _ _ _ _ _ _ _)
        · unfold wX6_sooner
          rw [r_isN_T hm.2.1 n1 (by omega), ifF (by decide), h8, ifF (by decide), e8, nI_clamp (by omega), vpn (by omega), (hr.2.2.1 n n1).1, ifF (show ¬ nI (dA D n) = (9 : Int32) by simp (disch := omega) only [zl_0, zl_1, zl_2, zl_3, zl_4, zl_5, zl_6, zl_7, zl_8, zl_9, zl_10, zl_14, zl_16, zl_20, zl_24, zl_32, zl_40, zl_42, zl_44, zl_48, zl_56, zl_57, zl_59, zl_60, zl_61, zl_64, zl_99, zl_100, zl_110, zl_126, zl_128, zl_200, zl_392, zl_999, zl_9999, nI_add, pk_mul, nI_leI, nI_ltI, nI_eq, nI_clamp, vpn, pk_sub]; exact h9)]
          refine ⟨by omega, r_comesIn ok hd9 hm hr n1 (fun ms1 mh1 mg1 h1 => ?_)⟩
          have g := r_soonest (y := y) (mh := mh1) (mg := mg1) l0 hl ok hd9 hm h1 n1 h9 (fun r hr2 ms' mh' mg' h3 => by rw [hr2]; exact hQ ms' mh' mg' h3)
          by_cases hv : cmf m K H (dP D) (dS D) 60 0 (nx D n) = 99
          · rw [if_pos hv] at hl0
            rw [hl0] at g
            exact ifp (by rw [hv]; rfl) g
          · rw [if_neg hv] at hl0
            have e4 : cmI (cmf m K H (dP D) (dS D) 60 0 (nx D n)) = nI (cmf m K H (dP D) (dS D) 60 0 (nx D n)) := by unfold cmI; rw [if_neg hv]
            rw [e4]
            refine ifn (nI_ne4 _ (by omega)) ?_
            rw [show l0 + 1 = cmf m K H (dP D) (dS D) 60 0 (nx D n) by omega] at g
            exact g
    · have h7 : ∀ Q2 : Int32 → Prop, wX5_isIn y 0 1 Q2 = Q2 0 := fun Q2 => e_isInF (lo := 0) (hi := 1) hz (by omega) (by omega)
      have h8 : ∀ Q2 : Int32 → Prop, wX6_in y 0 1 Q2 = Q2 0 := fun Q2 => r_inF (lo := 0) (hi := 1) hz (by omega) (by omega)
      refine ⟨-1, fun Q hQ => ?_, fun Q hQ => ?_⟩
      · unfold wX5_sooner
        rw [hc.2.1, e_isN_T n1 (by omega), ifF (by decide), h7, ifT rfl]
        exact hQ _ _ _ _ _ _ _ _ _
      · unfold wX6_sooner
        rw [r_isN_T hm.2.1 n1 (by omega), ifF (by decide), h8, ifT rfl]
        exact hQ _ _ _ hr
  · refine ⟨-1, fun Q hQ => ?_, fun Q hQ => ?_⟩
    · unfold wX5_sooner
      rw [hc.2.1, e_isN_F hx (by omega), ifT rfl]
      exact hQ _ _ _ _ _ _ _ _ _
    · unfold wX6_sooner
      rw [r_isN_F hm.2.1 hx ok.2.1 (by omega), ifT rfl]
      exact hQ _ _ _ hr
end SIM
