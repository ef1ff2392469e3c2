/-! tongues: the reference -/
theorem setbit_fin : ∀ s, s < 256 → ∀ c, c < 8 → (nI s >>> (nI c &&& 31)) &&& (1 : Int32) = nI (s / 2 ^ c % 2) := by decide +kernel
theorem shl8_fin : ∀ m, m < 9 → (1 : Int32) <<< (nI m &&& 31) = nI (2 ^ m) := by decide +kernel
theorem p10_8 : (10 : Nat) ^ 8 = 100000000 := by decide
section SIM
variable {m k : Nat} {K H : Nat → Nat} {D : Dy} {mo ms mh mg : Nat → Int32}
theorem r_path {n x d s : Nat} {K150 : Int32 → (Nat → Int32) → (Nat → Int32) → Prop} (ok : okD m k K H D) (hd9 : dd D ≤ 999) (hm : rfM m k K H mo) (hr : rfD m k D ms) (hx : x ≤ 10) (hd8 : d ≤ 8) (hs : s < 256)
    (hQ : ∀ w E ms' mh', w * kn1 n E = vlD m k K H n x d s D → w ≤ 10 ^ d → okD m k K H E → rfD m k E ms' → K150 (nI w) ms' mh') : ∃ f, wX6_tongues_L89 (nI d) (nI x) (nI s) mo K150 f 1 0 ms mh := by
  have v10 : (10 : Int32) = nI 10 := rfl
  have key : ∀ r i w E ms1 mh1, i + r = d → w ≤ 10 ^ i → okD m k K H E → dd E + r < 4000 → rfD m k E ms1 → w * vlD m k K H n x r (s / 2 ^ i) E = vlD m k K H n x d s D → wX6_tongues_L89 (nI d) (nI x) (nI s) mo K150 (r + 1) (nI w) (nI i) ms1 mh1 := by
    intro r
    induction r with
    | zero =>
      intro i w E ms1 mh1 hi hw hE hdE hrE he
      have hi : i = d := by omega
      subst hi
      unfold wX6_tongues_L89
      exact ifp (Int32.le_refl _) (hQ w E _ _ he hw hE hrE)
    | succ r ih =>
      intro i w E ms1 mh1 hi hw hE hdE hrE he
      have hp : 10 ^ (i + 1) = 10 * 10 ^ i := by rw [Nat.pow_succ, Nat.mul_comm]
      have hp2 : s / 2 ^ (i + 1) = s / 2 ^ i / 2 := by rw [Nat.pow_succ, Nat.div_div_eq_div_mul]
      have hsub : (10 : Int32) - nI x = nI (10 - x) := pk_sub (a := 10) (b := x) hx
      unfold wX6_tongues_L89
      rw [ifF (by simp (disch := omega) only [zl_0, zl_1, zl_2, zl_3, zl_4, zl_5, zl_6, zl_7, zl_8, zl_9, zl_10, zl_14, zl_16, zl_20, zl_24, zl_32, zl_40, zl_42, zl_44, zl_48, zl_56, zl_57, zl_59, zl_60, zl_61, zl_64, zl_99, zl_100, zl_110, zl_126, zl_128, zl_200, zl_392, zl_999, zl_9999, nI_add, pk_mul, nI_leI, nI_ltI, nI_eq, nI_clamp, vpn, pk_sub]; omega), setbit_fin s hs i (by omega), nmx, nmx, pk_mul, hsub, pk_mul, nI_1]
      have hv : vlD m k K H n x (r + 1) (s / 2 ^ i) E = if s / 2 ^ i % 2 = 1 then x * vlD m k K H n x r (s / 2 ^ i / 2) (dyD m K H (slD k E)) else (10 - x) * vlD m k K H n x r (s / 2 ^ i / 2) (dyD m K H E) := rfl
      rw [hv] at he
      have hds : dd (slD k E) = dd E := slD_dd
      by_cases hb : s / 2 ^ i % 2 = 1
      · rw [if_pos hb] at he
        refine ifp (by rw [hb]; rfl) ?_
        refine r_slips hE hm hrE (fun ms2 g2 => ref_passes (slD_ok hE) hm g2 (fun ms3 mh3 g3 => ?_))
        refine ih (i + 1) (w * x) _ ms3 mh3 (by omega) ?_ (dyD_ok (slD_ok hE) (by rw [hds]; omega)) (by show dd (slD k E) + 1 + r < 4000; rw [hds]; omega) g3 ?_
        · have := Nat.mul_le_mul hw hx
          rw [hp]
          omega
        · rw [hp2, Nat.mul_assoc]
          exact he
      · rw [if_neg hb] at he
        have hb0 : s / 2 ^ i % 2 = 0 := by omega
        refine ifn (by rw [hb0]; decide) ?_
        refine ref_passes hE hm hrE (fun ms3 mh3 g3 => ?_)
        refine ih (i + 1) (w * (10 - x)) _ ms3 mh3 (by omega) ?_ (dyD_ok hE (by omega)) (by show dd E + 1 + r < 4000; omega) g3 ?_
        · have := Nat.mul_le_mul hw (show 10 - x ≤ 10 by omega)
          rw [hp]
          omega
        · rw [hp2, Nat.mul_assoc]
          exact he
  exact ⟨d + 1, key d 0 1 D ms mh (by omega) (by decide) ok (by omega) hr (by rw [Nat.pow_zero, Nat.div_one, Nat.one_mul])⟩
theorem rsum_mono (f : Nat → Nat) : ∀ {i j : Nat}, i ≤ j → rsum f i ≤ rsum f j := by
  intro i j h
  obtain ⟨e, rfl⟩ := Nat.exists_eq_add_of_le h
  rw [rsum_split]
  omega
theorem r_tongues {n x d part : Nat} {Q : Int32 → (Nat → Int32) → (Nat → Int32) → (Nat → Int32) → Prop} (ok : okD m k K H D) (hd9 : dd D ≤ 999) (hm : rfM m k K H mo) (hr : rfD m k D ms) (hn : n < k) (hx : x ≤ 10) (hd8 : d ≤ 8) (hpt : part ≤ 1)
    (hQ : ∀ ms' mh' mg', rfD m k D ms' → Q (nI ((if part = 0 then chD m k K H n x d D else 10 ^ d) / Nat.gcd (chD m k K H n x d D) (10 ^ d))) ms' mh' mg') : wX6_tongues (nI n) (nI d) (nI x) (nI part) mo ms mh mg Q := by
  have hm7 := ok.1.2.1
  have hk6 := ok.2.2.1
  have v10 : (10 : Int32) = nI 10 := rfl
  have e8 : (8 : Int32) + nI n = nI (8 + n) := nI_add 8 n
  have hin : ∀ a b, a ≤ b → b < 100 → ∀ Q2 : Int32 → Prop, wX6_in (nI a) 0 (nI b) Q2 = Q2 1 := fun a b h h2 Q2 => r_inT (lo := 0) (Nat.zero_le a) h (by omega)
  have p10 : ∀ i, i ≤ 8 → 10 ^ i ≤ 100000000 := fun i hi => by
    have := Nat.pow_le_pow_right (show 0 < 10 by decide) hi
    rw [p10_8] at this
    exact this
  have p2 : 2 ^ d ≤ 2 ^ 8 := Nat.pow_le_pow_right (by decide) hd8
  have hch := ch_le (m := m) (k := k) (K := K) (H := H) (n := n) hx d D
  have hpd := p10 d hd8
  have h10 : 1 ≤ 10 ^ d := Nat.one_le_pow _ _ (by decide)
  unfold wX6_tongues
  have i1 : ∀ Q2 : Int32 → Prop, wX6_in (nI d) 0 8 Q2 = Q2 1 := hin d 8 hd8 (by omega)
  have i2 : ∀ Q2 : Int32 → Prop, wX6_in (nI x) 0 10 Q2 = Q2 1 := hin x 10 hx (by omega)
  have i3 : ∀ Q2 : Int32 → Prop, wX6_in (nI part) 0 1 Q2 = Q2 1 := hin part 1 hpt (by omega)
  rw [r_isN_T hm.2.1 hn (by omega), ifF (by decide), i1, ifF (by decide), i2, ifF (by decide), i3, ifF (by decide)]
  refine ref_holds (fun mg' hg1 => ?_)
  -- Euclid
  have gcdl : ∀ ms2 mh2, rfD m k D ms2 → ∃ f, wX6_tongues_L193 (nI part) (nI (chD m k K H n x d D)) (nI (10 ^ d)) ms2 mh2 mg' Q f (nI (chD m k K H n x d D)) (nI (10 ^ d)) := by
    intro ms2 mh2 h2
    obtain ⟨N, hN, h⟩ := euc_done 27 (chD m k K H n x d D) (10 ^ d) (by omega)
    have hgp : 0 < Nat.gcd (chD m k K H n x d D) (10 ^ d) := Nat.gcd_pos_of_pos_right _ (by omega)
    have hgl : Nat.gcd (chD m k K H n x d D) (10 ^ d) ≤ 10 ^ d := Nat.gcd_le_right _ (by omega)
    have g := h (fun N a b => a < 2 ^ 30 → b < 2 ^ 30 → Nat.gcd a b = Nat.gcd (chD m k K H n x d D) (10 ^ d) → wX6_tongues_L193 (nI part) (nI (chD m k K H n x d D)) (nI (10 ^ d)) ms2 mh2 mg' Q (N + 1) (nI a) (nI b)) (fun N a b => ⟨fun h0 ha hb hg => ?_, fun h0 ih ha hb hg => ?_⟩)
    · exact ⟨N + 1, g (by omega) (by omega) rfl⟩
    · rw [h0, Nat.gcd_zero_right] at hg
      have z : ¬ nI a = (0 : Int32) := fun q => by have := (nI_eq (b := 0) (by omega) (by omega)).mp q; omega
      unfold wX6_tongues_L193
      rw [h0]
      refine ifp (by decide) ?_
      have q := hQ ms2 mh2 mg' h2
      rw [hg, pk_div (by omega) hgp (by omega), pk_div (by omega) hgp (by omega)]
      rw [hg] at z
      by_cases hp0 : part = 0
      · rw [if_pos hp0] at q
        exact ifp (by rw [hp0]; rfl) ⟨z, q⟩
      · rw [if_neg hp0] at q
        exact ifn (fun e => hp0 ((nI_eq (b := 0) (by omega) (by omega)).mp e)) ⟨z, q⟩
    · have hmod := Nat.mod_lt a h0
      have z : ¬ nI b = (0 : Int32) := fun q => by have := (nI_eq (b := 0) (by omega) (by omega)).mp q; omega
      have zl : ¬ nI b ≤ (0 : Int32) := fun q => by have := (nI_leI (b := 0) (by omega) (by omega)).mp q; omega
      unfold wX6_tongues_L193
      rw [ifF zl, nmx, pk_rem (by omega) h0 (by omega)]
      refine ⟨z, ih (by omega) (by omega) ?_⟩
      rw [← hg, Nat.gcd_comm a b, Nat.gcd_rec b a, Nat.gcd_comm]
  -- all sets
  have sets : ∃ f, wX6_tongues_L75 (nI n) (nI d) (nI x) mo mg' (fun x5_75 ms_76 mh_77 => (∃ n_84 : Nat, wX6_tongues_L193 (nI part) x5_75 (nI (10 ^ d)) ms_76 mh_77 mg' Q n_84 x5_75 (nI (10 ^ d)))) f 0 0 ms mh := by
    have key : ∀ r i ms1 mh1, i + r = 2 ^ d → rfD m k D ms1 → wX6_tongues_L75 (nI n) (nI d) (nI x) mo mg' (fun x5_75 ms_76 mh_77 => (∃ n_84 : Nat, wX6_tongues_L193 (nI part) x5_75 (nI (10 ^ d)) ms_76 mh_77 mg' Q n_84 x5_75 (nI (10 ^ d)))) (r + 1) (nI (rsum (fun s => vlD m k K H n x d s D) i)) (nI i) ms1 mh1 := by
      intro r
      induction r with
      | zero =>
        intro i ms1 mh1 hi h1
        unfold wX6_tongues_L75
        rw [shl8_fin d (by omega)]
        refine ifp (by rw [show i = 2 ^ d by omega]; exact Int32.le_refl _) ?_
        rw [show i = 2 ^ d by omega, ch_sum]
        exact gcdl _ _ h1
      | succ r ih =>
        intro i ms1 mh1 hi h1
        unfold wX6_tongues_L75
        rw [shl8_fin d (by omega), ifF (by simp (disch := omega) only [zl_0, zl_1, zl_2, zl_3, zl_4, zl_5, zl_6, zl_7, zl_8, zl_9, zl_10, zl_14, zl_16, zl_20, zl_24, zl_32, zl_40, zl_42, zl_44, zl_48, zl_56, zl_57, zl_59, zl_60, zl_61, zl_64, zl_99, zl_100, zl_110, zl_126, zl_128, zl_200, zl_392, zl_999, zl_9999, nI_add, pk_mul, nI_leI, nI_ltI, nI_eq, nI_clamp, vpn, pk_sub]; omega), nI_1]
        refine r_path (n := n) ok hd9 hm h1 hx hd8 (by omega) (fun w E ms2 mh2 g1 g2 gE g3 => ?_)
        have hpw := p10 d hd8
        have ha := gE.A hn
        rw [e8, nI_clamp (by omega), vpn (by omega), (g3.2.2.1 n hn).1]
        refine ⟨by omega, ?_⟩
        have h3 := fun ms1 mh1 => ih (i + 1) ms1 mh1 (by omega)
        have er : rsum (fun s => vlD m k K H n x d s D) (i + 1) = rsum (fun s => vlD m k K H n x d s D) i + w * kn1 n E := by
          rw [g1]
          rfl
        rw [er] at h3
        unfold kn1 at h3
        by_cases h9 : dA E n = 9
        · rw [if_pos h9, Nat.mul_one] at h3
          refine ifp (by rw [h9]; rfl) ?_
          rw [nmx, nI_add]
          exact ref_lets (fun ms4 g4 => h3 _ _ (rfD_holds hm7 hk6 hr hg1 g4))
        · rw [if_neg h9, Nat.mul_zero, Nat.add_zero] at h3
          refine ifn (fun e => h9 ((nI_eq (b := 9) (by omega) (by omega)).mp e)) ?_
          rw [nmx, Int32.add_zero]
          exact ref_lets (fun ms4 g4 => h3 _ _ (rfD_holds hm7 hk6 hr hg1 g4))
    exact ⟨2 ^ d + 1, key (2 ^ d) 0 ms mh (by omega) hr⟩
  have key : ∀ r i, i + r = d → wX6_tongues_L53 (nI d) (fun x6_18 => (∃ n_85 : Nat, wX6_tongues_L75 (nI n) (nI d) (nI x) mo mg' (fun x5_75 ms_76 mh_77 => (∃ n_84 : Nat, wX6_tongues_L193 (nI part) x5_75 x6_18 ms_76 mh_77 mg' Q n_84 x5_75 x6_18)) n_85 (0 : Int32) (0 : Int32) ms mh)) (r + 1) (nI (10 ^ i)) (nI i) := by
    intro r
    induction r with
    | zero =>
      intro i hi
      unfold wX6_tongues_L53
      refine ifp (by rw [show i = d by omega]; exact Int32.le_refl _) ?_
      rw [show i = d by omega]
      exact sets
    | succ r ih =>
      intro i hi
      unfold wX6_tongues_L53
      rw [ifF (by simp (disch := omega) only [zl_0, zl_1, zl_2, zl_3, zl_4, zl_5, zl_6, zl_7, zl_8, zl_9, zl_10, zl_14, zl_16, zl_20, zl_24, zl_32, zl_40, zl_42, zl_44, zl_48, zl_56, zl_57, zl_59, zl_60, zl_61, zl_64, zl_99, zl_100, zl_110, zl_126, zl_128, zl_200, zl_392, zl_999, zl_9999, nI_add, pk_mul, nI_leI, nI_ltI, nI_eq, nI_clamp, vpn, pk_sub]; omega), nmx, v10, pk_mul, nI_1]
      exact ih (i + 1) (by omega)
  exact ⟨d + 1, key d 0 (by omega)⟩
theorem r_tongues_bad {x y z w : Int32} (Q : Int32 → (Nat → Int32) → (Nat → Int32) → (Nat → Int32) → Prop) (ok : okD m k K H D) (hm : rfM m k K H mo) (h : ¬ (ix x k ∧ rg y 0 8 ∧ rg z 0 10 ∧ rg w 0 1)) (hQ : Q (-1) ms mh mg) : wX6_tongues x y z w mo ms mh mg Q := by
  have hk6 := ok.2.2.1
  unfold wX6_tongues
  by_cases h1 : ix x k
  · have g1 : ∀ Q2 : Int32 → Prop, wX6_isNews x mo Q2 = Q2 1 := fun Q2 => by
      obtain ⟨n, n1, rfl⟩ := h1
      exact r_isN_T hm.2.1 n1 (by omega)
    rw [g1, ifF (by decide)]
    by_cases h2 : rg y 0 8
    · have g2 : ∀ Q2 : Int32 → Prop, wX6_in y 0 8 Q2 = Q2 1 := fun Q2 => by
        obtain ⟨j, j0, j1, rfl⟩ := h2
        exact r_inT (lo := 0) (hi := 8) j0 j1 (by omega)
      rw [g2, ifF (by decide)]
      by_cases h3 : rg z 0 10
      · have g3 : ∀ Q2 : Int32 → Prop, wX6_in z 0 10 Q2 = Q2 1 := fun Q2 => by
          obtain ⟨j, j0, j1, rfl⟩ := h3
          exact r_inT (lo := 0) (hi := 10) j0 j1 (by omega)
        rw [g3, ifF (by decide)]
        have h4 : ¬ rg w 0 1 := fun h4 => h ⟨h1, h2, h3, h4⟩
        have g4 : ∀ Q2 : Int32 → Prop, wX6_in w 0 1 Q2 = Q2 0 := fun Q2 => r_inF (lo := 0) (hi := 1) h4 (by omega) (by omega)
        rw [g4, ifT rfl]
        exact hQ
      · have g3 : ∀ Q2 : Int32 → Prop, wX6_in z 0 10 Q2 = Q2 0 := fun Q2 => r_inF (lo := 0) (hi := 10) h3 (by omega) (by omega)
        rw [g3, ifT rfl]
        exact hQ
    · have g2 : ∀ Q2 : Int32 → Prop, wX6_in y 0 8 Q2 = Q2 0 := fun Q2 => r_inF (lo := 0) (hi := 8) h2 (by omega) (by omega)
      rw [g2, ifT rfl]
      exact hQ
  · rw [r_isN_F hm.2.1 h1 ok.2.1 (by omega), ifT rfl]
    exact hQ
end SIM
