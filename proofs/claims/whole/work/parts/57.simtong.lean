section SIM
variable {m k : Nat} {K H : Nat → Nat} {D : Dy} {kd hd pl st ho be : Nat → Int32} {nc nn dy : Int32} {mo ms mh mg : Nat → Int32}
theorem s_ten {d : Nat} (hd8 : d ≤ 8) {K98 : Int32 → Prop} (h : K98 (nI (10 ^ d))) : ∃ f, wX5_tongues_L79 (nI d) K98 f 1 0 := by
  have v10 : (10 : Int32) = nI 10 := rfl
  have key : ∀ r i, i + r = d → wX5_tongues_L79 (nI d) K98 (r + 1) (nI (10 ^ i)) (nI i) := by
    intro r
    induction r with
    | zero =>
      intro i hi
      unfold wX5_tongues_L79
      refine ifp (by rw [show i = d by omega]; exact Int32.le_refl _) ?_
      rw [show i = d by omega]
      exact h
    | succ r ih =>
      intro i hi
      unfold wX5_tongues_L79
      rw [ifF (by simp (disch := omega) only [zl_0, zl_1, zl_2, zl_3, zl_4, zl_5, zl_6, zl_7, zl_8, zl_9, zl_10, zl_14, zl_16, zl_20, zl_24, zl_32, zl_40, zl_42, zl_44, zl_48, zl_56, zl_57, zl_59, zl_60, zl_61, zl_64, zl_99, zl_100, zl_110, zl_126, zl_128, zl_200, zl_392, zl_999, zl_9999, nI_add, pk_mul, nI_leI, nI_ltI, nI_eq, nI_clamp, vpn, pk_sub]; omega), nmx, v10, pk_mul, nI_1]
      exact ih (i + 1) (by omega)
  exact ⟨d + 1, key d 0 (by omega)⟩
theorem s_tongues {n d x part sk : Nat} {sv : List CV} {Q : Int32 → Nat → List CV → Prop} (ok : okD m k K H D) (hd9 : dd D ≤ 999) (hc : ctC m k K H D kd hd pl st ho be nc nn dy) (hn : n < k) (hx : x ≤ 10) (hd8 : d ≤ 8) (hpt : part ≤ 1)
    (hQ : ∀ sk' sv', sk' ≤ 9 → sv'.length = 9 → Q (nI ((if part = 0 then chD m k K H n x d D else 10 ^ d) / Nat.gcd (chD m k K H n x d D) (10 ^ d))) sk' sv') : wX5_tongues (nI n) (nI d) (nI x) (nI part) kd hd pl st ho be nc nn dy sk sv Q := by
  have hk6 := ok.2.2.1
  have hch := ch_le (m := m) (k := k) (K := K) (H := H) (n := n) hx d D
  have hpd : 10 ^ d ≤ 100000000 := by rw [← p10_8]; exact Nat.pow_le_pow_right (by decide) hd8
  have h10 : 1 ≤ 10 ^ d := Nat.one_le_pow _ _ (by decide)
  unfold wX5_tongues
  have i1 : ∀ Q2 : Int32 → Prop, wX5_isIn (nI d) 0 8 Q2 = Q2 1 := fun Q2 => e_isInT (lo := 0) (hi := 8) (by omega) hd8 (by omega)
  have i2 : ∀ Q2 : Int32 → Prop, wX5_isIn (nI x) 0 10 Q2 = Q2 1 := fun Q2 => e_isInT (lo := 0) (hi := 10) (by omega) hx (by omega)
  have i3 : ∀ Q2 : Int32 → Prop, wX5_isIn (nI part) 0 1 Q2 = Q2 1 := fun Q2 => e_isInT (lo := 0) (hi := 1) (by omega) hpt (by omega)
  rw [hc.2.1, e_isN_T hn (by omega), ifF (by decide), i1, ifF (by decide), i2, ifF (by decide), i3, ifF (by decide)]
  refine ⟨m, k, K, H, D, n, d, x, rfl, rfl, rfl, hx, hn, hd8, ok, by omega, by rw [← hc.2.1]; exact hc, fun r u hr hu => ?_⟩
  subst hr
  refine s_ten hd8 (e_gcd (by omega) (by omega) ?_)
  have hgp : 0 < Nat.gcd (chD m k K H n x d D) (10 ^ d) := Nat.gcd_pos_of_pos_right _ (by omega)
  have hgl : Nat.gcd (chD m k K H n x d D) (10 ^ d) ≤ 10 ^ d := Nat.gcd_le_right _ (by omega)
  have z : ¬ nI (Nat.gcd (chD m k K H n x d D) (10 ^ d)) = (0 : Int32) := fun q => by have := (nI_eq (b := 0) (by omega) (by omega)).mp q; omega
  have z1 : (1 : Int32) ≤ nI (Nat.gcd (chD m k K H n x d D) (10 ^ d)) := (nI_leI (a := 1) (by omega) (by omega)).mpr hgp
  have q := hQ (pushK 9 0) u (by decide) hu
  have e1 := pk_div (a := chD m k K H n x d D) (d := Nat.gcd (chD m k K H n x d D) (10 ^ d)) (by omega) hgp (by omega)
  have e2 := pk_div (a := 10 ^ d) (d := Nat.gcd (chD m k K H n x d D) (10 ^ d)) (by omega) hgp (by omega)
  by_cases hp0 : part = 0
  · rw [if_pos hp0] at q
    refine ifp (by rw [hp0]; rfl) (ifp z1 ⟨z, ?_⟩)
    rw [e1]
    exact q
  · rw [if_neg hp0] at q
    refine ifn (fun e => hp0 ((nI_eq (b := 0) (by omega) (by omega)).mp e)) (ifp z1 ⟨z, ?_⟩)
    rw [e2]
    exact q
theorem s_tongues_bad {x y z w : Int32} {sk : Nat} {sv : List CV} {Q : Int32 → Nat → List CV → Prop} (ok : okD m k K H D) (hc : ctC m k K H D kd hd pl st ho be nc nn dy) (h : ¬ (ix x k ∧ rg y 0 8 ∧ rg z 0 10 ∧ rg w 0 1)) (hQ : Q (-1) sk sv) : wX5_tongues x y z w kd hd pl st ho be nc nn dy sk sv Q := by
  have hk6 := ok.2.2.1
  unfold wX5_tongues
  rw [hc.2.1]
  by_cases h1 : ix x k
  · have g1 : ∀ Q2 : Int32 → Prop, wX0_isNews x (nI k) Q2 = Q2 1 := fun Q2 => by
      obtain ⟨n, n1, rfl⟩ := h1
      exact e_isN_T n1 (by omega)
    rw [g1, ifF (by decide)]
    by_cases h2 : rg y 0 8
    · have g2 : ∀ Q2 : Int32 → Prop, wX5_isIn y 0 8 Q2 = Q2 1 := fun Q2 => by
        obtain ⟨j, j0, j1, rfl⟩ := h2
        exact e_isInT (lo := 0) (hi := 8) j0 j1 (by omega)
      rw [g2, ifF (by decide)]
      by_cases h3 : rg z 0 10
      · have g3 : ∀ Q2 : Int32 → Prop, wX5_isIn z 0 10 Q2 = Q2 1 := fun Q2 => by
          obtain ⟨j, j0, j1, rfl⟩ := h3
          exact e_isInT (lo := 0) (hi := 10) j0 j1 (by omega)
        rw [g3, ifF (by decide)]
        have h4 : ¬ rg w 0 1 := fun h4 => h ⟨h1, h2, h3, h4⟩
        have g4 : ∀ Q2 : Int32 → Prop, wX5_isIn w 0 1 Q2 = Q2 0 := fun Q2 => e_isInF (lo := 0) (hi := 1) h4 (by omega) (by omega)
        rw [g4, ifT rfl]
        exact hQ
      · have g3 : ∀ Q2 : Int32 → Prop, wX5_isIn z 0 10 Q2 = Q2 0 := fun Q2 => e_isInF (lo := 0) (hi := 10) h3 (by omega) (by omega)
        rw [g3, ifT rfl]
        exact hQ
    · have g2 : ∀ Q2 : Int32 → Prop, wX5_isIn y 0 8 Q2 = Q2 0 := fun Q2 => e_isInF (lo := 0) (hi := 8) h2 (by omega) (by omega)
      rw [g2, ifT rfl]
      exact hQ
  · rw [e_isN_F h1 (by omega), ifT rfl]
    exact hQ
theorem sim_tongues (x y z w : Int32) {sk : Nat} {sv : List CV} (hsk : sk ≤ 9) (hsv : sv.length = 9) (ok : okD m k K H D) (hd9 : dd D ≤ 999) (hc : ctC m k K H D kd hd pl st ho be nc nn dy) (hm : rfM m k K H mo) (hr : rfD m k D ms) :
    ∃ r : Int32, (∀ Q : Int32 → Nat → List CV → Prop, (∀ sk' sv', sk' ≤ 9 → sv'.length = 9 → Q r sk' sv') → wX5_tongues x y z w kd hd pl st ho be nc nn dy sk sv Q) ∧
      (∀ Q : Int32 → (Nat → Int32) → (Nat → Int32) → (Nat → Int32) → Prop, (∀ ms' mh' mg', rfD m k D ms' → Q r ms' mh' mg') → wX6_tongues x y z w mo ms mh mg Q) := by
  by_cases h : ix x k ∧ rg y 0 8 ∧ rg z 0 10 ∧ rg w 0 1
  · obtain ⟨⟨n, hn, rfl⟩, ⟨d, -, hd8, rfl⟩, ⟨x, -, hx, rfl⟩, ⟨part, -, hp, rfl⟩⟩ := h
    exact ⟨_, fun Q hQ => s_tongues ok hd9 hc hn hx hd8 hp hQ, fun Q hQ => r_tongues ok hd9 hm hr hn hx hd8 hp hQ⟩
  · exact ⟨-1, fun Q hQ => s_tongues_bad ok hc h (hQ _ _ hsk hsv), fun Q hQ => r_tongues_bad Q ok hm h (hQ _ _ _ hr)⟩
end SIM
