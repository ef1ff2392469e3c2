/-! reigns -/
theorem draw_in {z k : Nat} (hz : z < 10000) (hk : k < 100) : (((7919 : Int64) * ((nI z).toInt64)) + ((6151 : Int64) * ((nI k).toInt64))) + (1 : Int64) = lN (7919 * z + 6151 * k + 1) := by
  have hmx : Int32.maxValue.toInt = 2147483647 := by decide
  have e1 : (nI z).toInt64 = Int64.ofNat z := Int32.toInt64_ofNat' (by rw [hmx]; omega)
  have e2 : (nI k).toInt64 = Int64.ofNat k := Int32.toInt64_ofNat' (by rw [hmx]; omega)
  rw [e1, e2]
  show ((Int64.ofNat 7919 * Int64.ofNat z) + (Int64.ofNat 6151 * Int64.ofNat k)) + Int64.ofNat 1 = Int64.ofNat (7919 * z + 6151 * k + 1)
  rw [← Int64.ofNat_mul, ← Int64.ofNat_mul, ← Int64.ofNat_add, ← Int64.ofNat_add]
def drw (z k : Nat) : Nat := (7919 * z + 6151 * k + 1) * (7919 * z + 6151 * k + 1) % 65521
theorem drw_lt (z k : Nat) : drw z k < 65521 := Nat.mod_lt _ (by decide)
theorem draw_out {z k : Nat} (hz : z < 10000) (hk : k < 100) : ((((lN (7919 * z + 6151 * k + 1)) * (lN (7919 * z + 6151 * k + 1))) - ((lN (7919 * z + 6151 * k + 1)) * (lN (7919 * z + 6151 * k + 1))) / (65521 : Int64) * (65521 : Int64))).toInt32 = nI (drw z k) := by
  have e1 : (lN (7919 * z + 6151 * k + 1)) * (lN (7919 * z + 6151 * k + 1)) = lN ((7919 * z + 6151 * k + 1) * (7919 * z + 6151 * k + 1)) := (Int64.ofNat_mul _ _).symm
  have e2 : (65521 : Int64) = lN 65521 := rfl
  have hb : 7919 * z + 6151 * k + 1 < 80000000 := by omega
  have hbb : (7919 * z + 6151 * k + 1) * (7919 * z + 6151 * k + 1) < 2 ^ 63 := Nat.lt_of_lt_of_le (Nat.mul_lt_mul'' hb hb) (by decide)
  rw [e1, e2, pk_lRem hbb (by decide) (by decide)]
  exact Int64.toInt32_ofNat'
theorem e_draw {z k : Nat} {Q : Int32 → Prop} (hz : z < 10000) (hk : k < 100) : wX5_draw (nI z) (nI k) Q = Q (nI (drw z k)) := by
  unfold wX5_draw
  rw [nmx, draw_in hz hk, draw_out hz hk]
theorem e_rem {a d : Nat} {Q : Int32 → Prop} (ha : a < 100000) (h0 : 0 < d) (hd2 : d < 100) : wX5_remainder (nI a) (nI d) Q = Q (nI (a % d)) := by
  unfold wX5_remainder
  have v1 : (1 : Int32) ≤ nI d := (nI_leI (a := 1) (b := d) (by omega) (by omega)).mpr h0
  have v0 : ¬ nI d = (0 : Int32) := fun g => by
    have := (nI_eq (a := d) (b := 0) (by omega) (by omega)).mp g
    omega
  rw [ifT v1, pk_rem (by omega) h0 (by omega)]
  exact propext ⟨fun h => h.2, fun h => ⟨v0, h⟩⟩
/-- a turn -/
def tnD (m k : Nat) (D : Dy) (w : Nat) : Dy :=
  if w % 8 = 0 then setB D (w / 64 % k) (w / 8 % m) (min 9 (dB D (w / 64 % k) (w / 8 % m) + 3))
  else if w % 8 = 1 then setB D (w / 64 % k) (w / 8 % m) (dB D (w / 64 % k) (w / 8 % m) - 3)
  else if w % 8 = 2 then (if dA D (w / 64 % k) = 9 then D else setA D (w / 64 % k) (w / 8 % m))
  else if w % 8 = 3 then swD D (w / 8 % m) (w / 64 % m)
  else D
section SIM
variable {m k : Nat} {K H : Nat → Nat} {D : Dy} {kd hd pl st ho be : Nat → Int32} {nc nn dy : Int32} {kt ht pt tt ot bt : Nat → Int32} {ct ut yt : Int32} {mo ms mh mg : Nat → Int32}
theorem tnD_ok {w : Nat} (ok : okD m k K H D) : okD m k K H (tnD m k D w) := by
  have h1 : w / 8 % m < m := Nat.mod_lt _ (by have := ok.1.1; omega)
  have h2 : w / 64 % k < k := Nat.mod_lt _ (by have := ok.2.1; omega)
  have h3 : w / 64 % m < m := Nat.mod_lt _ (by have := ok.1.1; omega)
  have hb := ok.B h2 h1
  unfold tnD
  split
  · exact setB_ok ok (Nat.min_le_left _ _)
  · split
    · exact setB_ok ok (by omega)
    · split
      · split
        · exact ok
        · exact setA_ok ok (Or.inl h1)
      · split
        · exact swD_ok ok h1 h3
        · exact ok
theorem tnD_dd {w : Nat} : dd (tnD m k D w) = dd D := by
  unfold tnD
  split
  · rfl
  · split
    · rfl
    · split
      · split <;> rfl
      · split <;> rfl
theorem swD_self {c : Nat} (ok : okD m k K H D) (hc : c < m) : swD D c c = D := by
  have h := ok.1.P hc
  have e1 : (fun i => if i = c then dP D c else if i = c then dP D c else dP D i) = dP D := by
    funext i
    by_cases e : i = c
    · rw [if_pos e, e]
    · rw [if_neg e, if_neg e]
  have e2 : (fun q => if q = dP D c then c else if q = dP D c then c else dS D q) = dS D := by
    funext q
    by_cases e : q = dP D c
    · rw [if_pos e, e]; exact h.2.symm
    · rw [if_neg e, if_neg e]
  show ((fun i => if i = c then dP D c else if i = c then dP D c else dP D i), (fun q => if q = dP D c then c else if q = dP D c then c else dS D q), dA D, dB D, dd D) = D
  rw [e1, e2]
theorem s_obey {w : Nat} {Q : (Nat → Int32) → (Nat → Int32) → (Nat → Int32) → (Nat → Int32) → Prop} (ok : okD m k K H D) (hc : ctC m k K H D kd hd pl st ho be nc nn dy) (hw : w < 65521) (hQ : ∀ pl' st' ho' be', ctC m k K H (tnD m k D w) kd hd pl' st' ho' be' nc nn dy → Q pl' st' ho' be') : wX0_obey (nI w) pl st ho be nc nn Q := by
  have hm7 := ok.1.2.1
  have hk6 := ok.2.2.1
  have m1 := ok.1.1
  have k1 := ok.2.1
  have h1 : w / 8 % m < m := Nat.mod_lt _ (by omega)
  have h2 : w / 64 % k < k := Nat.mod_lt _ (by omega)
  have h3 : w / 64 % m < m := Nat.mod_lt _ (by omega)
  have d8 : nI w / (8 : Int32) = nI (w / 8) := pk_div (a := w) (d := 8) (by omega) (by decide) (by decide)
  have d64 : nI w / (64 : Int32) = nI (w / 64) := pk_div (a := w) (d := 64) (by omega) (by decide) (by decide)
  have r8 : nI w - nI w / (8 : Int32) * (8 : Int32) = nI (w % 8) := pk_rem (a := w) (d := 8) (by omega) (by decide) (by decide)
  have lt8 : w % 8 < 8 := Nat.mod_lt _ (by decide)
  have hb := ok.B h2 h1
  unfold wX0_obey
  rw [r8, d8, d64, hc.1, hc.2.1, e_rem (by omega) (by omega) (by omega), e_rem (by omega) (by omega) (by omega), e_rem (by omega) (by omega) (by omega), e_believes (by omega) (by omega), (hc.2.2.2.2 _ h2).2 _ h1]
  have e3 : nI (dB D (w / 64 % k) (w / 8 % m)) + (3 : Int32) = nI (dB D (w / 64 % k) (w / 8 % m) + 3) := nI_add _ 3
  have e3m : nI (dB D (w / 64 % k) (w / 8 % m)) - (3 : Int32) = nI (dB D (w / 64 % k) (w / 8 % m)) - nI 3 := rfl
  have ne : ∀ a, a < 8 → ∀ b, b < 8 → (nI a = nI b ↔ a = b) := fun a ha b hb => nI_eq (by omega) (by omega)
  refine ⟨fun g => ?_, fun g => ?_, fun g => ?_, fun g => ?_, fun g => ?_⟩
  · rw [nI_toInt (by omega)] at g
    have e : tnD m k D w = D := by unfold tnD; rw [if_neg (by omega), if_neg (by omega), if_neg (by omega), if_neg (by omega)]
    rw [e] at hQ
    exact hQ _ _ _ _ hc
  · have g : w % 8 = 0 := (ne _ lt8 0 (by omega)).mp g
    rw [e3, e_cut (by omega), e_setBelief (by omega) (by omega)]
    have e : tnD m k D w = setB D (w / 64 % k) (w / 8 % m) (min 9 (dB D (w / 64 % k) (w / 8 % m) + 3)) := by unfold tnD; rw [if_pos g]
    rw [e] at hQ
    exact hQ _ _ _ _ (setB_ct hm7 h2 h1 hc)
  · have g : w % 8 = 1 := (ne _ lt8 1 (by omega)).mp g
    rw [e_believes (by omega) (by omega), (hc.2.2.2.2 _ h2).2 _ h1, e3m, e_cutm (by omega) (by omega), e_setBelief (by omega) (by omega)]
    have e : tnD m k D w = setB D (w / 64 % k) (w / 8 % m) (dB D (w / 64 % k) (w / 8 % m) - 3) := by unfold tnD; rw [if_neg (by omega), if_pos g]
    rw [e] at hQ
    exact hQ _ _ _ _ (setB_ct hm7 h2 h1 hc)
  · have g : w % 8 = 2 := (ne _ lt8 2 (by omega)).mp g
    rw [e_isKnown (by omega) (hc.2.2.2.2 _ h2).1 (ok.A h2)]
    by_cases h9 : dA D (w / 64 % k) = 9
    · have e : tnD m k D w = D := by unfold tnD; rw [if_neg (by omega), if_neg (by omega), if_pos g, if_pos h9]
      rw [e] at hQ
      rw [if_pos h9]
      exact ifn (by decide) (hQ _ _ _ _ hc)
    · have e : tnD m k D w = setA D (w / 64 % k) (w / 8 % m) := by unfold tnD; rw [if_neg (by omega), if_neg (by omega), if_pos g, if_neg h9]
      rw [e] at hQ
      rw [if_neg h9, ifT rfl, e_put (by omega) (by decide)]
      exact hQ _ _ _ _ (setA_ct hc)
  · have g : w % 8 = 3 := (ne _ lt8 3 (by omega)).mp g
    try rw [e_rem (by omega) (by omega) (by omega)]
    rw [e_changePlaces ok.1 hc.2.2.2.1 h1 h3]
    have e : tnD m k D w = swD D (w / 8 % m) (w / 64 % m) := by unfold tnD; rw [if_neg (by omega), if_neg (by omega), if_neg (by omega), if_pos g]
    rw [e] at hQ
    exact hQ _ _ _ _ ⟨hc.1, hc.2.1, hc.2.2.1, swD_ctS ok.1 hc.2.2.2.1 h1 h3, hc.2.2.2.2⟩
theorem wv3p : ∀ b, b < 10 → wv (nI b + 3) = nI (min 9 (b + 3)) := by decide +kernel
theorem wv3m : ∀ b, b < 10 → wv (nI b + (-3)) = nI (b - 3) := by decide +kernel
theorem r_turn {w : Nat} {Q : (Nat → Int32) → Prop} (ok : okD m k K H D) (hm : rfM m k K H mo) (hr : rfD m k D ms) (hw : w < 65521) (hQ : ∀ ms', rfD m k (tnD m k D w) ms' → Q ms') : wX6_turn (nI w) mo ms Q := by
  have hm7 := ok.1.2.1
  have hk6 := ok.2.2.1
  have m1 := ok.1.1
  have k1 := ok.2.1
  have h1 : w / 8 % m < m := Nat.mod_lt _ (by omega)
  have h2 : w / 64 % k < k := Nat.mod_lt _ (by omega)
  have h3 : w / 64 % m < m := Nat.mod_lt _ (by omega)
  have d8 : nI w / (8 : Int32) = nI (w / 8) := pk_div (a := w) (d := 8) (by omega) (by decide) (by decide)
  have d64 : nI w / (64 : Int32) = nI (w / 64) := pk_div (a := w) (d := 64) (by omega) (by decide) (by decide)
  have r8 : nI w - nI w / (8 : Int32) * (8 : Int32) = nI (w % 8) := pk_rem (a := w) (d := 8) (by omega) (by decide) (by decide)
  have lt8 : w % 8 < 8 := Nat.mod_lt _ (by decide)
  have hb := ok.B h2 h1
  have ne : ∀ a, a < 8 → ∀ b, b < 8 → (nI a = nI b ↔ a = b) := fun a ha b hb => nI_eq (by omega) (by omega)
  have z1 : ¬ nI m = (0 : Int32) := fun g => by
    have := (nI_eq (a := m) (b := 0) (by omega) (by omega)).mp g
    omega
  have z2 : ¬ nI k = (0 : Int32) := fun g => by
    have := (nI_eq (a := k) (b := 0) (by omega) (by omega)).mp g
    omega
  have q1 : nI (w / 8) - nI (w / 8) / nI m * nI m = nI (w / 8 % m) := pk_rem (by omega) (by omega) (by omega)
  have q2 : nI (w / 64) - nI (w / 64) / nI k * nI k = nI (w / 64 % k) := pk_rem (by omega) (by omega) (by omega)
  have q3 : nI (w / 64) - nI (w / 64) / nI m * nI m = nI (w / 64 % m) := pk_rem (by omega) (by omega) (by omega)
  have e1 : ((14 : Int32) + ((7 : Int32) * nI (w / 64 % k))) + nI (w / 8 % m) = nI (14 + 7 * (w / 64 % k) + w / 8 % m) := by
    have v14 : (14 : Int32) = nI 14 := rfl
    have v7 : (7 : Int32) = nI 7 := rfl
    rw [v14, v7, pk_mul, nI_add, nI_add]
  have e8 : (8 : Int32) + nI (w / 64 % k) = nI (8 + w / 64 % k) := nI_add 8 _
  have v2 : (2 : Int32) = nI 2 := rfl
  unfold wX6_turn
  simp only [nmx]
  rw [r8, d8, d64, hm.1, hm.2.1, q1, q2, q3, e1, e8, nI_clamp (by omega), nI_clamp (by omega), vpn (by omega), vpn (by omega), (hr.2.2.1 _ h2).1, (hr.2.2.1 _ h2).2 _ h1, r_within, r_within, wv3p _ (by omega), wv3m _ (by omega)]
  refine ⟨z1, z2, z1, ?_⟩
  by_cases g0 : w % 8 = 0
  · have e : tnD m k D w = setB D (w / 64 % k) (w / 8 % m) (min 9 (dB D (w / 64 % k) (w / 8 % m) + 3)) := by unfold tnD; rw [if_pos g0]
    rw [e] at hQ
    refine ifn (by rw [g0]; decide) ⟨by omega, ifp (by rw [g0]; rfl) ⟨by omega, hQ _ (setB_rf hm7 hk6 h2 h1 hr)⟩⟩
  by_cases g1 : w % 8 = 1
  · have e : tnD m k D w = setB D (w / 64 % k) (w / 8 % m) (dB D (w / 64 % k) (w / 8 % m) - 3) := by unfold tnD; rw [if_neg g0, if_pos g1]
    rw [e] at hQ
    refine ifn (by rw [g1]; decide) ⟨by omega, ifn (by rw [g1]; decide) ⟨by omega, hQ _ (setB_rf hm7 hk6 h2 h1 hr)⟩⟩
  rw [ifT (show (2 : Int32) ≤ nI (w % 8) from (nI_leI (a := 2) (b := w % 8) (by omega) (by omega)).mpr (by omega))]
  by_cases g2 : w % 8 = 2
  · refine ifp (by rw [g2]; rfl) ⟨by omega, ?_⟩
    by_cases h9 : dA D (w / 64 % k) = 9
    · have e : tnD m k D w = D := by unfold tnD; rw [if_neg g0, if_neg g1, if_pos g2, if_pos h9]
      rw [e] at hQ
      exact ifp (by rw [h9]; rfl) (ifn (by rw [g2]; decide) (hQ _ hr))
    · have e : tnD m k D w = setA D (w / 64 % k) (w / 8 % m) := by unfold tnD; rw [if_neg g0, if_neg g1, if_pos g2, if_neg h9]
      rw [e] at hQ
      have ha := ok.A h2
      exact ifn (by intro g; exact h9 ((nI_eq (b := 9) (by omega) (by omega)).mp g)) ⟨by omega, hQ _ (setA_rf hm7 hk6 h2 hr)⟩
  · refine ifn (fun g => g2 ((ne _ lt8 2 (by omega)).mp g)) ?_
    by_cases g3 : w % 8 = 3
    · have e : tnD m k D w = swD D (w / 8 % m) (w / 64 % m) := by unfold tnD; rw [if_neg g0, if_neg g1, if_neg g2, if_pos g3]
      rw [e] at hQ
      refine ifp (by rw [g3]; rfl) ?_
      by_cases e5 : w / 8 % m = w / 64 % m
      · rw [← e5, swD_self ok h1] at hQ
        exact ifp (by rw [e5]) (hQ _ hr)
      · exact ifn (fun g => e5 ((nI_eq (by omega) (by omega)).mp g)) (ref_changes hm7 hr hk6 h1 h3 hQ)
    · have e : tnD m k D w = D := by unfold tnD; rw [if_neg g0, if_neg g1, if_neg g2, if_neg g3]
      rw [e] at hQ
      exact ifn (fun g => g3 ((ne _ lt8 3 (by omega)).mp g)) (hQ _ hr)
/-- r turns from i on -/
def rgD (m k : Nat) (K H : Nat → Nat) (z : Nat) : Nat → Nat → Dy → Dy
  | 0, _, D => D
  | r + 1, i, D => rgD m k K H z r (i + 1) (dyD m K H (tnD m k D (drw z i)))
theorem sim_reign (x y z : Int32) (ok : okD m k K H D) (hd9 : dd D ≤ 999) (hc : ctC m k K H D kd hd pl st ho be nc nn dy) (hm : rfM m k K H mo) (hr : rfD m k D ms) :
    ∃ r : Int32, (∀ Q : Int32 → (Nat → Int32) → (Nat → Int32) → (Nat → Int32) → (Nat → Int32) → (Nat → Int32) → (Nat → Int32) → Int32 → Int32 → Int32 → Prop, (∀ a b c d e f g h i, Q r a b c d e f g h i) → wX5_reign x y z kd hd pl st ho be nc nn dy kt ht pt tt ot bt ct ut yt Q) ∧
      (∀ Q : Int32 → (Nat → Int32) → (Nat → Int32) → (Nat → Int32) → Prop, (∀ ms' mh' mg', rfD m k D ms' → Q r ms' mh' mg') → wX6_reign x y z mo ms mh mg Q) := by
  have hm7 := ok.1.2.1
  have hk6 := ok.2.2.1
  by_cases hx : rg x 0 9999
  · obtain ⟨q, q0, q1, rfl⟩ := hx
    have h3 : ∀ Q2 : Int32 → Prop, wX5_isIn (nI q) 0 9999 Q2 = Q2 1 := fun Q2 => e_isInT (lo := 0) (hi := 9999) q0 q1 (by omega)
    have h4 : ∀ Q2 : Int32 → Prop, wX6_in (nI q) 0 9999 Q2 = Q2 1 := fun Q2 => r_inT (lo := 0) (hi := 9999) q0 q1 (by omega)
    by_cases hy : rg y 1 60
    · obtain ⟨d, d0, d1, rfl⟩ := hy
      have h5 : ∀ Q2 : Int32 → Prop, wX5_isIn (nI d) 1 60 Q2 = Q2 1 := fun Q2 => e_isInT (lo := 1) (hi := 60) d0 d1 (by omega)
      have h6 : ∀ Q2 : Int32 → Prop, wX6_in (nI d) 1 60 Q2 = Q2 1 := fun Q2 => r_inT (lo := 1) (hi := 60) d0 d1 (by omega)
      by_cases hz : rg z 0 1
      · have h7 : ∀ Q2 : Int32 → Prop, wX5_isIn z 0 1 Q2 = Q2 1 := fun Q2 => by
          obtain ⟨j, j0, j1, rfl⟩ := hz
          exact e_isInT (lo := 0) (hi := 1) j0 j1 (by omega)
        have h8 : ∀ Q2 : Int32 → Prop, wX6_in z 0 1 Q2 = Q2 1 := fun Q2 => by
          obtain ⟨j, j0, j1, rfl⟩ := hz
          exact r_inT (lo := 0) (hi := 1) j0 j1 (by omega)
        let E0 := rgD m k K H q d 0 D
        refine ⟨if z = 0 then nI (kn (dA E0) k) else nI (bsum m k (dB E0)), fun Q hQ => ?_, fun Q hQ => ?_⟩
        · unfold wX5_reign
          rw [h3, ifF (by decide), h5, ifF (by decide), h7, ifF (by decide)]
          refine s_copy hm7 hk6 hc (fun kd' hd' pl' st' ho' be' hc2 => ?_)
          have key : ∀ r i E pl1 st1 ho1 be1 dy1, i + r = d → okD m k K H E → dd E + r < 4000 → ctC m k K H E kd' hd' pl1 st1 ho1 be1 nc nn dy1 → rgD m k K H q r i E = E0 → wX5_reign_L46 (nI q) (nI d) z kd' hd' nc nn Q (r + 1) (nI i) pl1 st1 ho1 be1 dy1 := by
            intro r
            induction r with
            | zero =>
              intro i E pl1 st1 ho1 be1 dy1 hi hE hdE hcE he
              have hi : i = d := by omega
              subst hi
              have he : E = E0 := he
              unfold wX5_reign_L46
              rw [ifT (Int32.le_refl _)]
              rw [← he] at hQ
              by_cases g : z = 0
              · rw [if_pos g] at hQ
                refine ifp g ?_
                rw [hcE.2.1]
                exact s_known hk6 (fun n hn => ⟨(hcE.2.2.2.2 n hn).1, hE.A hn⟩) (hQ _ _ _ _ _ _ _ _ _)
              · rw [if_neg g] at hQ
                refine ifn g ?_
                rw [hcE.2.1, hcE.1]
                exact s_beliefs hm7 hk6 (fun n hn c hc2 => ⟨(hcE.2.2.2.2 n hn).2 c hc2, hE.B hn hc2⟩) (hQ _ _ _ _ _ _ _ _ _)
            | succ r ih =>
              intro i E pl1 st1 ho1 be1 dy1 hi hE hdE hcE he
              unfold wX5_reign_L46
              rw [ifF (by simp (disch := omega) only [zl_0, zl_1, zl_2, zl_3, zl_4, zl_5, zl_6, zl_7, zl_8, zl_9, zl_10, zl_14, zl_16, zl_20, zl_24, zl_32, zl_40, zl_42, zl_44, zl_48, zl_56, zl_57, zl_59, zl_60, zl_61, zl_64, zl_99, zl_100, zl_110, zl_126, zl_128, zl_200, zl_392, zl_999, zl_9999, nI_add, pk_mul, nI_leI, nI_ltI, nI_eq, nI_clamp, vpn, pk_sub]; omega), e_draw (by omega) (by omega)]
              refine s_obey hE hcE (drw_lt q i) (fun pl2 st2 ho2 be2 g2 => ?_)
              refine s_live (tnD_ok hE) g2 (fun ho3 be3 dy3 g3 => ?_)
              rw [nI_1]
              have hdt : dd (tnD m k E (drw q i)) = dd E := tnD_dd
              exact ih (i + 1) _ pl2 st2 ho3 be3 dy3 (by omega) (dyD_ok (tnD_ok hE) (by rw [hdt]; omega)) (by show dd (tnD m k E (drw q i)) + 1 + r < 4000; rw [hdt]; omega) g3 he
          exact ⟨d + 1, key d 0 D _ _ _ _ _ (by omega) ok (by omega) hc2 rfl⟩
        · unfold wX6_reign
          rw [h4, ifF (by decide), h6, ifF (by decide), h8, ifF (by decide)]
          refine ref_holds (fun mg' hg1 => ?_)
          have key : ∀ r i E ms1 mh1, i + r = d → okD m k K H E → dd E + r < 4000 → rfD m k E ms1 → rgD m k K H q r i E = E0 → wX6_reign_L39 (nI q) (nI d) mo (fun ms_21 mh_22 => ((z = 0 → (wX6_manyKnown mo ms_21 (fun r_26 => (wX6_lets ms_21 mg' (fun ms_27 => (Q r_26 ms_27 mh_22 mg')))))) ∧ (¬ z = 0 → (wX6_beliefs ms_21 (fun r_24 => (wX6_lets ms_21 mg' (fun ms_25 => (Q r_24 ms_25 mh_22 mg')))))))) (r + 1) (nI i) ms1 mh1 := by
            intro r
            induction r with
            | zero =>
              intro i E ms1 mh1 hi hE hdE hrE he
              have hi : i = d := by omega
              subst hi
              have he : E = E0 := he
              unfold wX6_reign_L39
              rw [ifT (Int32.le_refl _)]
              rw [← he] at hQ
              by_cases g : z = 0
              · rw [if_pos g] at hQ
                exact ifp g (ref_known (m := m) (K := K) (H := H) hk6 hm.2.1 (fun n hn => ⟨(hrE.2.2.1 n hn).1, hE.A hn⟩) (ref_lets (fun ms3 g3 => hQ _ _ _ (rfD_holds hm7 hk6 hr hg1 g3))))
              · rw [if_neg g] at hQ
                exact ifn g (ref_beliefs hm7 hk6 hrE (fun n hn c hc2 => hE.B hn hc2) (ref_lets (fun ms3 g3 => hQ _ _ _ (rfD_holds hm7 hk6 hr hg1 g3))))
            | succ r ih =>
              intro i E ms1 mh1 hi hE hdE hrE he
              unfold wX6_reign_L39
              rw [ifF (by simp (disch := omega) only [zl_0, zl_1, zl_2, zl_3, zl_4, zl_5, zl_6, zl_7, zl_8, zl_9, zl_10, zl_14, zl_16, zl_20, zl_24, zl_32, zl_40, zl_42, zl_44, zl_48, zl_56, zl_57, zl_59, zl_60, zl_61, zl_64, zl_99, zl_100, zl_110, zl_126, zl_128, zl_200, zl_392, zl_999, zl_9999, nI_add, pk_mul, nI_leI, nI_ltI, nI_eq, nI_clamp, vpn, pk_sub]; omega), nmx, draw_in (by omega) (by omega), draw_out (by omega) (by omega)]
              refine r_turn hE hm hrE (drw_lt q i) (fun ms2 g2 => ?_)
              refine ref_passes (tnD_ok hE) hm g2 (fun ms3 mh3 g3 => ?_)
              rw [nI_1]
              have hdt : dd (tnD m k E (drw q i)) = dd E := tnD_dd
              exact ih (i + 1) _ ms3 mh3 (by omega) (dyD_ok (tnD_ok hE) (by rw [hdt]; omega)) (by show dd (tnD m k E (drw q i)) + 1 + r < 4000; rw [hdt]; omega) g3 he
          exact ⟨d + 1, key d 0 D ms mh (by omega) ok (by omega) hr rfl⟩
      · have h7 : ∀ Q2 : Int32 → Prop, wX5_isIn z 0 1 Q2 = Q2 0 := fun Q2 => e_isInF (lo := 0) (hi := 1) hz (by omega) (by omega)
        have h8 : ∀ Q2 : Int32 → Prop, wX6_in z 0 1 Q2 = Q2 0 := fun Q2 => r_inF (lo := 0) (hi := 1) hz (by omega) (by omega)
        refine ⟨-1, fun Q hQ => ?_, fun Q hQ => ?_⟩
        · unfold wX5_reign
          rw [h3, ifF (by decide), h5, ifF (by decide), h7, ifT rfl]
          exact hQ _ _ _ _ _ _ _ _ _
        · unfold wX6_reign
          rw [h4, ifF (by decide), h6, ifF (by decide), h8, ifT rfl]
          exact hQ _ _ _ hr
    · have h5 : ∀ Q2 : Int32 → Prop, wX5_isIn y 1 60 Q2 = Q2 0 := fun Q2 => e_isInF (lo := 1) (hi := 60) hy (by omega) (by omega)
      have h6 : ∀ Q2 : Int32 → Prop, wX6_in y 1 60 Q2 = Q2 0 := fun Q2 => r_inF (lo := 1) (hi := 60) hy (by omega) (by omega)
      refine ⟨-1, fun Q hQ => ?_, fun Q hQ => ?_⟩
      · unfold wX5_reign
        rw [h3, ifF (by decide), h5, ifT rfl]
        exact hQ _ _ _ _ _ _ _ _ _
      · unfold wX6_reign
        rw [h4, ifF (by decide), h6, ifT rfl]
        exact hQ _ _ _ hr
  · have h3 : ∀ Q2 : Int32 → Prop, wX5_isIn x 0 9999 Q2 = Q2 0 := fun Q2 => e_isInF (lo := 0) (hi := 9999) hx (by omega) (by omega)
    have h4 : ∀ Q2 : Int32 → Prop, wX6_in x 0 9999 Q2 = Q2 0 := fun Q2 => r_inF (lo := 0) (hi := 9999) hx (by omega) (by omega)
    refine ⟨-1, fun Q hQ => ?_, fun Q hQ => ?_⟩
    · unfold wX5_reign
      rw [h3, ifT rfl]
      exact hQ _ _ _ _ _ _ _ _ _
    · unfold wX6_reign
      rw [h4, ifT rfl]
      exact hQ _ _ _ hr
end SIM
