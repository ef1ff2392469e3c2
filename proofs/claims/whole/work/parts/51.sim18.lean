/-! tongues -/
def slF (A : Nat → Nat) : Nat → Nat → Nat
  | 0, _ => 99
  | r + 1, i => if A i = 9 then slF A r (i + 1) else i
theorem slF_s (A : Nat → Nat) (r i : Nat) : slF A (r + 1) i = if A i = 9 then slF A r (i + 1) else i := rfl
def upA (D : Dy) (a : Nat) : Nat := if dP D a = 0 then 9 else dS D (dP D a - 1)
def slD (k : Nat) (D : Dy) : Dy := if slF (dA D) k 0 = 99 then D else setA D (slF (dA D) k 0) (upA D (dA D (slF (dA D) k 0)))
theorem slF_in (A : Nat → Nat) : ∀ r i, slF A r i = 99 ∨ (i ≤ slF A r i ∧ slF A r i < i + r ∧ A (slF A r i) ≠ 9)
  | 0, _ => Or.inl rfl
  | r + 1, i => by
    unfold slF
    split
    · rcases slF_in A r (i + 1) with g | g
      · exact Or.inl g
      · exact Or.inr ⟨by omega, by omega, g.2.2⟩
    · rename_i h
      exact Or.inr ⟨Nat.le_refl _, by omega, h⟩
/-- Euclid is done soon -/
def euc (T : Nat → Nat → Nat → Prop) : Prop := ∀ n a b, (b = 0 → T n a b) ∧ (0 < b → T n b (a % b) → T (n + 1) a b)
theorem half_mod {a b : Nat} (hr : 0 < a % b) (hb : 0 < b) : 2 * (b % (a % b)) < b := by
  have h1 := Nat.mod_lt a hb
  have h2 := Nat.mod_lt b hr
  have h3 := Nat.div_add_mod b (a % b)
  have h4 : 1 ≤ b / (a % b) := (Nat.one_le_div_iff hr).mpr (by omega)
  have h5 : a % b * 1 ≤ a % b * (b / (a % b)) := Nat.mul_le_mul_left _ h4
  omega
theorem euc_done : ∀ t a b, b < 2 ^ t → ∃ n, n ≤ 2 * t + 1 ∧ ∀ T, euc T → T n a b
  | 0, a, b, h => ⟨0, by omega, fun T hT => (hT 0 a b).1 (by have : b < 1 := h; omega)⟩
  | t + 1, a, b, h => by
    by_cases hb : b = 0
    · exact ⟨0, by omega, fun T hT => (hT 0 a b).1 hb⟩
    by_cases hr : a % b = 0
    · exact ⟨1, by omega, fun T hT => (hT 0 a b).2 (by omega) ((hT 0 b (a % b)).1 hr)⟩
    have hh := half_mod (a := a) (b := b) (by omega) (by omega)
    have hp : 2 ^ (t + 1) = 2 * 2 ^ t := by rw [Nat.pow_succ, Nat.mul_comm]
    obtain ⟨n, h1, h2⟩ := euc_done t (a % b) (b % (a % b)) (by omega)
    exact ⟨n + 2, by omega, fun T hT => (hT (n + 1) a b).2 (by omega) ((hT n b (a % b)).2 (by omega) (h2 T hT))⟩
theorem e_gcd {a b : Nat} {Q : Int32 → Prop} (ha : a < 2 ^ 30) (hb : b < 2 ^ 27) (hQ : Q (nI (Nat.gcd a b))) : wX5_commonDivisor (nI a) (nI b) Q := by
  obtain ⟨n, hn, h⟩ := euc_done 27 a b hb
  have g := h (fun n a b => a < 2 ^ 30 → b < 2 ^ 30 → ∀ i, i + n < 100 → Q (nI (Nat.gcd a b)) → wX5_commonDivisor_L2 Q (n + 1) (nI a) (nI b) (nI i)) (fun n a b => ⟨fun h0 ha hb i hi hq => ?_, fun h0 ih ha hb i hi hq => ?_⟩)
  · exact ⟨n + 1, g ha (by omega) 0 (by omega) hQ⟩
  · unfold wX5_commonDivisor_L2
    rw [h0, Nat.gcd_zero_right] at hq
    have v100 : (100 : Int32) = nI 100 := rfl
    rw [v100, ifF (by simp (disch := omega) only [zl_0, zl_1, zl_2, zl_3, zl_4, zl_5, zl_6, zl_7, zl_8, zl_9, zl_10, zl_14, zl_16, zl_20, zl_24, zl_32, zl_40, zl_42, zl_44, zl_48, zl_56, zl_57, zl_59, zl_60, zl_61, zl_64, zl_99, zl_100, zl_110, zl_126, zl_128, zl_200, zl_392, zl_999, zl_9999, nI_add, pk_mul, nI_leI, nI_ltI, nI_eq, nI_clamp, vpn, pk_sub]; omega), h0]
    exact ifp (by decide) hq
  · have v100 : (100 : Int32) = nI 100 := rfl
    have hm := Nat.mod_lt a h0
    have z : ¬ nI b = (0 : Int32) := fun q => by have := (nI_eq (b := 0) (by omega) (by omega)).mp q; omega
    have zl : ¬ nI b ≤ (0 : Int32) := fun q => by have := (nI_leI (b := 0) (by omega) (by omega)).mp q; omega
    unfold wX5_commonDivisor_L2
    rw [v100, ifF (by simp (disch := omega) only [zl_0, zl_1, zl_2, zl_3, zl_4, zl_5, zl_6, zl_7, zl_8, zl_9, zl_10, zl_14, zl_16, zl_20, zl_24, zl_32, zl_40, zl_42, zl_44, zl_48, zl_56, zl_57, zl_59, zl_60, zl_61, zl_64, zl_99, zl_100, zl_110, zl_126, zl_128, zl_200, zl_392, zl_999, zl_9999, nI_add, pk_mul, nI_leI, nI_ltI, nI_eq, nI_clamp, vpn, pk_sub]; omega), ifF zl, nmx, pk_rem (by omega) h0 (by omega), nI_1]
    refine ⟨z, ih (by omega) (by omega) (i + 1) (by omega) ?_⟩
    have e : Nat.gcd b (a % b) = Nat.gcd a b := by
      rw [Nat.gcd_comm a b, Nat.gcd_rec b a, Nat.gcd_comm]
    rw [e]
    exact hq
section SIM
variable {m k : Nat} {K H : Nat → Nat} {D : Dy} {kd hd pl st ho be : Nat → Int32} {nc nn dy : Int32} {mo ms mh mg : Nat → Int32}
theorem upA_ok (ok : okD m k K H D) {a : Nat} (ha : a < m) : upA D a < m ∨ upA D a = 9 := by
  have h := ok.1.P ha
  unfold upA
  split
  · exact Or.inr rfl
  · exact Or.inl (ok.1.S (by omega)).1
theorem slD_ok (ok : okD m k K H D) : okD m k K H (slD k D) := by
  unfold slD
  split
  · exact ok
  · rename_i h
    have g := (slF_in (dA D) k 0).resolve_left h
    have hn := ok.2.2.2.1 (slF (dA D) k 0) (by omega)
    exact setA_ok ok (upA_ok ok (hn.1.resolve_right g.2.2))
theorem slD_dd : dd (slD k D) = dd D := by
  unfold slD
  split <;> rfl
theorem s_slip {Q : (Nat → Int32) → Prop} (ok : okD m k K H D) (hc : ctC m k K H D kd hd pl st ho be nc nn dy) (hQ : ∀ ho', ctC m k K H (slD k D) kd hd pl st ho' be nc nn dy → Q ho') : wX0_slipLowest pl st ho nn Q := by
  have hm7 := ok.1.2.1
  have hk6 := ok.2.2.1
  unfold wX0_slipLowest
  have key : ∀ r i, i + r = k → slF (dA D) r i = slF (dA D) k 0 → wX0_slipLowest_L2 pl st ho nn Q (r + 1) (nI i) := by
    intro r
    induction r with
    | zero =>
      intro i hi he
      have he : 99 = slF (dA D) k 0 := he
      unfold wX0_slipLowest_L2
      rw [hc.2.1]
      refine ifp (by rw [show i = k by omega]; exact Int32.le_refl _) (hQ _ ?_)
      have e : slD k D = D := by unfold slD; rw [if_pos he.symm]
      rw [e]
      exact hc
    | succ r ih =>
      intro i hi he
      have hik : i < k := by omega
      have hN := ok.2.2.2.1 i hik
      unfold wX0_slipLowest_L2
      rw [hc.2.1, ifF (by simp (disch := omega) only [zl_0, zl_1, zl_2, zl_3, zl_4, zl_5, zl_6, zl_7, zl_8, zl_9, zl_10, zl_14, zl_16, zl_20, zl_24, zl_32, zl_40, zl_42, zl_44, zl_48, zl_56, zl_57, zl_59, zl_60, zl_61, zl_64, zl_99, zl_100, zl_110, zl_126, zl_128, zl_200, zl_392, zl_999, zl_9999, nI_add, pk_mul, nI_leI, nI_ltI, nI_eq, nI_clamp, vpn, pk_sub]; omega), e_isKnown (by omega) (hc.2.2.2.2 i hik).1 (ok.A hik), nI_1, ← hc.2.1]
      rw [slF_s] at he
      by_cases h9 : dA D i = 9
      · rw [if_pos h9] at he ⊢
        exact ifn (by decide) (ih (i + 1) (by omega) he)
      · rw [if_neg h9] at he ⊢
        rw [ifT rfl, e_goUp ok.1 hc.2.2.2.1 (by omega) (hN.1.resolve_right h9) (hc.2.2.2.2 i hik).1]
        have e : slD k D = setA D i (upA D (dA D i)) := by unfold slD; rw [← he, if_neg (by omega)]
        rw [e] at hQ
        exact hQ _ (setA_ct hc)
  exact ⟨k + 1, key k 0 (by omega) rfl⟩
theorem r_slips {Q : (Nat → Int32) → Prop} (ok : okD m k K H D) (hm : rfM m k K H mo) (hr : rfD m k D ms) (hQ : ∀ ms', rfD m k (slD k D) ms' → Q ms') : wX6_slips mo ms Q := by
  have hm7 := ok.1.2.1
  have hk6 := ok.2.2.1
  unfold wX6_slips
  have key : ∀ r i, i + r = k → slF (dA D) r i = slF (dA D) k 0 → wX6_slips_L4 mo Q (r + 2) 0 (nI i) ms := by
    intro r
    induction r with
    | zero =>
      intro i hi he
      have he : 99 = slF (dA D) k 0 := he
      unfold wX6_slips_L4
      rw [hm.2.1]
      refine ifp (by rw [show i = k by omega]; exact Int32.le_refl _) (hQ _ ?_)
      have e : slD k D = D := by unfold slD; rw [if_pos he.symm]
      rw [e]
      exact hr
    | succ r ih =>
      intro i hi he
      have hik : i < k := by omega
      have hN := ok.2.2.2.1 i hik
      have ha := ok.A hik
      have e8 : (8 : Int32) + nI i = nI (8 + i) := nI_add 8 i
      unfold wX6_slips_L4
      rw [hm.2.1, ifF (by simp (disch := omega) only [zl_0, zl_1, zl_2, zl_3, zl_4, zl_5, zl_6, zl_7, zl_8, zl_9, zl_10, zl_14, zl_16, zl_20, zl_24, zl_32, zl_40, zl_42, zl_44, zl_48, zl_56, zl_57, zl_59, zl_60, zl_61, zl_64, zl_99, zl_100, zl_110, zl_126, zl_128, zl_200, zl_392, zl_999, zl_9999, nI_add, pk_mul, nI_leI, nI_ltI, nI_eq, nI_clamp, vpn, pk_sub]; omega), ifT rfl, e8, nI_clamp (by omega), vpn (by omega), (hr.2.2.1 i hik).1, nI_1]
      refine ⟨by omega, ?_⟩
      rw [slF_s] at he
      by_cases h9 : dA D i = 9
      · rw [if_pos h9] at he
        exact ifp (by rw [h9]; rfl) (ih (i + 1) (by omega) he)
      · rw [if_neg h9] at he
        have ham := hN.1.resolve_right h9
        have e1 : (1 : Int32) + nI (dA D i) = nI (1 + dA D i) := nI_add 1 _
        have e : slD k D = setA D i (upA D (dA D i)) := by unfold slD; rw [← he, if_neg (by omega)]
        rw [e] at hQ
        refine ifn (fun q => h9 ((nI_eq (b := 9) (by omega) (by omega)).mp q)) ?_
        rw [e1, nI_clamp (by omega), vpn (by omega), hr.2.1 _ ham]
        refine ⟨by omega, by omega, ?_⟩
        have fin : ∀ x, x = nI (upA D (dA D i)) → 8 + i < 56 ∧ wX6_slips_L4 mo Q (r + 2) (1 : Int32) (nI (i + 1)) (upd ms (8 + i) x) := by
          intro x hx
          refine ⟨by omega, ?_⟩
          unfold wX6_slips_L4
          have q := hQ (upd ms (8 + i) x) (by rw [hx]; exact setA_rf hm7 hk6 hik hr)
          by_cases g : mo 1 ≤ nI (i + 1)
          · exact ifp g q
          · exact ifn g (ifn (by decide) q)
        have hP := ok.1.P ham
        by_cases h0 : dP D (dA D i) = 0
        · rw [h0, m1_0]
          refine r_whoAtM ok.1 (rfT_of hm hr) (fin _ ?_)
          unfold upA
          rw [if_pos h0]
          rfl
        · have es : nI (dP D (dA D i)) - 1 = nI (dP D (dA D i) - 1) := pk_sub (a := dP D (dA D i)) (b := 1) (by omega)
          rw [es]
          refine r_whoAt ok.1 (rfT_of hm hr) (by omega) (fin _ ?_)
          unfold upA
          rw [if_neg h0]
  exact ⟨k + 2, key k 0 (by omega) rfl⟩
/-- by how many of ten to the power of the days -/
def kn1 (n : Nat) (D : Dy) : Nat := if dA D n = 9 then 1 else 0
def chD (m k : Nat) (K H : Nat → Nat) (n x : Nat) : Nat → Dy → Nat
  | 0, D => kn1 n D
  | d + 1, D => (10 - x) * chD m k K H n x d (dyD m K H D) + x * chD m k K H n x d (dyD m K H (slD k D))
/-- one set of slips -/
def vlD (m k : Nat) (K H : Nat → Nat) (n x : Nat) : Nat → Nat → Dy → Nat
  | 0, _, D => kn1 n D
  | d + 1, s, D => if s % 2 = 1 then x * vlD m k K H n x d (s / 2) (dyD m K H (slD k D)) else (10 - x) * vlD m k K H n x d (s / 2) (dyD m K H D)
theorem rsum_two (f : Nat → Nat) : ∀ j, rsum f (2 * j) = rsum (fun s => f (2 * s) + f (2 * s + 1)) j
  | 0 => rfl
  | j + 1 => by
    show rsum f (2 * j + 1 + 1) = rsum (fun s => f (2 * s) + f (2 * s + 1)) j + (f (2 * j) + f (2 * j + 1))
    rw [← rsum_two f j]
    show rsum f (2 * j) + f (2 * j) + f (2 * j + 1) = _
    omega
theorem rsum_add (f g : Nat → Nat) : ∀ j, rsum (fun s => f s + g s) j = rsum f j + rsum g j
  | 0 => rfl
  | j + 1 => by
    show rsum (fun s => f s + g s) j + (f j + g j) = rsum f j + f j + (rsum g j + g j)
    rw [rsum_add f g j]
    omega
theorem rsum_cmul (a : Nat) (f : Nat → Nat) : ∀ j, rsum (fun s => a * f s) j = a * rsum f j
  | 0 => by show 0 = a * 0; omega
  | j + 1 => by
    show rsum (fun s => a * f s) j + a * f j = a * (rsum f j + f j)
    rw [rsum_cmul a f j, Nat.mul_add]
theorem ch_sum {n x : Nat} : ∀ d D, rsum (fun s => vlD m k K H n x d s D) (2 ^ d) = chD m k K H n x d D
  | 0, D => by
    show 0 + kn1 n D = kn1 n D
    omega
  | d + 1, D => by
    have hp : 2 ^ (d + 1) = 2 * 2 ^ d := by rw [Nat.pow_succ, Nat.mul_comm]
    have e0 : ∀ s, vlD m k K H n x (d + 1) (2 * s) D = (10 - x) * vlD m k K H n x d s (dyD m K H D) := by
      intro s
      show (if (2 * s) % 2 = 1 then _ else (10 - x) * vlD m k K H n x d (2 * s / 2) (dyD m K H D)) = _
      rw [if_neg (by omega), show 2 * s / 2 = s by omega]
    have e1 : ∀ s, vlD m k K H n x (d + 1) (2 * s + 1) D = x * vlD m k K H n x d s (dyD m K H (slD k D)) := by
      intro s
      show (if (2 * s + 1) % 2 = 1 then x * vlD m k K H n x d ((2 * s + 1) / 2) (dyD m K H (slD k D)) else _) = _
      rw [if_pos (by omega), show (2 * s + 1) / 2 = s by omega]
    rw [hp, rsum_two]
    rw [rsum_congr (g := fun s => (10 - x) * vlD m k K H n x d s (dyD m K H D) + x * vlD m k K H n x d s (dyD m K H (slD k D))) (fun s _ => by rw [e0, e1])]
    rw [rsum_add, rsum_cmul, rsum_cmul, ch_sum d, ch_sum d]
    rfl
theorem ch_le {n x : Nat} (hx : x ≤ 10) : ∀ d D, chD m k K H n x d D ≤ 10 ^ d
  | 0, D => by unfold chD kn1; split <;> decide
  | d + 1, D => by
    have h1 := ch_le (n := n) hx d (dyD m K H D)
    have h2 := ch_le (n := n) hx d (dyD m K H (slD k D))
    have h3 : (10 - x) * chD m k K H n x d (dyD m K H D) ≤ (10 - x) * 10 ^ d := Nat.mul_le_mul_left _ h1
    have h4 : x * chD m k K H n x d (dyD m K H (slD k D)) ≤ x * 10 ^ d := Nat.mul_le_mul_left _ h2
    have h5 : (10 - x) * 10 ^ d + x * 10 ^ d = 10 * 10 ^ d := by rw [← Nat.add_mul]; congr 1; omega
    have h6 : 10 ^ (d + 1) = 10 * 10 ^ d := by rw [Nat.pow_succ, Nat.mul_comm]
    show (10 - x) * chD m k K H n x d (dyD m K H D) + x * chD m k K H n x d (dyD m K H (slD k D)) ≤ 10 ^ (d + 1)
    omega
end SIM
