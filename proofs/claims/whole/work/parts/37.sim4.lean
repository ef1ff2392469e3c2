/-! masks -/
def mks (p : Nat → Bool) : Nat → Nat
  | 0 => 0
  | j + 1 => if p j then mks p j ||| 2 ^ j else mks p j
theorem mks_lt (p : Nat → Bool) : ∀ j, mks p j < 2 ^ j
  | 0 => Nat.zero_lt_one
  | j + 1 => by
    have h := mks_lt p j
    have h2 : 2 ^ j < 2 ^ (j + 1) := Nat.pow_lt_pow_right (by decide) (Nat.lt_succ_self j)
    unfold mks
    split
    · exact Nat.or_lt_two_pow (Nat.lt_trans h h2) h2
    · exact Nat.lt_trans h h2
theorem mks_lt7 (p : Nat → Bool) {m : Nat} (hm : m ≤ 7) : mks p m < 128 := Nat.lt_of_lt_of_le (mks_lt p m) (Nat.pow_le_pow_right (by decide) hm : 2 ^ m ≤ 2 ^ 7)
theorem mks_zero (p : Nat → Bool) : ∀ m, mks p m = 0 ↔ ∀ c, c < m → p c = false
  | 0 => ⟨fun _ c hc => absurd hc (Nat.not_lt_zero c), fun _ => rfl⟩
  | j + 1 => by
    unfold mks
    constructor
    · intro h c hc
      by_cases hp : p j = true
      · rw [if_pos hp] at h
        have h2 : 2 ^ j ≤ mks p j ||| 2 ^ j := Nat.right_le_or
        have h3 : 0 < 2 ^ j := Nat.pow_pos (by decide)
        omega
      · rw [if_neg hp] at h
        rcases Nat.lt_or_ge c j with g | g
        · exact (mks_zero p j).mp h c g
        · have : c = j := by omega
          rw [this]
          simpa using hp
    · intro h
      rw [if_neg (by rw [h j (by omega)]; decide)]
      exact (mks_zero p j).mpr (fun c hc => h c (by omega))
theorem or0_fin : ∀ s, s < 128 → nI s ||| (0 : Int32) = nI s := by decide +kernel
/-- a mask laid bit by bit -/
theorem mk_or {p : Nat → Bool} {j : Nat} (hj : j < 7) (h : p j = true) : nI (mks p j) ||| ((1 : Int32) <<< (nI j &&& 31)) = nI (mks p (j + 1)) := by
  rw [or_fin _ (mks_lt7 p (by omega)) j hj]
  show _ = nI (if p j then mks p j ||| 2 ^ j else mks p j)
  rw [if_pos h]
theorem mk_no {p : Nat → Bool} {j : Nat} (h : p j = false) : mks p (j + 1) = mks p j := by
  show (if p j then mks p j ||| 2 ^ j else mks p j) = _
  rw [h]
  rfl
theorem ds_mks (b : Nat → Nat) : ∀ j, ds b j = mks (fun c => decide (b c ≤ 4)) j
  | 0 => rfl
  | j + 1 => by
    unfold ds mks
    rw [ds_mks b j]
    simp only [decide_eq_true_eq]
theorem ref_doubters {m n a : Nat} {b : Nat → Nat} {mo ms : Nat → Int32} {Q : Int32 → Prop} (hn : n < 6) (hm : m ≤ 7) (h0 : mo 0 = nI m) (h : rfN m n a b ms) (hb : ∀ c, c < m → b c ≤ 9) (hQ : Q (nI (ds b m))) : wX6_doubters (nI n) mo ms Q := by
  have key : ∀ r i, i + r = m → wX6_doubters_L4 (nI n) mo ms Q (r + 1) (nI (mks (fun c => decide (b c ≤ 4)) i)) (nI i) := by
    intro r
    induction r with
    | zero =>
      intro i hi
      have hi : i = m := by omega
      subst hi
      unfold wX6_doubters_L4
      rw [h0, ← ds_mks]
      exact ifp (Int32.le_refl _) hQ
    | succ r ih =>
      intro i hi
      have h3 := ih (i + 1) (by omega)
      unfold wX6_doubters_L4
      rw [h0, ifF (by simp (disch := omega) only [zl_0, zl_1, zl_2, zl_3, zl_4, zl_5, zl_6, zl_7, zl_8, zl_9, zl_10, zl_14, zl_16, zl_20, zl_24, zl_32, zl_40, zl_42, zl_44, zl_48, zl_56, zl_57, zl_59, zl_60, zl_61, zl_64, zl_99, zl_100, zl_110, zl_126, zl_128, zl_200, zl_392, zl_999, zl_9999, nI_add, pk_mul, nI_leI, nI_ltI, nI_eq, nI_clamp, vpn, pk_sub]; omega), r_doubts hn hm h (by omega) (hb i (by omega)), nmx, nmx, nI_1]
      by_cases h9 : b i ≤ 4
      · rw [if_pos h9, ifF (by decide), mk_or (by omega) (by simp [h9])]
        exact h3
      · rw [if_neg h9, ifT rfl, or0_fin _ (mks_lt7 _ (by omega)), ← mk_no (p := fun c => decide (b c ≤ 4)) (by simp [h9])]
        exact h3
  exact ⟨m + 1, key m 0 (by omega)⟩
theorem s_newsHeld {k c : Nat} {A : Nat → Nat} {ho : Nat → Int32} {Q : Int32 → Prop} (hk : k ≤ 6) (hc : c < 7) (hA : ∀ n, n < k → ho n = nI (A n) ∧ A n < 10) (hQ : Q (nI (mks (fun n => decide (A n = c)) k))) : wX0_newsHeld (nI c) ho (nI k) Q := by
  have key : ∀ r i, i + r = k → wX0_newsHeld_L4 (nI c) ho (nI k) Q (r + 1) (nI (mks (fun n => decide (A n = c)) i)) (nI i) := by
    intro r
    induction r with
    | zero =>
      intro i hi
      have hi : i = k := by omega
      subst hi
      unfold wX0_newsHeld_L4
      exact ifp (Int32.le_refl _) hQ
    | succ r ih =>
      intro i hi
      obtain ⟨h1, h2⟩ := hA i (by omega)
      have h3 := ih (i + 1) (by omega)
      unfold wX0_newsHeld_L4
      rw [ifF (by simp (disch := omega) only [zl_0, zl_1, zl_2, zl_3, zl_4, zl_5, zl_6, zl_7, zl_8, zl_9, zl_10, zl_14, zl_16, zl_20, zl_24, zl_32, zl_40, zl_42, zl_44, zl_48, zl_56, zl_57, zl_59, zl_60, zl_61, zl_64, zl_99, zl_100, zl_110, zl_126, zl_128, zl_200, zl_392, zl_999, zl_9999, nI_add, pk_mul, nI_leI, nI_ltI, nI_eq, nI_clamp, vpn, pk_sub]; omega), e_of (by omega) (by decide), h1, nmx, nI_1]
      by_cases h9 : A i = c
      · rw [ifT (by rw [h9]), mk_or (by omega) (by simp [h9])]
        exact h3
      · rw [ifF (by simp (disch := omega) only [zl_0, zl_1, zl_2, zl_3, zl_4, zl_5, zl_6, zl_7, zl_8, zl_9, zl_10, zl_14, zl_16, zl_20, zl_24, zl_32, zl_40, zl_42, zl_44, zl_48, zl_56, zl_57, zl_59, zl_60, zl_61, zl_64, zl_99, zl_100, zl_110, zl_126, zl_128, zl_200, zl_392, zl_999, zl_9999, nI_add, pk_mul, nI_leI, nI_ltI, nI_eq, nI_clamp, vpn, pk_sub]; exact h9), ← mk_no (p := fun n => decide (A n = c)) (by simp [h9])]
        exact h3
  exact ⟨k + 1, key k 0 (by omega)⟩
theorem s_newsDoubted {k c : Nat} {B : Nat → Nat → Nat} {be : Nat → Int32} {Q : Int32 → Prop} (hk : k ≤ 6) (hc : c < 7) (hB : ∀ n, n < k → be (n * 7 + c) = nI (B n c) ∧ B n c ≤ 9) (hQ : Q (nI (mks (fun n => decide (B n c ≤ 4)) k))) : wX0_newsDoubted (nI c) be (nI k) Q := by
  have key : ∀ r i, i + r = k → wX0_newsDoubted_L4 (nI c) be (nI k) Q (r + 1) (nI (mks (fun n => decide (B n c ≤ 4)) i)) (nI i) := by
    intro r
    induction r with
    | zero =>
      intro i hi
      have hi : i = k := by omega
      subst hi
      unfold wX0_newsDoubted_L4
      exact ifp (Int32.le_refl _) hQ
    | succ r ih =>
      intro i hi
      obtain ⟨h1, h2⟩ := hB i (by omega)
      have h3 := ih (i + 1) (by omega)
      unfold wX0_newsDoubted_L4
      rw [ifF (by simp (disch := omega) only [zl_0, zl_1, zl_2, zl_3, zl_4, zl_5, zl_6, zl_7, zl_8, zl_9, zl_10, zl_14, zl_16, zl_20, zl_24, zl_32, zl_40, zl_42, zl_44, zl_48, zl_56, zl_57, zl_59, zl_60, zl_61, zl_64, zl_99, zl_100, zl_110, zl_126, zl_128, zl_200, zl_392, zl_999, zl_9999, nI_add, pk_mul, nI_leI, nI_ltI, nI_eq, nI_clamp, vpn, pk_sub]; omega), e_believes hc (by omega), h1, nmx, nI_1]
      by_cases h9 : B i c ≤ 4
      · rw [ifF (by simp (disch := omega) only [zl_0, zl_1, zl_2, zl_3, zl_4, zl_5, zl_6, zl_7, zl_8, zl_9, zl_10, zl_14, zl_16, zl_20, zl_24, zl_32, zl_40, zl_42, zl_44, zl_48, zl_56, zl_57, zl_59, zl_60, zl_61, zl_64, zl_99, zl_100, zl_110, zl_126, zl_128, zl_200, zl_392, zl_999, zl_9999, nI_add, pk_mul, nI_leI, nI_ltI, nI_eq, nI_clamp, vpn, pk_sub]; omega), mk_or (by omega) (by simp [h9])]
        exact h3
      · rw [ifT (by simp (disch := omega) only [zl_0, zl_1, zl_2, zl_3, zl_4, zl_5, zl_6, zl_7, zl_8, zl_9, zl_10, zl_14, zl_16, zl_20, zl_24, zl_32, zl_40, zl_42, zl_44, zl_48, zl_56, zl_57, zl_59, zl_60, zl_61, zl_64, zl_99, zl_100, zl_110, zl_126, zl_128, zl_200, zl_392, zl_999, zl_9999, nI_add, pk_mul, nI_leI, nI_ltI, nI_eq, nI_clamp, vpn, pk_sub]; omega), ← mk_no (p := fun n => decide (B n c ≤ 4)) (by simp [h9])]
        exact h3
  exact ⟨k + 1, key k 0 (by omega)⟩
theorem r_courtL {m k c : Nat} {D : Dy} {mo ms : Nat → Int32} {K92 : Int32 → Int32 → Prop} (hm : m ≤ 7) (hk : k ≤ 6) (hc : c < m) (h1 : mo 1 = nI k) (hD : rfD m k D ms) (hb : ∀ n, n < k → dA D n < 10 ∧ dB D n c ≤ 9) (hQ : K92 (nI (mks (fun n => decide (dA D n = c)) k)) (nI (mks (fun n => decide (dB D n c ≤ 4)) k))) : ∃ f, wX6_courtier_L27 (nI c) mo ms K92 f 0 0 0 := by
  have key : ∀ r i, i + r = k → wX6_courtier_L27 (nI c) mo ms K92 (r + 1) (nI (mks (fun n => decide (dA D n = c)) i)) (nI (mks (fun n => decide (dB D n c ≤ 4)) i)) (nI i) := by
    intro r
    induction r with
    | zero =>
      intro i hi
      have hi : i = k := by omega
      subst hi
      unfold wX6_courtier_L27
      rw [h1]
      exact ifp (Int32.le_refl _) hQ
    | succ r ih =>
      intro i hi
      obtain ⟨g1, g2⟩ := hb i (by omega)
      have hN := hD.2.2.1 i (by omega)
      have h3 := ih (i + 1) (by omega)
      have e1 : (8 : Int32) + nI i = nI (8 + i) := nI_add 8 i
      have lA := mks_lt7 (fun n => decide (dA D n = c)) (m := i) (by omega)
      have lB := mks_lt7 (fun n => decide (dB D n c ≤ 4)) (m := i) (by omega)
      unfold wX6_courtier_L27
      rw [h1, ifF (by simp (disch := omega) only [zl_0, zl_1, zl_2, zl_3, zl_4, zl_5, zl_6, zl_7, zl_8, zl_9, zl_10, zl_14, zl_16, zl_20, zl_24, zl_32, zl_40, zl_42, zl_44, zl_48, zl_56, zl_57, zl_59, zl_60, zl_61, zl_64, zl_99, zl_100, zl_110, zl_126, zl_128, zl_200, zl_392, zl_999, zl_9999, nI_add, pk_mul, nI_leI, nI_ltI, nI_eq, nI_clamp, vpn, pk_sub]; omega), e1, nI_clamp (by omega), hN.1, vpn (by omega)]
      simp only [nmx]
      rw [r_doubts (by omega) hm hN hc g2, r_doubts (by omega) hm hN hc g2, nI_1, or0_fin _ lA, or0_fin _ lB]
      refine ⟨by omega, ?_⟩
      by_cases hA : dA D i = c
      · rw [ifT (by rw [hA]), mk_or (by omega) (by simp [hA])]
        by_cases h9 : dB D i c ≤ 4
        · rw [if_pos h9, ifF (by decide), mk_or (by omega) (by simp [h9])]
          exact h3
        · rw [if_neg h9, ifT rfl]
          rw [mk_no (p := fun n => decide (dB D n c ≤ 4)) (by simp [h9])] at h3
          exact h3
      · rw [ifF (by simp (disch := omega) only [zl_0, zl_1, zl_2, zl_3, zl_4, zl_5, zl_6, zl_7, zl_8, zl_9, zl_10, zl_14, zl_16, zl_20, zl_24, zl_32, zl_40, zl_42, zl_44, zl_48, zl_56, zl_57, zl_59, zl_60, zl_61, zl_64, zl_99, zl_100, zl_110, zl_126, zl_128, zl_200, zl_392, zl_999, zl_9999, nI_add, pk_mul, nI_leI, nI_ltI, nI_eq, nI_clamp, vpn, pk_sub]; exact hA)]
        rw [mk_no (p := fun n => decide (dA D n = c)) (by simp [hA])] at h3
        by_cases h9 : dB D i c ≤ 4
        · rw [if_pos h9, ifF (by decide), mk_or (by omega) (by simp [h9])]
          exact h3
        · rw [if_neg h9, ifT rfl]
          rw [mk_no (p := fun n => decide (dB D n c ≤ 4)) (by simp [h9])] at h3
          exact h3
  exact ⟨k + 1, key k 0 (by omega)⟩
theorem ref_holds {ms mg : Nat → Int32} {Q : (Nat → Int32) → Prop} (hQ : ∀ mg', (∀ i, i < 56 → mg' i = ms i) → Q mg') : wX6_holds ms mg Q := by
  have key : ∀ r i mg1, i + r = 56 → (∀ j, j < i → mg1 j = ms j) → wX6_holds_L2 ms Q (r + 1) (nI i) mg1 := by
    intro r
    induction r with
    | zero =>
      intro i mg1 hi h1
      have hi : i = 56 := by omega
      subst hi
      unfold wX6_holds_L2
      exact ifp (by decide) (hQ mg1 h1)
    | succ r ih =>
      intro i mg1 hi h1
      unfold wX6_holds_L2
      rw [ifF (by simp (disch := omega) only [zl_0, zl_1, zl_2, zl_3, zl_4, zl_5, zl_6, zl_7, zl_8, zl_9, zl_10, zl_14, zl_16, zl_20, zl_24, zl_32, zl_40, zl_42, zl_44, zl_48, zl_56, zl_57, zl_59, zl_60, zl_61, zl_64, zl_99, zl_100, zl_110, zl_126, zl_128, zl_200, zl_392, zl_999, zl_9999, nI_add, pk_mul, nI_leI, nI_ltI, nI_eq, nI_clamp, vpn, pk_sub]; omega), nI_clamp (by omega), vpn (by omega), nI_1]
      refine ⟨by omega, by omega, ih (i + 1) _ (by omega) (fun j hj => ?_)⟩
      by_cases he : j = i
      · subst he; rw [upd_at]
      · rw [upd_ne _ _ he]; exact h1 j (by omega)
  exact ⟨57, key 56 0 mg (by omega) (fun j hj => absurd hj (Nat.not_lt_zero _))⟩
theorem ref_lets {ms mg : Nat → Int32} {Q : (Nat → Int32) → Prop} (hQ : ∀ ms', (∀ i, i < 56 → ms' i = mg i) → Q ms') : wX6_lets ms mg Q := by
  have key : ∀ r i mg1, i + r = 56 → (∀ j, j < i → mg1 j = mg j) → wX6_lets_L2 mg Q (r + 1) (nI i) mg1 := by
    intro r
    induction r with
    | zero =>
      intro i mg1 hi h1
      have hi : i = 56 := by omega
      subst hi
      unfold wX6_lets_L2
      exact ifp (by decide) (hQ mg1 h1)
    | succ r ih =>
      intro i mg1 hi h1
      unfold wX6_lets_L2
      rw [ifF (by simp (disch := omega) only [zl_0, zl_1, zl_2, zl_3, zl_4, zl_5, zl_6, zl_7, zl_8, zl_9, zl_10, zl_14, zl_16, zl_20, zl_24, zl_32, zl_40, zl_42, zl_44, zl_48, zl_56, zl_57, zl_59, zl_60, zl_61, zl_64, zl_99, zl_100, zl_110, zl_126, zl_128, zl_200, zl_392, zl_999, zl_9999, nI_add, pk_mul, nI_leI, nI_ltI, nI_eq, nI_clamp, vpn, pk_sub]; omega), nI_clamp (by omega), vpn (by omega), nI_1]
      refine ⟨by omega, by omega, ih (i + 1) _ (by omega) (fun j hj => ?_)⟩
      by_cases he : j = i
      · subst he; rw [upd_at]
      · rw [upd_ne _ _ he]; exact h1 j (by omega)
  exact ⟨57, key 56 0 ms (by omega) (fun j hj => absurd hj (Nat.not_lt_zero _))⟩
/-- the last of a list of days comes back -/
theorem ref_undoL {mp ms : Nat → Int32} {q : Nat} {Q : Int32 → (Nat → Int32) → Int32 → Prop} (hq : q < 8) (hQ : ∀ ms', (∀ i, i < 56 → ms' i = mp (56 * q + i)) → Q (nI q) ms' (nI q)) : ∃ f, wX6_undo_L22 mp (nI q) Q f 0 ms := by
  have key : ∀ r i ms1, i + r = 56 → (∀ j, j < i → ms1 j = mp (56 * q + j)) → wX6_undo_L22 mp (nI q) Q (r + 1) (nI i) ms1 := by
    intro r
    induction r with
    | zero =>
      intro i ms1 hi h1
      have hi : i = 56 := by omega
      subst hi
      unfold wX6_undo_L22
      exact ifp (by decide) (hQ ms1 h1)
    | succ r ih =>
      intro i ms1 hi h1
      unfold wX6_undo_L22
      have e1 : ((56 : Int32) * nI q) + nI i = nI (56 * q + i) := by
        have e0 : (56 : Int32) = nI 56 := rfl
        rw [e0, pk_mul, nI_add]
      rw [ifF (by simp (disch := omega) only [zl_0, zl_1, zl_2, zl_3, zl_4, zl_5, zl_6, zl_7, zl_8, zl_9, zl_10, zl_14, zl_16, zl_20, zl_24, zl_32, zl_40, zl_42, zl_44, zl_48, zl_56, zl_57, zl_59, zl_60, zl_61, zl_64, zl_99, zl_100, zl_110, zl_126, zl_128, zl_200, zl_392, zl_999, zl_9999, nI_add, pk_mul, nI_leI, nI_ltI, nI_eq, nI_clamp, vpn, pk_sub]; omega), e1, nI_clamp (by omega), nI_clamp (by omega), vpn (by omega), vpn (by omega), nI_1]
      refine ⟨by omega, by omega, ih (i + 1) _ (by omega) (fun j hj => ?_)⟩
      by_cases he : j = i
      · subst he; rw [upd_at]
      · rw [upd_ne _ _ he]; exact h1 j (by omega)
  exact ⟨57, key 56 0 ms (by omega) (fun j hj => absurd hj (Nat.not_lt_zero _))⟩
theorem ref_backL {mi ms : Nat → Int32} {q : Nat} {Q : Int32 → (Nat → Int32) → Int32 → Int32 → Prop} (hq : q < 2) (hQ : ∀ ms', (∀ i, i < 56 → ms' i = mi (56 * q + i)) → Q (nI q) ms' 0 (nI q)) : ∃ f, wX6_back_L22 mi (nI q) Q f 0 ms := by
  have key : ∀ r i ms1, i + r = 56 → (∀ j, j < i → ms1 j = mi (56 * q + j)) → wX6_back_L22 mi (nI q) Q (r + 1) (nI i) ms1 := by
    intro r
    induction r with
    | zero =>
      intro i ms1 hi h1
      have hi : i = 56 := by omega
      subst hi
      unfold wX6_back_L22
      exact ifp (by decide) (hQ ms1 h1)
    | succ r ih =>
      intro i ms1 hi h1
      unfold wX6_back_L22
      have e1 : ((56 : Int32) * nI q) + nI i = nI (56 * q + i) := by
        have e0 : (56 : Int32) = nI 56 := rfl
        rw [e0, pk_mul, nI_add]
      rw [ifF (by simp (disch := omega) only [zl_0, zl_1, zl_2, zl_3, zl_4, zl_5, zl_6, zl_7, zl_8, zl_9, zl_10, zl_14, zl_16, zl_20, zl_24, zl_32, zl_40, zl_42, zl_44, zl_48, zl_56, zl_57, zl_59, zl_60, zl_61, zl_64, zl_99, zl_100, zl_110, zl_126, zl_128, zl_200, zl_392, zl_999, zl_9999, nI_add, pk_mul, nI_leI, nI_ltI, nI_eq, nI_clamp, vpn, pk_sub]; omega), e1, nI_clamp (by omega), nI_clamp (by omega), vpn (by omega), vpn (by omega), nI_1]
      refine ⟨by omega, by omega, ih (i + 1) _ (by omega) (fun j hj => ?_)⟩
      by_cases he : j = i
      · subst he; rw [upd_at]
      · rw [upd_ne _ _ he]; exact h1 j (by omega)
  exact ⟨57, key 56 0 ms (by omega) (fun j hj => absurd hj (Nat.not_lt_zero _))⟩
theorem ref_keepL {mi ms : Nat → Int32} {q : Nat} {Q : Int32 → (Nat → Int32) → Int32 → Prop} (hq : q < 2) (hQ : ∀ mi', (∀ i, i < 56 → mi' (56 * q + i) = ms i) → (∀ i, i < 56 * q → mi' i = mi i) → Q (nI (q + 1)) mi' (nI (q + 1))) : ∃ f, wX6_keep_L13 ms (nI q) Q f 0 mi := by
  have key : ∀ r i mi1, i + r = 56 → (∀ j, j < i → mi1 (56 * q + j) = ms j) → (∀ j, j < 56 * q → mi1 j = mi j) → wX6_keep_L13 ms (nI q) Q (r + 1) (nI i) mi1 := by
    intro r
    induction r with
    | zero =>
      intro i mi1 hi h1 h2
      have hi : i = 56 := by omega
      subst hi
      unfold wX6_keep_L13
      rw [nI_1]
      exact ifp (by decide) (hQ mi1 h1 h2)
    | succ r ih =>
      intro i mi1 hi h1 h2
      unfold wX6_keep_L13
      have e1 : ((56 : Int32) * nI q) + nI i = nI (56 * q + i) := by
        have e0 : (56 : Int32) = nI 56 := rfl
        rw [e0, pk_mul, nI_add]
      rw [ifF (by simp (disch := omega) only [zl_0, zl_1, zl_2, zl_3, zl_4, zl_5, zl_6, zl_7, zl_8, zl_9, zl_10, zl_14, zl_16, zl_20, zl_24, zl_32, zl_40, zl_42, zl_44, zl_48, zl_56, zl_57, zl_59, zl_60, zl_61, zl_64, zl_99, zl_100, zl_110, zl_126, zl_128, zl_200, zl_392, zl_999, zl_9999, nI_add, pk_mul, nI_leI, nI_ltI, nI_eq, nI_clamp, vpn, pk_sub]; omega), e1, nI_clamp (by omega), nI_clamp (by omega), vpn (by omega), vpn (by omega), nI_1]
      refine ⟨by omega, by omega, ih (i + 1) _ (by omega) (fun j hj => ?_) (fun j hj => ?_)⟩
      · by_cases he : j = i
        · subst he; rw [upd_at]
        · rw [upd_ne _ _ (by omega)]; exact h1 j (by omega)
      · rw [upd_ne _ _ (by omega)]; exact h2 j hj
  exact ⟨57, key 56 0 mi (by omega) (fun j hj => absurd hj (Nat.not_lt_zero _)) (fun _ _ => rfl)⟩
/-! lists of days -/
theorem dl_get {α : Type} (l : List α) (j : Nat) (x : α) (h : l.dropLast[j]? = some x) : l[j]? = some x := by
  rw [List.getElem?_dropLast] at h
  split at h
  · exact h
  · exact absurd h (by simp)
theorem shC_dl {m k : Nat} {K H : Nat → Nat} {U : List Dy} {sv : List CV} (h : shC m k K H U sv) : shC m k K H U.dropLast sv := fun j D hj => h j D (dl_get U j D hj)
theorem rfS_dl {m k : Nat} {U : List Dy} {mp : Nat → Int32} (h : rfS m k U mp) : rfS m k U.dropLast mp := fun j D hj => h j D (dl_get U j D hj)
theorem okL_dl {m k : Nat} {K H : Nat → Nat} {U : List Dy} (h : okL m k K H U) : okL m k K H U.dropLast := fun E hE => h E (List.dropLast_subset U hE)
theorem last_get {α : Type} (l : List α) (h : l ≠ []) : l[l.length - 1]? = some (l.getLast h) := by
  rw [List.getLast_eq_getElem, List.getElem?_eq_getElem]
/-! changing places -/
def swD (D : Dy) (c d : Nat) : Dy := (fun i => if i = d then dP D c else if i = c then dP D d else dP D i, fun q => if q = dP D c then d else if q = dP D d then c else dS D q, dA D, dB D, dd D)
theorem swD_okT {m c d : Nat} {K H P S : Nat → Nat} (h : okT m K H P S) (hc : c < m) (hd2 : d < m) : okT m K H (fun i => if i = d then P c else if i = c then P d else P i) (fun q => if q = P c then d else if q = P d then c else S q) := by
  refine ⟨h.1, h.2.1, fun i hi => ⟨(h.2.2 i hi).1, (h.2.2 i hi).2.1, ?_⟩⟩
  have hi1 := h.P hi
  have hi2 := h.S hi
  have hc1 := h.P hc
  have hc2 := h.P hd2
  have inj : ∀ a b, a < m → b < m → P a = P b → a = b := fun a b ha hb he => by
    have g1 := (h.P ha).2
    rw [he, (h.P hb).2] at g1
    exact g1.symm
  refine ⟨?_, ?_, ?_, ?_⟩
  · by_cases h1 : i = d
    · simp only [h1, if_true]; exact hc1.1
    · by_cases h2 : i = c
      · simp only [if_neg h1]; rw [if_pos h2]; exact hc2.1
      · simp only [if_neg h1, if_neg h2]; exact hi1.1
  · by_cases h1 : i = d
    · simp only [h1, if_true]
    · simp only [if_neg h1]
      by_cases h2 : i = c
      · simp only [if_pos h2]
        by_cases h3 : P d = P c
        · exact absurd (inj d c hd2 hc h3) (by omega)
        · rw [if_neg h3]
          simp only [if_true]
          exact h2.symm
      · simp only [if_neg h2]
        rw [if_neg (fun g => h2 (inj i c hi hc g)), if_neg (fun g => h1 (inj i d hi hd2 g))]
        exact hi1.2
  · by_cases h1 : i = P c
    · simp only [if_pos h1]; exact hd2
    · simp only [if_neg h1]
      by_cases h2 : i = P d
      · simp only [if_pos h2]; exact hc
      · simp only [if_neg h2]; exact hi2.1
  · by_cases h1 : i = P c
    · simp only [if_pos h1, if_true]; exact h1.symm
    · simp only [if_neg h1]
      by_cases h2 : i = P d
      · simp only [if_pos h2]
        by_cases h3 : c = d
        · exact absurd (by rw [h2, h3]) h1
        · simp only [if_neg h3, if_true]; exact h2.symm
      · simp only [if_neg h2]
        rw [if_neg (fun g => h2 (by rw [← g]; exact hi2.2.symm)), if_neg (fun g => h1 (by rw [← g]; exact hi2.2.symm))]
        exact hi2.2
theorem swD_ok {m k c d : Nat} {K H : Nat → Nat} {D : Dy} (h : okD m k K H D) (hc : c < m) (hd2 : d < m) : okD m k K H (swD D c d) := ⟨swD_okT h.1 hc hd2, h.2⟩
theorem e_changePlaces {m c d : Nat} {K H P S : Nat → Nat} {kd hd pl st : Nat → Int32} {Q : (Nat → Int32) → (Nat → Int32) → Prop} (ok : okT m K H P S) (hs : ctS m K H P S kd hd pl st) (hc : c < m) (hd2 : d < m) : wX0_changePlaces (nI c) (nI d) pl st Q = Q (upd (upd pl c (nI (P d))) d (nI (P c))) (upd (upd st (if c = d then P c else P d) (nI c)) (P c) (nI d)) := by
  have hm7 := ok.2.1
  have p1 := (ok.P hc).1
  have p2 := (ok.P hd2).1
  unfold wX0_changePlaces
  rw [e_of (by omega) (by decide), (hs c hc).2.2.1, e_of (by omega) (by decide), (hs d hd2).2.2.1, e_put (by omega) (by decide), e_put (by omega) (by decide), e_of (by omega) (by decide)]
  by_cases h : c = d
  · subst h
    rw [upd_at, e_put (by omega) (by decide), e_put (by omega) (by decide), if_pos rfl]
  · rw [upd_ne _ _ h, upd_at, e_put (by omega) (by decide), e_put (by omega) (by decide), if_neg h]
theorem swD_ctS {m c d : Nat} {K H P S : Nat → Nat} {kd hd pl st : Nat → Int32} (ok : okT m K H P S) (hs : ctS m K H P S kd hd pl st) (hc : c < m) (hd2 : d < m) : ctS m K H (fun i => if i = d then P c else if i = c then P d else P i) (fun q => if q = P c then d else if q = P d then c else S q) kd hd (upd (upd pl c (nI (P d))) d (nI (P c))) (upd (upd st (if c = d then P c else P d) (nI c)) (P c) (nI d)) := by
  intro i hi
  refine ⟨(hs i hi).1, (hs i hi).2.1, ?_, ?_⟩
  · by_cases h1 : i = d
    · rw [h1, upd_at]; simp
    · rw [upd_ne _ _ h1]
      by_cases h2 : i = c
      · rw [h2, upd_at]; simp only [if_neg (h2 ▸ h1), if_true]
      · rw [upd_ne _ _ h2]; simp only [if_neg h1, if_neg h2]; exact (hs i hi).2.2.1
  · by_cases h1 : i = P c
    · rw [h1, upd_at]; simp
    · rw [upd_ne _ _ h1]
      by_cases h2 : i = P d
      · have h3 : ¬ c = d := fun g => h1 (by rw [h2, g])
        rw [if_neg h3, h2, upd_at]
        simp only [if_neg (h2 ▸ h1), if_true]
      · by_cases h3 : c = d
        · rw [if_pos h3, upd_ne _ _ h1]; simp only [if_neg h1, if_neg h2]; exact (hs i hi).2.2.2
        · rw [if_neg h3, upd_ne _ _ h2]; simp only [if_neg h1, if_neg h2]; exact (hs i hi).2.2.2
theorem ref_changes {m k c d : Nat} {D : Dy} {ms : Nat → Int32} {Q : (Nat → Int32) → Prop} (hm : m ≤ 7) (hr : rfD m k D ms) (hk : k ≤ 6) (hc : c < m) (hd2 : d < m) (hQ : ∀ ms', rfD m k (swD D c d) ms' → Q ms') : wX6_changes (nI c) (nI d) ms Q := by
  unfold wX6_changes
  have e1 : (1 : Int32) + nI c = nI (1 + c) := nI_add 1 c
  have e2 : (1 : Int32) + nI d = nI (1 + d) := nI_add 1 d
  rw [e1, e2, nmx, nI_clamp (by omega), nI_clamp (by omega), vpn (by omega), vpn (by omega), hr.2.1 c hc, hr.2.1 d hd2]
  refine ⟨by omega, by omega, by omega, by omega, hQ _ ⟨?_, fun i hi => ?_, fun n hn => ⟨?_, fun i hi => ?_⟩, fun i h1 h2 h3 => ?_⟩⟩
  · rw [upd_ne _ _ (by omega), upd_ne _ _ (by omega)]; exact hr.1
  · show _ = nI (if i = d then dP D c else if i = c then dP D d else dP D i)
    by_cases g1 : i = d
    · rw [g1, upd_at, if_pos rfl]
    · rw [upd_ne _ _ (by omega), if_neg g1]
      by_cases g2 : i = c
      · rw [g2, upd_at, if_pos rfl]
      · rw [upd_ne _ _ (by omega), if_neg g2]; exact hr.2.1 i hi
  · rw [upd_ne _ _ (by omega), upd_ne _ _ (by omega)]; exact (hr.2.2.1 n hn).1
  · rw [upd_ne _ _ (by omega), upd_ne _ _ (by omega)]; exact (hr.2.2.1 n hn).2 i hi
  · rw [upd_ne _ _ (by omega), upd_ne _ _ (by omega)]; exact hr.2.2.2 i h1 h2 h3
