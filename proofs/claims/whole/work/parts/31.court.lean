/-! the abstract court: m courtiers, k news; kinds K, heeded H (9: nobody), places P and who sits there S; where news is A (9: known), beliefs B n c -/
/-- the set of those below j who doubt, by their beliefs b -/
def ds (b : Nat → Nat) : Nat → Nat
  | 0 => 0
  | j + 1 => if b j ≤ 4 then ds b j ||| 2 ^ j else ds b j
theorem ds_lt (b : Nat → Nat) : ∀ j, ds b j < 2 ^ j
  | 0 => by simp [ds]
  | j + 1 => by
    have h := ds_lt b j
    have h2 : ds b j < 2 ^ (j + 1) := Nat.lt_of_lt_of_le h (Nat.pow_le_pow_right (by decide) (Nat.le_succ j))
    unfold ds
    split
    · exact Nat.or_lt_two_pow h2 (Nat.pow_lt_pow_right (by decide) (Nat.lt_succ_self j))
    · exact h2
theorem ds_bit (b : Nat → Nat) (c : Nat) : ∀ j, (ds b j).testBit c = (decide (c < j) && decide (b c ≤ 4))
  | 0 => by simp [ds]
  | j + 1 => by
    have ih := ds_bit b c j
    unfold ds
    by_cases hc : c = j
    · subst hc
      by_cases hb : b c ≤ 4
      · rw [if_pos hb, Nat.testBit_or, ih, Nat.testBit_two_pow]
        simp [hb]
      · rw [if_neg hb, ih]
        simp [hb]
    · by_cases hb : b j ≤ 4
      · rw [if_pos hb, Nat.testBit_or, ih, Nat.testBit_two_pow]
        have h1 : decide (j = c) = false := by simp; omega
        have h2 : decide (c < j + 1) = decide (c < j) := by simp; omega
        rw [h1, h2]
        simp
      · rw [if_neg hb, ih]
        have h2 : decide (c < j + 1) = decide (c < j) := by simp; omega
        rw [h2]
theorem ds_zero (b : Nat → Nat) (m : Nat) : ds b m = 0 ↔ ∀ c, c < m → ¬ b c ≤ 4 := by
  constructor
  · intro h c hc hb
    have h1 := ds_bit b c m
    rw [h] at h1
    simp [hc, hb] at h1
  · intro h
    apply Nat.eq_of_testBit_eq
    intro c
    rw [ds_bit]
    by_cases hc : c < m
    · simp [h c hc]
    · simp [hc]
theorem ds_lt7 (b : Nat → Nat) {m : Nat} (hm : m ≤ 7) : ds b m < 128 := Nat.lt_of_lt_of_le (ds_lt b m) (Nat.pow_le_pow_right (by decide) hm : 2 ^ m ≤ 2 ^ 7)
def dst (a b : Nat) : Nat := if b ≤ a then a - b else b - a
theorem dst_lt {a b N : Nat} (ha : a < N) (hb : b < N) : dst a b < N := by unfold dst; split <;> omega
/-- of those who sit at places q, q + 1 .. (r places) and doubt, the one nearest to place p; of none: x -/
def nearF (b S : Nat → Nat) (p : Nat) : Nat → Nat → Nat → Nat → Nat
  | 0, _, x, _ => x
  | r + 1, q, x, y => if b (S q) ≤ 4 ∧ dst q p < y then nearF b S p r (q + 1) (S q) (dst q p) else nearF b S p r (q + 1) x y
theorem nearF_some (b S : Nat → Nat) (p : Nat) (hp : p < 7) : ∀ (r q x y x' y' : Nat), q + r ≤ 7 → 7 ≤ y → 7 ≤ y' → (∃ j, q ≤ j ∧ j < q + r ∧ b (S j) ≤ 4) → nearF b S p r q x y = nearF b S p r q x' y'
  | 0, q, x, y, x', y', _, _, _, h => by
    obtain ⟨j, h1, h2, -⟩ := h
    omega
  | r + 1, q, x, y, x', y', hq, hy, hy', h => by
    unfold nearF
    by_cases hb : b (S q) ≤ 4
    · have hd : dst q p < 7 := dst_lt (by omega) hp
      rw [if_pos ⟨hb, Nat.lt_of_lt_of_le hd hy⟩, if_pos ⟨hb, Nat.lt_of_lt_of_le hd hy'⟩]
    · rw [if_neg (fun h => hb h.1), if_neg (fun h => hb h.1)]
      obtain ⟨j, h1, h2, h3⟩ := h
      refine nearF_some b S p hp r (q + 1) x y x' y' (by omega) hy hy' ⟨j, ?_, by omega, h3⟩
      rcases Nat.lt_or_ge q j with g | g
      · exact g
      · have : j = q := by omega
        subst this
        exact absurd h3 hb
theorem nearF_lt (b S : Nat → Nat) (p m : Nat) (hS : ∀ q, q < m → S q < m) : ∀ (r q x y : Nat), q + r ≤ m → x < m → nearF b S p r q x y < m
  | 0, _, _, _, _, hx => hx
  | r + 1, q, x, y, hq, hx => by
    unfold nearF
    split
    · exact nearF_lt b S p m hS r (q + 1) _ _ (by omega) (hS q (by omega))
    · exact nearF_lt b S p m hS r (q + 1) _ _ (by omega) hx
/-- a day: where the news is then -/
def stA (m : Nat) (P S : Nat → Nat) (a : Nat) (b : Nat → Nat) : Nat :=
  if a = 9 then 9 else if b a ≤ 4 then (if P a = 0 then 9 else S (P a - 1)) else nearF b S (P a) m 0 a 99
/-- by how much the courtier c believes it then, a' being where it is then -/
def stB (K H : Nat → Nat) (a' : Nat) (b : Nat → Nat) (c : Nat) : Nat :=
  if a' = 9 then b c else if K c = 0 then min 9 (b c + if H c ≠ 9 ∧ ¬ b (H c) ≤ 4 then 1 else 0) else if K c = 1 then min 9 (b c + if H c ≠ 9 ∧ ¬ b (H c) ≤ 4 then 2 else 0) else if K c = 2 then b c else if a' = c then b c else b c - 1
/-- the abstract court is in order -/
def okT (m : Nat) (K H P S : Nat → Nat) : Prop := 1 ≤ m ∧ m ≤ 7 ∧ ∀ c, c < m → K c ≤ 3 ∧ (H c < m ∨ H c = 9) ∧ P c < m ∧ S (P c) = c ∧ S c < m ∧ P (S c) = c
def okN (m a : Nat) (b : Nat → Nat) : Prop := (a < m ∨ a = 9) ∧ ∀ c, c < m → b c ≤ 9
def hI (h : Nat) : Int32 := if h = 9 then -4 else nI h
/-- the class's court holds it: what does not change by days -/
def ctS (m : Nat) (K H P S : Nat → Nat) (kd hd pl st : Nat → Int32) : Prop := ∀ c, c < m → kd c = nI (K c) ∧ hd c = hI (H c) ∧ pl c = nI (P c) ∧ st c = nI (S c)
/-- news n -/
def ctN (m n a : Nat) (b : Nat → Nat) (ho be : Nat → Int32) : Prop := ho n = nI a ∧ ∀ c, c < m → be (n * 7 + c) = nI (b c)
theorem s_doubters {m n : Nat} {b : Nat → Nat} {be : Nat → Int32} {Q : Int32 → Prop} (hn : n < 6) (hm : m ≤ 7) (hb : ∀ c, c < m → be (n * 7 + c) = nI (b c)) (hb9 : ∀ c, c < m → b c ≤ 9) (hQ : Q (nI (ds b m))) : wX0_doubters (nI n) be (nI m) Q := by
  have key : ∀ r i, i + r = m → wX0_doubters_L4 (nI n) be (nI m) Q (r + 1) (nI (ds b i)) (nI i) := by
    intro r
    induction r with
    | zero =>
      intro i hi
      have hi : i = m := by omega
      subst hi
      unfold wX0_doubters_L4
      exact ifp (Int32.le_refl _) hQ
    | succ r ih =>
      intro i hi
      have h9 := hb9 i (by omega)
      have hlt := ds_lt7 b (show i ≤ 7 by omega)
      unfold wX0_doubters_L4
      rw [ifF (by simp (disch := omega) only [zl_0, zl_1, zl_2, zl_3, zl_4, zl_5, zl_6, zl_7, zl_8, zl_9, zl_10, zl_14, zl_16, zl_20, zl_24, zl_32, zl_40, zl_42, zl_44, zl_48, zl_56, zl_57, zl_59, zl_60, zl_61, zl_64, zl_99, zl_100, zl_110, zl_126, zl_128, zl_200, zl_392, zl_999, zl_9999, nI_add, pk_mul, nI_leI, nI_ltI, nI_eq, nI_clamp, vpn, pk_sub]; omega), e_believes (by omega) hn, hb i (by omega), nmx, or_fin _ hlt i (by omega)]
      have hs : ds b (i + 1) = if b i ≤ 4 then ds b i ||| 2 ^ i else ds b i := rfl
      have h1 := ih (i + 1) (by omega)
      rw [hs] at h1
      by_cases hd : b i ≤ 4
      · rw [if_pos hd] at h1
        rw [ifF (by simp (disch := omega) only [zl_0, zl_1, zl_2, zl_3, zl_4, zl_5, zl_6, zl_7, zl_8, zl_9, zl_10, zl_14, zl_16, zl_20, zl_24, zl_32, zl_40, zl_42, zl_44, zl_48, zl_56, zl_57, zl_59, zl_60, zl_61, zl_64, zl_99, zl_100, zl_110, zl_126, zl_128, zl_200, zl_392, zl_999, zl_9999, nI_add, pk_mul, nI_leI, nI_ltI, nI_eq, nI_clamp, vpn, pk_sub]; omega)]
        simp (disch := omega) only [zl_0, zl_1, zl_2, zl_3, zl_4, zl_5, zl_6, zl_7, zl_8, zl_9, zl_10, zl_14, zl_16, zl_20, zl_24, zl_32, zl_40, zl_42, zl_44, zl_48, zl_56, zl_57, zl_59, zl_60, zl_61, zl_64, zl_99, zl_100, zl_110, zl_126, zl_128, zl_200, zl_392, zl_999, zl_9999, nI_add, pk_mul, nI_leI, nI_ltI, nI_eq, nI_clamp, vpn, pk_sub]
        exact h1
      · rw [if_neg hd] at h1
        rw [ifT (by simp (disch := omega) only [zl_0, zl_1, zl_2, zl_3, zl_4, zl_5, zl_6, zl_7, zl_8, zl_9, zl_10, zl_14, zl_16, zl_20, zl_24, zl_32, zl_40, zl_42, zl_44, zl_48, zl_56, zl_57, zl_59, zl_60, zl_61, zl_64, zl_99, zl_100, zl_110, zl_126, zl_128, zl_200, zl_392, zl_999, zl_9999, nI_add, pk_mul, nI_leI, nI_ltI, nI_eq, nI_clamp, vpn, pk_sub]; omega)]
        simp (disch := omega) only [zl_0, zl_1, zl_2, zl_3, zl_4, zl_5, zl_6, zl_7, zl_8, zl_9, zl_10, zl_14, zl_16, zl_20, zl_24, zl_32, zl_40, zl_42, zl_44, zl_48, zl_56, zl_57, zl_59, zl_60, zl_61, zl_64, zl_99, zl_100, zl_110, zl_126, zl_128, zl_200, zl_392, zl_999, zl_9999, nI_add, pk_mul, nI_leI, nI_ltI, nI_eq, nI_clamp, vpn, pk_sub]
        exact h1
  exact ⟨m + 1, key m 0 (by omega)⟩
theorem upd_self (f : Nat → Int32) (n : Nat) : upd f n (f n) = f := by
  funext j
  unfold upd
  split
  · rename_i h; rw [h]
  · rfl
theorem okT.P {m c : Nat} {K H P S : Nat → Nat} (h : okT m K H P S) (hc : c < m) : P c < m ∧ S (P c) = c := ⟨(h.2.2 c hc).2.2.1, (h.2.2 c hc).2.2.2.1⟩
theorem okT.S {m c : Nat} {K H P S : Nat → Nat} (h : okT m K H P S) (hc : c < m) : S c < m ∧ P (S c) = c := ⟨(h.2.2 c hc).2.2.2.2.1, (h.2.2 c hc).2.2.2.2.2⟩
theorem e_goUp {m n a : Nat} {K H P S : Nat → Nat} {kd hd pl st ho : Nat → Int32} {Q : (Nat → Int32) → Prop} (ok : okT m K H P S) (hc : ctS m K H P S kd hd pl st) (hn : n < 6) (ha : a < m) (h : ho n = nI a) : wX0_goUp (nI n) pl st ho Q = Q (upd ho n (nI (if P a = 0 then 9 else S (P a - 1)))) := by
  have hm := ok.2.1
  have hp := (ok.P ha).1
  unfold wX0_goUp
  rw [e_of hn (by decide), h, e_of (by omega) (by decide), (hc a ha).2.2.1]
  by_cases h0 : P a = 0
  · rw [ifT (by simp (disch := omega) only [zl_0, zl_1, zl_2, zl_3, zl_4, zl_5, zl_6, zl_7, zl_8, zl_9, zl_10, zl_14, zl_16, zl_20, zl_24, zl_32, zl_40, zl_42, zl_44, zl_48, zl_56, zl_57, zl_59, zl_60, zl_61, zl_64, zl_99, zl_100, zl_110, zl_126, zl_128, zl_200, zl_392, zl_999, zl_9999, nI_add, pk_mul, nI_leI, nI_ltI, nI_eq, nI_clamp, vpn, pk_sub]; exact h0), e_put hn (by decide), if_pos h0]
    rfl
  · rw [ifF (by simp (disch := omega) only [zl_0, zl_1, zl_2, zl_3, zl_4, zl_5, zl_6, zl_7, zl_8, zl_9, zl_10, zl_14, zl_16, zl_20, zl_24, zl_32, zl_40, zl_42, zl_44, zl_48, zl_56, zl_57, zl_59, zl_60, zl_61, zl_64, zl_99, zl_100, zl_110, zl_126, zl_128, zl_200, zl_392, zl_999, zl_9999, nI_add, pk_mul, nI_leI, nI_ltI, nI_eq, nI_clamp, vpn, pk_sub]; exact h0)]
    simp (disch := omega) only [zl_0, zl_1, zl_2, zl_3, zl_4, zl_5, zl_6, zl_7, zl_8, zl_9, zl_10, zl_14, zl_16, zl_20, zl_24, zl_32, zl_40, zl_42, zl_44, zl_48, zl_56, zl_57, zl_59, zl_60, zl_61, zl_64, zl_99, zl_100, zl_110, zl_126, zl_128, zl_200, zl_392, zl_999, zl_9999, nI_add, pk_mul, nI_leI, nI_ltI, nI_eq, nI_clamp, vpn, pk_sub]
    rw [e_of (by omega) (by decide), (hc (P a - 1) (by omega)).2.2.2, e_put hn (by decide), if_neg h0]
theorem abs_fin : ∀ q, q < 8 → ∀ p, p < 8 → (if 0 ≤ nI q - nI p then nI q - nI p else 0 - (nI q - nI p)) = nI (dst q p) := by decide +kernel
theorem s_nearest {m p : Nat} {b : Nat → Nat} {K H P S : Nat → Nat} {kd hd pl st : Nat → Int32} {Q : Int32 → Prop} (ok : okT m K H P S) (hc : ctS m K H P S kd hd pl st) (hp : p < m) (hQ : Q (nI (nearF b S p m 0 0 14))) : wX0_nearest (nI (ds b m)) (nI p) st (nI m) Q := by
  have hm := ok.2.1
  have hlt := ds_lt7 b hm
  have key : ∀ r q x y, q + r = m → y ≤ 14 → Q (nI (nearF b S p r q x y)) → wX0_nearest_L9 (nI (ds b m)) (nI p) st (nI m) Q (r + 1) (nI x) (nI y) (nI q) := by
    intro r
    induction r with
    | zero =>
      intro q x y hq hy hQ2
      have hq : q = m := by omega
      subst hq
      unfold wX0_nearest_L9
      exact ifp (Int32.le_refl _) hQ2
    | succ r ih =>
      intro q x y hq hy hQ
      have hS := (ok.S (show q < m by omega)).1
      unfold wX0_nearest_L9
      rw [ifF (by simp (disch := omega) only [zl_0, zl_1, zl_2, zl_3, zl_4, zl_5, zl_6, zl_7, zl_8, zl_9, zl_10, zl_14, zl_16, zl_20, zl_24, zl_32, zl_40, zl_42, zl_44, zl_48, zl_56, zl_57, zl_59, zl_60, zl_61, zl_64, zl_99, zl_100, zl_110, zl_126, zl_128, zl_200, zl_392, zl_999, zl_9999, nI_add, pk_mul, nI_leI, nI_ltI, nI_eq, nI_clamp, vpn, pk_sub]; omega), e_of (by omega) (by decide), (hc q (by omega)).2.2.2, nmx, abs_fin q (by omega) p (by omega)]
      have hd : dst q p < 7 := dst_lt (by omega) (by omega)
      unfold nearF at hQ
      generalize dst q p = dd at hQ hd ⊢
      by_cases hb : b (S q) ≤ 4
      · rw [e_hasBitT hlt (by omega) (by rw [ds_bit]; simp [hS, hb]), ifF (by decide)]
        by_cases hy2 : dd < y
        · rw [if_pos ⟨hb, hy2⟩] at hQ
          rw [ifF (by simp (disch := omega) only [zl_0, zl_1, zl_2, zl_3, zl_4, zl_5, zl_6, zl_7, zl_8, zl_9, zl_10, zl_14, zl_16, zl_20, zl_24, zl_32, zl_40, zl_42, zl_44, zl_48, zl_56, zl_57, zl_59, zl_60, zl_61, zl_64, zl_99, zl_100, zl_110, zl_126, zl_128, zl_200, zl_392, zl_999, zl_9999, nI_add, pk_mul, nI_leI, nI_ltI, nI_eq, nI_clamp, vpn, pk_sub]; omega)]
          simp (disch := omega) only [zl_0, zl_1, zl_2, zl_3, zl_4, zl_5, zl_6, zl_7, zl_8, zl_9, zl_10, zl_14, zl_16, zl_20, zl_24, zl_32, zl_40, zl_42, zl_44, zl_48, zl_56, zl_57, zl_59, zl_60, zl_61, zl_64, zl_99, zl_100, zl_110, zl_126, zl_128, zl_200, zl_392, zl_999, zl_9999, nI_add, pk_mul, nI_leI, nI_ltI, nI_eq, nI_clamp, vpn, pk_sub]
          exact ih (q + 1) (S q) dd (by omega) (by omega) hQ
        · rw [if_neg (fun h => hy2 h.2)] at hQ
          rw [ifT (by simp (disch := omega) only [zl_0, zl_1, zl_2, zl_3, zl_4, zl_5, zl_6, zl_7, zl_8, zl_9, zl_10, zl_14, zl_16, zl_20, zl_24, zl_32, zl_40, zl_42, zl_44, zl_48, zl_56, zl_57, zl_59, zl_60, zl_61, zl_64, zl_99, zl_100, zl_110, zl_126, zl_128, zl_200, zl_392, zl_999, zl_9999, nI_add, pk_mul, nI_leI, nI_ltI, nI_eq, nI_clamp, vpn, pk_sub]; omega)]
          simp (disch := omega) only [zl_0, zl_1, zl_2, zl_3, zl_4, zl_5, zl_6, zl_7, zl_8, zl_9, zl_10, zl_14, zl_16, zl_20, zl_24, zl_32, zl_40, zl_42, zl_44, zl_48, zl_56, zl_57, zl_59, zl_60, zl_61, zl_64, zl_99, zl_100, zl_110, zl_126, zl_128, zl_200, zl_392, zl_999, zl_9999, nI_add, pk_mul, nI_leI, nI_ltI, nI_eq, nI_clamp, vpn, pk_sub]
          exact ih (q + 1) x y (by omega) hy hQ
      · rw [if_neg (fun h => hb h.1)] at hQ
        rw [e_hasBitF hlt (by omega) (by rw [ds_bit]; simp [hb]), ifT rfl]
        simp (disch := omega) only [zl_0, zl_1, zl_2, zl_3, zl_4, zl_5, zl_6, zl_7, zl_8, zl_9, zl_10, zl_14, zl_16, zl_20, zl_24, zl_32, zl_40, zl_42, zl_44, zl_48, zl_56, zl_57, zl_59, zl_60, zl_61, zl_64, zl_99, zl_100, zl_110, zl_126, zl_128, zl_200, zl_392, zl_999, zl_9999, nI_add, pk_mul, nI_leI, nI_ltI, nI_eq, nI_clamp, vpn, pk_sub]
        exact ih (q + 1) x y (by omega) hy hQ
  exact ⟨m + 1, key m 0 0 14 (by omega) (by omega) hQ⟩
theorem nearF_none (b S : Nat → Nat) (p : Nat) : ∀ (r q x y : Nat), (∀ j, q ≤ j → j < q + r → ¬ b (S j) ≤ 4) → nearF b S p r q x y = x
  | 0, _, _, _, _ => rfl
  | r + 1, q, x, y, h => by
    unfold nearF
    rw [if_neg (fun g => h q (Nat.le_refl _) (by omega) g.1)]
    exact nearF_none b S p r (q + 1) x y (fun j h1 h2 => h j (by omega) (by omega))
theorem s_move {m n a : Nat} {b : Nat → Nat} {K H P S : Nat → Nat} {kd hd pl st ho : Nat → Int32} {Q : (Nat → Int32) → Prop} (ok : okT m K H P S) (hc : ctS m K H P S kd hd pl st) (hn : n < 6) (ha : a < m) (h : ho n = nI a) (hQ : Q (upd ho n (nI (stA m P S a b)))) : wX0_move (nI n) (nI (ds b m)) pl st ho (nI m) Q := by
  have hm := ok.2.1
  have hlt := ds_lt7 b hm
  have hp := (ok.P ha).1
  unfold wX0_move
  rw [e_of hn (by decide), h]
  unfold stA at hQ
  rw [if_neg (by omega)] at hQ
  by_cases hb : b a ≤ 4
  · rw [if_pos hb] at hQ
    rw [e_hasBitT hlt (by omega) (by rw [ds_bit]; simp [ha, hb]), ifF (by decide), e_goUp ok hc hn ha h]
    exact hQ
  · rw [if_neg hb] at hQ
    rw [e_hasBitF hlt (by omega) (by rw [ds_bit]; simp [hb]), ifT rfl]
    by_cases hz : ds b m = 0
    · have hno := (ds_zero b m).mp hz
      rw [ifT (by rw [hz]; rfl)]
      rw [nearF_none b S (P a) m 0 a 99 (fun j _ h2 => hno _ (ok.S (by omega)).1), ← h, upd_self] at hQ
      exact hQ
    · rw [ifF (by simp (disch := omega) only [zl_0, zl_1, zl_2, zl_3, zl_4, zl_5, zl_6, zl_7, zl_8, zl_9, zl_10, zl_14, zl_16, zl_20, zl_24, zl_32, zl_40, zl_42, zl_44, zl_48, zl_56, zl_57, zl_59, zl_60, zl_61, zl_64, zl_99, zl_100, zl_110, zl_126, zl_128, zl_200, zl_392, zl_999, zl_9999, nI_add, pk_mul, nI_leI, nI_ltI, nI_eq, nI_clamp, vpn, pk_sub]; exact hz), e_of hn (by decide), h, e_of (by omega) (by decide), (hc a ha).2.2.1]
      refine s_nearest ok hc hp ?_
      rw [e_put hn (by decide)]
      have hex : ∃ j, 0 ≤ j ∧ j < 0 + m ∧ b (S j) ≤ 4 := by
        by_cases he : ∃ c, c < m ∧ b c ≤ 4
        · obtain ⟨c, h1, h2⟩ := he
          exact ⟨P c, Nat.zero_le _, by have := (ok.P h1).1; omega, by rw [(ok.P h1).2]; exact h2⟩
        · exact absurd ((ds_zero b m).mpr (fun c h1 h2 => he ⟨c, h1, h2⟩)) hz
      rw [nearF_some b S (P a) (by omega) m 0 0 14 a 99 (by omega) (by omega) (by omega) hex]
      exact hQ
theorem e_sw3 {κ : Nat} (h : κ ≤ 3) {A B0 B1 B2 B3 : Prop} : ((((nI κ).toInt < 0 ∨ 3 < (nI κ).toInt) → A) ∧ (nI κ = 0 → B0) ∧ (nI κ = 1 → B1) ∧ (nI κ = 2 → B2) ∧ (nI κ = 3 → B3)) = if κ = 0 then B0 else if κ = 1 then B1 else if κ = 2 then B2 else B3 := by
  have h1 : ¬ ((nI κ).toInt < 0 ∨ 3 < (nI κ).toInt) := by rw [nI_toInt (by omega)]; omega
  simp (disch := omega) only [zl_0, zl_1, zl_2, zl_3, zl_4, zl_5, zl_6, zl_7, zl_8, zl_9, zl_10, zl_14, zl_16, zl_20, zl_24, zl_32, zl_40, zl_42, zl_44, zl_48, zl_56, zl_57, zl_59, zl_60, zl_61, zl_64, zl_99, zl_100, zl_110, zl_126, zl_128, zl_200, zl_392, zl_999, zl_9999, nI_add, pk_mul, nI_leI, nI_ltI, nI_eq, nI_clamp, vpn, pk_sub]
  rcases (show κ = 0 ∨ κ = 1 ∨ κ = 2 ∨ κ = 3 by omega) with rfl | rfl | rfl | rfl <;> simp [h1]
theorem nI_ne4 : ∀ h, h < 100 → ¬ nI h = (-4) := by decide +kernel
/-- what a courtier believes behind the change -/
theorem e_grow {m n c a' : Nat} {b : Nat → Nat} {K H P S : Nat → Nat} {kd hd pl st ho : Nat → Int32} {Q : Int32 → Prop} (ok : okT m K H P S) (hs : ctS m K H P S kd hd pl st) (hn : n < 6) (hc : c < m) (hb9 : b c ≤ 9) (h : ho n = nI a') (ha : a' < 10) (ha9 : a' ≠ 9) : wX0_change (nI c) (nI n) (nI (ds b m)) kd hd ho (fun r => wX5_cutBelief (nI (b c) + r) Q) = Q (nI (stB K H a' b c)) := by
  have hm := ok.2.1
  have hlt := ds_lt7 b hm
  obtain ⟨hK, hH, -, -, -, -⟩ := ok.2.2 c hc
  obtain ⟨gK, gH, -, -⟩ := hs c hc
  have z0 : wX5_cutBelief (nI (b c) + 0) Q = Q (nI (min 9 (b c))) := by
    simp (disch := omega) only [zl_0, zl_1, zl_2, zl_3, zl_4, zl_5, zl_6, zl_7, zl_8, zl_9, zl_10, zl_14, zl_16, zl_20, zl_24, zl_32, zl_40, zl_42, zl_44, zl_48, zl_56, zl_57, zl_59, zl_60, zl_61, zl_64, zl_99, zl_100, zl_110, zl_126, zl_128, zl_200, zl_392, zl_999, zl_9999, nI_add, pk_mul, nI_leI, nI_ltI, nI_eq, nI_clamp, vpn, pk_sub]
    exact e_cut (by omega)
  have z1 : wX5_cutBelief (nI (b c) + 1) Q = Q (nI (min 9 (b c + 1))) := by
    simp (disch := omega) only [zl_0, zl_1, zl_2, zl_3, zl_4, zl_5, zl_6, zl_7, zl_8, zl_9, zl_10, zl_14, zl_16, zl_20, zl_24, zl_32, zl_40, zl_42, zl_44, zl_48, zl_56, zl_57, zl_59, zl_60, zl_61, zl_64, zl_99, zl_100, zl_110, zl_126, zl_128, zl_200, zl_392, zl_999, zl_9999, nI_add, pk_mul, nI_leI, nI_ltI, nI_eq, nI_clamp, vpn, pk_sub]
    exact e_cut (by omega)
  have z2 : wX5_cutBelief (nI (b c) + 2) Q = Q (nI (min 9 (b c + 2))) := by
    simp (disch := omega) only [zl_0, zl_1, zl_2, zl_3, zl_4, zl_5, zl_6, zl_7, zl_8, zl_9, zl_10, zl_14, zl_16, zl_20, zl_24, zl_32, zl_40, zl_42, zl_44, zl_48, zl_56, zl_57, zl_59, zl_60, zl_61, zl_64, zl_99, zl_100, zl_110, zl_126, zl_128, zl_200, zl_392, zl_999, zl_9999, nI_add, pk_mul, nI_leI, nI_ltI, nI_eq, nI_clamp, vpn, pk_sub]
    exact e_cut (by omega)
  have zm : wX5_cutBelief (nI (b c) + (-1)) Q = Q (nI (b c - 1)) := by
    rw [m1_fin _ (by omega)]
    exact e_cutm (by omega) (by omega)
  have zK : min 9 (b c) = b c := by omega
  have z3 : (wX5_of (nI n) ho 6 fun r => (r = nI c → wX5_cutBelief (nI (b c) + 0) Q) ∧ (¬ r = nI c → wX5_cutBelief (nI (b c) + (-1)) Q)) = Q (nI (if a' = c then b c else b c - 1)) := by
    rw [e_of hn (by decide), h, z0, zm, zK]
    by_cases he : a' = c
    · rw [ifT (by rw [he]), if_pos he]
    · rw [ifF (by simp (disch := omega) only [zl_0, zl_1, zl_2, zl_3, zl_4, zl_5, zl_6, zl_7, zl_8, zl_9, zl_10, zl_14, zl_16, zl_20, zl_24, zl_32, zl_40, zl_42, zl_44, zl_48, zl_56, zl_57, zl_59, zl_60, zl_61, zl_64, zl_99, zl_100, zl_110, zl_126, zl_128, zl_200, zl_392, zl_999, zl_9999, nI_add, pk_mul, nI_leI, nI_ltI, nI_eq, nI_clamp, vpn, pk_sub]; exact he), if_neg he]
  unfold wX0_change
  simp only
  rw [e_of (by omega) (by decide), gH]
  unfold stB
  rw [if_neg ha9]
  by_cases h9 : H c = 9
  · have e4 : hI (H c) = -4 := by unfold hI; rw [if_pos h9]
    rw [ifT e4, e_of (by omega) (by decide), gK, e_sw3 hK]
    simp only [z3]
    simp only [z0, h9]
    rcases (show K c = 0 ∨ K c = 1 ∨ K c = 2 ∨ K c = 3 by omega) with e | e | e | e <;> simp [e, zK]
  · have hHm : H c < m := hH.resolve_right h9
    have e4 : hI (H c) = nI (H c) := by unfold hI; rw [if_neg h9]
    rw [e4, ifF (nI_ne4 _ (by omega))]
    by_cases hd : b (H c) ≤ 4
    · rw [e_hasBitT hlt (by omega) (by rw [ds_bit]; simp [hHm, hd]), ifF (by decide), e_of (by omega) (by decide), gK, e_sw3 hK]
      simp only [z3]
      simp only [z0]
      rcases (show K c = 0 ∨ K c = 1 ∨ K c = 2 ∨ K c = 3 by omega) with e | e | e | e <;> simp [e, zK, hd]
    · rw [e_hasBitF hlt (by omega) (by rw [ds_bit]; simp [hd]), ifT rfl, e_of (by omega) (by decide), gK, e_sw3 hK]
      simp only [z3]
      simp only [z0, z1, z2]
      rcases (show K c = 0 ∨ K c = 1 ∨ K c = 2 ∨ K c = 3 by omega) with e | e | e | e <;> simp [e, zK, hd, h9]
def frH (n : Nat) (ho ho' : Nat → Int32) : Prop := ∀ j, j ≠ n → ho' j = ho j
def frB (m n : Nat) (be be' : Nat → Int32) : Prop := ∀ i, (∀ c, c < m → i ≠ n * 7 + c) → be' i = be i
theorem upd_at (f : Nat → Int32) (k : Nat) (x : Int32) : upd f k x k = x := by simp [upd]
theorem upd_ne (f : Nat → Int32) {k j : Nat} (x : Int32) (h : j ≠ k) : upd f k x j = f j := by simp [upd, h]
theorem s_spread {m n a' : Nat} {b : Nat → Nat} {K H P S : Nat → Nat} {kd hd pl st ho be : Nat → Int32} {Q : (Nat → Int32) → Prop} (ok : okT m K H P S) (hs : ctS m K H P S kd hd pl st) (hn : n < 6) (hb : ∀ c, c < m → be (n * 7 + c) = nI (b c)) (hb9 : ∀ c, c < m → b c ≤ 9) (h : ho n = nI a') (ha : a' < 10)
    (hQ : ∀ be', (∀ c, c < m → be' (n * 7 + c) = nI (stB K H a' b c)) → frB m n be be' → Q be') : wX0_spread (nI n) (nI (ds b m)) kd hd ho be (nI m) Q := by
  have hm := ok.2.1
  unfold wX0_spread
  rw [e_isKnown hn h ha]
  by_cases h9 : a' = 9
  · rw [if_pos h9, ifF (by decide)]
    exact hQ be (fun c hc => by unfold stB; rw [if_pos h9]; exact hb c hc) (fun _ _ => rfl)
  · rw [if_neg h9, ifT rfl]
    have key : ∀ r i be1, i + r = m → (∀ c, c < m → be1 (n * 7 + c) = nI (if c < i then stB K H a' b c else b c)) → frB m n be be1 → wX0_spread_L11 (nI n) (nI (ds b m)) kd hd ho (nI m) Q (r + 1) (nI i) be1 := by
      intro r
      induction r with
      | zero =>
        intro i be1 hi h1 h2
        have hi : i = m := by omega
        subst hi
        unfold wX0_spread_L11
        exact ifp (Int32.le_refl _) (hQ be1 (fun c hc => by rw [h1 c hc, if_pos hc]) h2)
      | succ r ih =>
        intro i be1 hi h1 h2
        unfold wX0_spread_L11
        rw [ifF (by simp (disch := omega) only [zl_0, zl_1, zl_2, zl_3, zl_4, zl_5, zl_6, zl_7, zl_8, zl_9, zl_10, zl_14, zl_16, zl_20, zl_24, zl_32, zl_40, zl_42, zl_44, zl_48, zl_56, zl_57, zl_59, zl_60, zl_61, zl_64, zl_99, zl_100, zl_110, zl_126, zl_128, zl_200, zl_392, zl_999, zl_9999, nI_add, pk_mul, nI_leI, nI_ltI, nI_eq, nI_clamp, vpn, pk_sub]; omega), e_believes (by omega) hn, h1 i (by omega), if_neg (Nat.lt_irrefl i), e_grow ok hs hn (by omega) (hb9 i (by omega)) h ha h9, e_setBelief (by omega) hn]
        simp (disch := omega) only [zl_0, zl_1, zl_2, zl_3, zl_4, zl_5, zl_6, zl_7, zl_8, zl_9, zl_10, zl_14, zl_16, zl_20, zl_24, zl_32, zl_40, zl_42, zl_44, zl_48, zl_56, zl_57, zl_59, zl_60, zl_61, zl_64, zl_99, zl_100, zl_110, zl_126, zl_128, zl_200, zl_392, zl_999, zl_9999, nI_add, pk_mul, nI_leI, nI_ltI, nI_eq, nI_clamp, vpn, pk_sub]
        refine ih (i + 1) _ (by omega) (fun c hc => ?_) (fun j hj => ?_)
        · by_cases he : c = i
          · subst he
            rw [upd_at, if_pos (Nat.lt_succ_self _)]
          · rw [upd_ne _ _ (by omega), h1 c hc]
            by_cases hlt : c < i
            · rw [if_pos hlt, if_pos (by omega)]
            · rw [if_neg hlt, if_neg (by omega)]
        · rw [upd_ne _ _ (hj i (by omega))]
          exact h2 j hj
    exact ⟨m + 1, key m 0 be (by omega) (fun c hc => by rw [if_neg (Nat.not_lt_zero c)]; exact hb c hc) (fun _ _ => rfl)⟩
def stp (m : Nat) (K H P S : Nat → Nat) (x : Nat × (Nat → Nat)) : Nat × (Nat → Nat) := (stA m P S x.1 x.2, stB K H (stA m P S x.1 x.2) x.2)
def itr (m : Nat) (K H P S : Nat → Nat) : Nat → Nat × (Nat → Nat) → Nat × (Nat → Nat)
  | 0, x => x
  | d + 1, x => itr m K H P S d (stp m K H P S x)
theorem stp_known {m : Nat} {K H P S : Nat → Nat} {x : Nat × (Nat → Nat)} (h : x.1 = 9) : stp m K H P S x = x := by
  obtain ⟨a, b⟩ := x
  simp only at h
  subst h
  have e : stB K H 9 b = b := by funext c; simp [stB]
  simp [stp, stA, e]
theorem itr_known {m : Nat} {K H P S : Nat → Nat} {x : Nat × (Nat → Nat)} (h : x.1 = 9) : ∀ d, itr m K H P S d x = x
  | 0 => rfl
  | d + 1 => by
    unfold itr
    rw [stp_known h]
    exact itr_known h d
theorem stA_ok {m a : Nat} {b : Nat → Nat} {K H P S : Nat → Nat} (ok : okT m K H P S) (h : okN m a b) : stA m P S a b < m ∨ stA m P S a b = 9 := by
  unfold stA
  split
  · exact Or.inr rfl
  · rename_i h9
    have ha : a < m := h.1.resolve_right h9
    split
    · split
      · exact Or.inr rfl
      · exact Or.inl (ok.S (by have := (ok.P ha).1; omega)).1
    · exact Or.inl (nearF_lt b S (P a) m (fun q hq => (ok.S hq).1) m 0 a 99 (by omega) ha)
theorem stB_ok {m c a' : Nat} {b K H : Nat → Nat} (hb : b c ≤ 9) : stB K H a' b c ≤ 9 := by
  unfold stB
  repeat' split
  all_goals omega
theorem stp_ok {m : Nat} {x : Nat × (Nat → Nat)} {K H P S : Nat → Nat} (ok : okT m K H P S) (h : okN m x.1 x.2) : okN m (stp m K H P S x).1 (stp m K H P S x).2 := ⟨stA_ok ok h, fun c hc => stB_ok (m := m) (h.2 c hc)⟩
theorem itr_ok {m : Nat} {K H P S : Nat → Nat} (ok : okT m K H P S) : ∀ (d : Nat) (x : Nat × (Nat → Nat)), okN m x.1 x.2 → okN m (itr m K H P S d x).1 (itr m K H P S d x).2
  | 0, _, h => h
  | d + 1, x, h => itr_ok ok d _ (stp_ok ok h)
theorem okN.lt {m a : Nat} {b : Nat → Nat} (h : okN m a b) (hm : m ≤ 7) : a < 10 := by
  rcases h.1 with g | g <;> omega
/-- one day of one news, in the class -/
theorem s_liveFor {m n d : Nat} {x : Nat × (Nat → Nat)} {K H P S : Nat → Nat} {kd hd pl st ho be : Nat → Int32} {Q : (Nat → Int32) → (Nat → Int32) → Prop} (ok : okT m K H P S) (hs : ctS m K H P S kd hd pl st) (hn : n < 6) (hd2 : d < 1000) (hx : okN m x.1 x.2) (hN : ctN m n x.1 x.2 ho be)
    (hQ : ∀ ho' be', ctN m n (itr m K H P S d x).1 (itr m K H P S d x).2 ho' be' → frH n ho ho' → frB m n be be' → Q ho' be') : wX0_liveFor (nI n) (nI d) kd hd pl st ho be (nI m) Q := by
  have hm := ok.2.1
  have key : ∀ r i x ho1 be1, i + r = d → okN m x.1 x.2 → ctN m n x.1 x.2 ho1 be1 → (∀ ho' be', ctN m n (itr m K H P S r x).1 (itr m K H P S r x).2 ho' be' → frH n ho1 ho' → frB m n be1 be' → Q ho' be') → wX0_liveFor_L2 (nI n) (nI d) kd hd pl st (nI m) Q (r + 1) (nI i) ho1 be1 := by
    intro r
    induction r with
    | zero =>
      intro i x ho1 be1 hi hx hN hQ2
      have hi : i = d := by omega
      subst hi
      unfold wX0_liveFor_L2
      exact ifp (Int32.le_refl _) (hQ2 ho1 be1 hN (fun _ _ => rfl) (fun _ _ => rfl))
    | succ r ih =>
      intro i x ho1 be1 hi hx hN hQ
      unfold wX0_liveFor_L2
      rw [ifF (by simp (disch := omega) only [zl_0, zl_1, zl_2, zl_3, zl_4, zl_5, zl_6, zl_7, zl_8, zl_9, zl_10, zl_14, zl_16, zl_20, zl_24, zl_32, zl_40, zl_42, zl_44, zl_48, zl_56, zl_57, zl_59, zl_60, zl_61, zl_64, zl_99, zl_100, zl_110, zl_126, zl_128, zl_200, zl_392, zl_999, zl_9999, nI_add, pk_mul, nI_leI, nI_ltI, nI_eq, nI_clamp, vpn, pk_sub]; omega), e_isKnown hn hN.1 (hx.lt hm)]
      by_cases h9 : x.1 = 9
      · rw [if_pos h9, ifF (by decide)]
        rw [itr_known h9] at hQ
        exact hQ ho1 be1 hN (fun _ _ => rfl) (fun _ _ => rfl)
      · rw [if_neg h9, ifT rfl]
        refine s_doubters hn hm hN.2 hx.2 ?_
        refine s_move ok hs hn (hx.1.resolve_right h9) hN.1 ?_
        refine s_spread ok hs hn hN.2 hx.2 (upd_at _ _ _) ((stp_ok ok hx).lt hm) (fun be2 h1 h2 => ?_)
        simp (disch := omega) only [zl_0, zl_1, zl_2, zl_3, zl_4, zl_5, zl_6, zl_7, zl_8, zl_9, zl_10, zl_14, zl_16, zl_20, zl_24, zl_32, zl_40, zl_42, zl_44, zl_48, zl_56, zl_57, zl_59, zl_60, zl_61, zl_64, zl_99, zl_100, zl_110, zl_126, zl_128, zl_200, zl_392, zl_999, zl_9999, nI_add, pk_mul, nI_leI, nI_ltI, nI_eq, nI_clamp, vpn, pk_sub]
        refine ih (i + 1) (stp m K H P S x) _ be2 (by omega) (stp_ok ok hx) ⟨upd_at _ _ _, h1⟩ (fun ho' be' g1 g2 g3 => hQ ho' be' g1 (fun j hj => ?_) (fun j hj => ?_))
        · rw [g2 j hj, upd_ne _ _ hj]
        · rw [g3 j hj, h2 j hj]
  exact ⟨d + 1, key d 0 x ho be (by omega) hx hN hQ⟩
