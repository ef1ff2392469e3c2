/-! class and reference beside one abstract state -/
/-- what changes: places P, who sits there S, where news is A, beliefs B, days -/
abbrev Dy : Type := (Nat → Nat) × (Nat → Nat) × (Nat → Nat) × (Nat → Nat → Nat) × Nat
abbrev dP (D : Dy) : Nat → Nat := D.1
abbrev dS (D : Dy) : Nat → Nat := D.2.1
abbrev dA (D : Dy) : Nat → Nat := D.2.2.1
abbrev dB (D : Dy) : Nat → Nat → Nat := D.2.2.2.1
abbrev dd (D : Dy) : Nat := D.2.2.2.2
def okD (m k : Nat) (K H : Nat → Nat) (D : Dy) : Prop := okT m K H (dP D) (dS D) ∧ 1 ≤ k ∧ k ≤ 6 ∧ (∀ n, n < k → okN m (dA D n) (dB D n)) ∧ dd D < 5000
def ctC (m k : Nat) (K H : Nat → Nat) (D : Dy) (kd hd pl st ho be : Nat → Int32) (nc nn dy : Int32) : Prop := nc = nI m ∧ nn = nI k ∧ dy = nI (dd D) ∧ ctS m K H (dP D) (dS D) kd hd pl st ∧ ∀ n, n < k → ctN m n (dA D n) (dB D n) ho be
/-- a row of 56 places holds D -/
def rfD (m k : Nat) (D : Dy) (ms : Nat → Int32) : Prop := ms 0 = nI (dd D) ∧ (∀ c, c < m → ms (1 + c) = nI (dP D c)) ∧ (∀ n, n < k → rfN m n (dA D n) (dB D n) ms) ∧ ∀ i, 14 ≤ i → i < 56 → (∀ n, n < k → ∀ c, c < m → i ≠ 14 + 7 * n + c) → ms i = 0
def rfM (m k : Nat) (K H : Nat → Nat) (mo : Nat → Int32) : Prop := mo 0 = nI m ∧ mo 1 = nI k ∧ ∀ c, c < m → mo (2 + c) = nI (K c) ∧ ∃ r, r ≤ 9 ∧ mo (9 + c) = nI r ∧ H c = rfH m r c
theorem rfT_of {m k : Nat} {K H : Nat → Nat} {D : Dy} {mo ms : Nat → Int32} (h1 : rfM m k K H mo) (h2 : rfD m k D ms) : rfT m k K H (dP D) mo ms := ⟨h1.1, h1.2.1, fun c hc => ⟨(h1.2.2 c hc).1, (h1.2.2 c hc).2, h2.2.1 c hc⟩⟩
theorem rfD_eq {m k : Nat} {D : Dy} {f g : Nat → Int32} (hm : m ≤ 7) (hk : k ≤ 6) (h : rfD m k D f) (he : ∀ i, i < 56 → g i = f i) : rfD m k D g := by
  refine ⟨by rw [he 0 (by omega)]; exact h.1, fun c hc => by rw [he _ (by omega)]; exact h.2.1 c hc, fun n hn => ⟨by rw [he _ (by omega)]; exact (h.2.2.1 n hn).1, fun c hc => by rw [he _ (by omega)]; exact (h.2.2.1 n hn).2 c hc⟩, fun i h1 h2 h3 => by rw [he i h2]; exact h.2.2.2 i h1 h2 h3⟩
/-- a day -/
def dyD (m : Nat) (K H : Nat → Nat) (D : Dy) : Dy := (dP D, dS D, fun n => (stp m K H (dP D) (dS D) (dA D n, dB D n)).1, fun n => (stp m K H (dP D) (dS D) (dA D n, dB D n)).2, dd D + 1)
theorem dyD_ok {m k : Nat} {K H : Nat → Nat} {D : Dy} (h : okD m k K H D) (hd : dd D + 1 < 5000) : okD m k K H (dyD m K H D) := ⟨h.1, h.2.1, h.2.2.1, fun n hn => stp_ok h.1 (h.2.2.2.1 n hn), hd⟩
theorem ref_passes {m k : Nat} {K H : Nat → Nat} {D : Dy} {mo ms mh : Nat → Int32} {Q : (Nat → Int32) → (Nat → Int32) → Prop} (ok : okD m k K H D) (h1 : rfM m k K H mo) (h2 : rfD m k D ms) (hQ : ∀ ms' mh', rfD m k (dyD m K H D) ms' → Q ms' mh') : wX6_passes mo ms mh Q := by
  have hm := ok.1.2.1
  have hk := ok.2.2.1
  refine r_passes ok.1 (rfT_of h1 h2) hk ok.2.2.2.1 h2.2.2.1 (fun ms' mh' g1 g2 g3 => hQ ms' mh' ⟨?_, fun c hc => ?_, g1, fun i i1 i2 i3 => ?_⟩)
  · rw [g2, h2.1]
    exact nI_1 _
  · rw [g3 _ (by omega) (by omega) (fun n hn => by omega) (fun n hn c' hc' => by omega)]
    exact h2.2.1 c hc
  · rw [g3 i i2 (by omega) (fun n hn => by omega) i3]
    exact h2.2.2.2 i i1 i2 i3
theorem ctC_fr {m k n a : Nat} {b : Nat → Nat} {A : Nat → Nat} {B : Nat → Nat → Nat} {ho be ho' be' : Nat → Int32} (hm : m ≤ 7) (h : ∀ j, j < k → ctN m j (A j) (B j) ho be) (h1 : ctN m n a b ho' be') (h2 : frH n ho ho') (h3 : frB m n be be') : ∀ j, j < k → ctN m j (if j = n then a else A j) (if j = n then b else B j) ho' be' := by
  intro j hj
  by_cases he : j = n
  · subst he
    rw [if_pos rfl, if_pos rfl]
    exact h1
  · rw [if_neg he, if_neg he]
    exact ⟨by rw [h2 j he]; exact (h j hj).1, fun c hc => by rw [h3 _ (fun c' hc' => by omega)]; exact (h j hj).2 c hc⟩
theorem s_live {m k : Nat} {K H : Nat → Nat} {D : Dy} {kd hd pl st ho be : Nat → Int32} {nc nn dy : Int32} {Q : (Nat → Int32) → (Nat → Int32) → Int32 → Prop} (ok : okD m k K H D) (h : ctC m k K H D kd hd pl st ho be nc nn dy)
    (hQ : ∀ ho' be' dy', ctC m k K H (dyD m K H D) kd hd pl st ho' be' nc nn dy' → Q ho' be' dy') : wX0_live kd hd pl st ho be nc nn dy Q := by
  obtain ⟨hc1, hc2, hc3, hS, hN⟩ := h
  subst hc1; subst hc2; subst hc3
  have hm := ok.1.2.1
  have hk := ok.2.2.1
  have key : ∀ r i ho1 be1, i + r = k → (∀ n, n < k → ctN m n (if n < i then (stp m K H (dP D) (dS D) (dA D n, dB D n)).1 else dA D n) (if n < i then (stp m K H (dP D) (dS D) (dA D n, dB D n)).2 else dB D n) ho1 be1) → wX0_live_L2 kd hd pl st (nI m) (nI k) (nI (dd D)) Q (r + 1) (nI i) ho1 be1 := by
    intro r
    induction r with
    | zero =>
      intro i ho1 be1 hi h1
      have hi : i = k := by omega
      subst hi
      unfold wX0_live_L2
      refine ifp (Int32.le_refl _) (hQ ho1 be1 _ ⟨rfl, rfl, nI_1 _, hS, fun n hn => ?_⟩)
      have h2 := h1 n hn
      rw [if_pos hn, if_pos hn] at h2
      exact h2
    | succ r ih =>
      intro i ho1 be1 hi h1
      have h2 := h1 i (by omega)
      rw [if_neg (Nat.lt_irrefl i), if_neg (Nat.lt_irrefl i)] at h2
      unfold wX0_live_L2
      rw [ifF (by simp (disch := omega) only [zl_0, zl_1, zl_2, zl_3, zl_4, zl_5, zl_6, zl_7, zl_8, zl_9, zl_10, zl_14, zl_16, zl_20, zl_24, zl_32, zl_40, zl_42, zl_44, zl_48, zl_56, zl_57, zl_59, zl_60, zl_61, zl_64, zl_99, zl_100, zl_110, zl_126, zl_128, zl_200, zl_392, zl_999, zl_9999, nI_add, pk_mul, nI_leI, nI_ltI, nI_eq, nI_clamp, vpn, pk_sub]; omega)]
      refine s_liveFor (d := 1) (x := (dA D i, dB D i)) ok.1 hS (by omega) (by omega) (ok.2.2.2.1 i (by omega)) h2 (fun ho2 be2 g1 g2 g3 => ?_)
      rw [nI_1]
      refine ih (i + 1) ho2 be2 (by omega) (fun n hn => ?_)
      have g4 := ctC_fr (n := i) hm h1 g1 g2 g3 n hn
      by_cases he : n = i
      · subst he
        rw [if_pos rfl, if_pos rfl] at g4
        rw [if_pos (Nat.lt_succ_self _), if_pos (Nat.lt_succ_self _)]
        exact g4
      · rw [if_neg he, if_neg he] at g4
        by_cases hlt : n < i
        · rw [if_pos hlt, if_pos hlt] at g4
          rw [if_pos (by omega), if_pos (by omega)]
          exact g4
        · rw [if_neg hlt, if_neg hlt] at g4
          rw [if_neg (by omega), if_neg (by omega)]
          exact g4
  exact ⟨k + 1, key k 0 ho be (by omega) (fun n hn => by rw [if_neg (Nat.not_lt_zero _), if_neg (Nat.not_lt_zero _)]; exact hN n hn)⟩
def kn (A : Nat → Nat) : Nat → Nat
  | 0 => 0
  | j + 1 => kn A j + if A j = 9 then 1 else 0
theorem kn_le (A : Nat → Nat) : ∀ j, kn A j ≤ j
  | 0 => Nat.le_refl _
  | j + 1 => by
    have := kn_le A j
    unfold kn
    split <;> omega
theorem s_known {k : Nat} {A : Nat → Nat} {ho : Nat → Int32} {Q : Int32 → Prop} (hk : k ≤ 6) (hA : ∀ n, n < k → ho n = nI (A n) ∧ A n < 10) (hQ : Q (nI (kn A k))) : wX0_knownInAll ho (nI k) Q := by
  have key : ∀ r i, i + r = k → wX0_knownInAll_L4 ho (nI k) Q (r + 1) (nI (kn A i)) (nI i) := by
    intro r
    induction r with
    | zero =>
      intro i hi
      have hi : i = k := by omega
      subst hi
      unfold wX0_knownInAll_L4
      exact ifp (Int32.le_refl _) hQ
    | succ r ih =>
      intro i hi
      obtain ⟨h1, h2⟩ := hA i (by omega)
      have h3 := ih (i + 1) (by omega)
      unfold kn at h3
      unfold wX0_knownInAll_L4
      rw [ifF (by simp (disch := omega) only [zl_0, zl_1, zl_2, zl_3, zl_4, zl_5, zl_6, zl_7, zl_8, zl_9, zl_10, zl_14, zl_16, zl_20, zl_24, zl_32, zl_40, zl_42, zl_44, zl_48, zl_56, zl_57, zl_59, zl_60, zl_61, zl_64, zl_99, zl_100, zl_110, zl_126, zl_128, zl_200, zl_392, zl_999, zl_9999, nI_add, pk_mul, nI_leI, nI_ltI, nI_eq, nI_clamp, vpn, pk_sub]; omega), e_isKnown (by omega) h1 h2, nmx, nmx]
      by_cases h9 : A i = 9
      · rw [if_pos h9, ifF (by decide)]
        rw [if_pos h9] at h3
        simp (disch := omega) only [zl_0, zl_1, zl_2, zl_3, zl_4, zl_5, zl_6, zl_7, zl_8, zl_9, zl_10, zl_14, zl_16, zl_20, zl_24, zl_32, zl_40, zl_42, zl_44, zl_48, zl_56, zl_57, zl_59, zl_60, zl_61, zl_64, zl_99, zl_100, zl_110, zl_126, zl_128, zl_200, zl_392, zl_999, zl_9999, nI_add, pk_mul, nI_leI, nI_ltI, nI_eq, nI_clamp, vpn, pk_sub]
        exact h3
      · rw [if_neg h9, ifT rfl]
        rw [if_neg h9] at h3
        simp (disch := omega) only [zl_0, zl_1, zl_2, zl_3, zl_4, zl_5, zl_6, zl_7, zl_8, zl_9, zl_10, zl_14, zl_16, zl_20, zl_24, zl_32, zl_40, zl_42, zl_44, zl_48, zl_56, zl_57, zl_59, zl_60, zl_61, zl_64, zl_99, zl_100, zl_110, zl_126, zl_128, zl_200, zl_392, zl_999, zl_9999, nI_add, pk_mul, nI_leI, nI_ltI, nI_eq, nI_clamp, vpn, pk_sub]
        exact h3
  exact ⟨k + 1, key k 0 (by omega)⟩
theorem ref_known {m k : Nat} {K H : Nat → Nat} {A : Nat → Nat} {mo ms : Nat → Int32} {Q : Int32 → Prop} (hk : k ≤ 6) (h1 : mo 1 = nI k) (hA : ∀ n, n < k → ms (8 + n) = nI (A n) ∧ A n < 10) (hQ : Q (nI (kn A k))) : wX6_manyKnown mo ms Q := by
  have key : ∀ r i, i + r = k → wX6_manyKnown_L4 mo ms Q (r + 1) (nI (kn A i)) (nI i) := by
    intro r
    induction r with
    | zero =>
      intro i hi
      have hi : i = k := by omega
      subst hi
      unfold wX6_manyKnown_L4
      rw [h1]
      exact ifp (Int32.le_refl _) hQ
    | succ r ih =>
      intro i hi
      obtain ⟨g1, g2⟩ := hA i (by omega)
      have h3 := ih (i + 1) (by omega)
      unfold kn at h3
      unfold wX6_manyKnown_L4
      have e1 : (8 : Int32) + nI i = nI (8 + i) := nI_add 8 i
      rw [h1, ifF (by simp (disch := omega) only [zl_0, zl_1, zl_2, zl_3, zl_4, zl_5, zl_6, zl_7, zl_8, zl_9, zl_10, zl_14, zl_16, zl_20, zl_24, zl_32, zl_40, zl_42, zl_44, zl_48, zl_56, zl_57, zl_59, zl_60, zl_61, zl_64, zl_99, zl_100, zl_110, zl_126, zl_128, zl_200, zl_392, zl_999, zl_9999, nI_add, pk_mul, nI_leI, nI_ltI, nI_eq, nI_clamp, vpn, pk_sub]; omega), e1, nI_clamp (by omega), g1, nmx, nmx, vpn (by omega)]
      refine ⟨by omega, ?_⟩
      by_cases h9 : A i = 9
      · rw [ifT (by rw [h9]; rfl)]
        rw [if_pos h9] at h3
        simp (disch := omega) only [zl_0, zl_1, zl_2, zl_3, zl_4, zl_5, zl_6, zl_7, zl_8, zl_9, zl_10, zl_14, zl_16, zl_20, zl_24, zl_32, zl_40, zl_42, zl_44, zl_48, zl_56, zl_57, zl_59, zl_60, zl_61, zl_64, zl_99, zl_100, zl_110, zl_126, zl_128, zl_200, zl_392, zl_999, zl_9999, nI_add, pk_mul, nI_leI, nI_ltI, nI_eq, nI_clamp, vpn, pk_sub]
        exact h3
      · rw [ifF (by simp (disch := omega) only [zl_0, zl_1, zl_2, zl_3, zl_4, zl_5, zl_6, zl_7, zl_8, zl_9, zl_10, zl_14, zl_16, zl_20, zl_24, zl_32, zl_40, zl_42, zl_44, zl_48, zl_56, zl_57, zl_59, zl_60, zl_61, zl_64, zl_99, zl_100, zl_110, zl_126, zl_128, zl_200, zl_392, zl_999, zl_9999, nI_add, pk_mul, nI_leI, nI_ltI, nI_eq, nI_clamp, vpn, pk_sub]; exact h9)]
        rw [if_neg h9] at h3
        simp (disch := omega) only [zl_0, zl_1, zl_2, zl_3, zl_4, zl_5, zl_6, zl_7, zl_8, zl_9, zl_10, zl_14, zl_16, zl_20, zl_24, zl_32, zl_40, zl_42, zl_44, zl_48, zl_56, zl_57, zl_59, zl_60, zl_61, zl_64, zl_99, zl_100, zl_110, zl_126, zl_128, zl_200, zl_392, zl_999, zl_9999, nI_add, pk_mul, nI_leI, nI_ltI, nI_eq, nI_clamp, vpn, pk_sub]
        exact h3
  exact ⟨k + 1, key k 0 (by omega)⟩
/-- sums -/
def rsum (f : Nat → Nat) : Nat → Nat
  | 0 => 0
  | j + 1 => rsum f j + f j
theorem rsum_congr {f g : Nat → Nat} : ∀ {j : Nat}, (∀ i, i < j → f i = g i) → rsum f j = rsum g j
  | 0, _ => rfl
  | j + 1, h => by
    unfold rsum
    rw [rsum_congr (fun i hi => h i (by omega)), h j (by omega)]
theorem rsum_zero {f : Nat → Nat} {a : Nat} : ∀ {j : Nat}, (∀ i, a ≤ i → i < a + j → f i = 0) → rsum f (a + j) = rsum f a
  | 0, _ => rfl
  | j + 1, h => by
    show rsum f (a + j) + f (a + j) = _
    rw [rsum_zero (fun i h1 h2 => h i h1 (by omega)), h (a + j) (by omega) (by omega)]
    omega
theorem rsum_split {f : Nat → Nat} {a : Nat} : ∀ {j : Nat}, rsum f (a + j) = rsum f a + rsum (fun i => f (a + i)) j
  | 0 => rfl
  | j + 1 => by
    show rsum f (a + j) + f (a + j) = rsum f a + (rsum (fun i => f (a + i)) j + f (a + j))
    rw [rsum_split]
    omega
theorem rsum_mul {f : Nat → Nat} : ∀ {a : Nat}, rsum f (7 * a) = rsum (fun n => rsum (fun c => f (7 * n + c)) 7) a
  | 0 => rfl
  | a + 1 => by
    show rsum f (7 * a + 7) = rsum (fun n => rsum (fun c => f (7 * n + c)) 7) a + rsum (fun c => f (7 * a + c)) 7
    rw [rsum_split, rsum_mul]
theorem rsum_le {f : Nat → Nat} {b : Nat} : ∀ {j : Nat}, (∀ i, i < j → f i ≤ b) → rsum f j ≤ b * j
  | 0, _ => Nat.zero_le _
  | j + 1, h => by
    have h1 := rsum_le (f := f) (b := b) (j := j) (fun i hi => h i (by omega))
    have h2 := h j (by omega)
    show rsum f j + f j ≤ b * (j + 1)
    rw [Nat.mul_succ]
    omega
def bsum (m k : Nat) (B : Nat → Nat → Nat) : Nat := rsum (fun n => rsum (fun c => B n c) m) k
theorem s_beliefs {m k : Nat} {B : Nat → Nat → Nat} {be : Nat → Int32} {Q : Int32 → Prop} (hm : m ≤ 7) (hk : k ≤ 6) (hB : ∀ n, n < k → ∀ c, c < m → be (n * 7 + c) = nI (B n c) ∧ B n c ≤ 9) (hQ : Q (nI (bsum m k B))) : wX0_beliefsInAll be (nI m) (nI k) Q := by
  have inner : ∀ (n : Nat), n < k → ∀ (t : Nat) (K4 : Int32 → Int32 → Prop), K4 (nI (t + rsum (fun c => B n c) m)) (nI (n + 1)) → ∀ r c, c + r = m → wX0_beliefsInAll_L14 (nI n) be (nI m) K4 (r + 1) (nI (t + rsum (fun c => B n c) c)) (nI c) := by
    intro n hn t K4 hK r
    induction r with
    | zero =>
      intro c hc
      have hc : c = m := by omega
      subst hc
      unfold wX0_beliefsInAll_L14
      refine ifp (Int32.le_refl _) ?_
      rw [nI_1]
      exact hK
    | succ r ih =>
      intro c hc
      unfold wX0_beliefsInAll_L14
      rw [ifF (by simp (disch := omega) only [zl_0, zl_1, zl_2, zl_3, zl_4, zl_5, zl_6, zl_7, zl_8, zl_9, zl_10, zl_14, zl_16, zl_20, zl_24, zl_32, zl_40, zl_42, zl_44, zl_48, zl_56, zl_57, zl_59, zl_60, zl_61, zl_64, zl_99, zl_100, zl_110, zl_126, zl_128, zl_200, zl_392, zl_999, zl_9999, nI_add, pk_mul, nI_leI, nI_ltI, nI_eq, nI_clamp, vpn, pk_sub]; omega), e_believes (by omega) (by omega), (hB n hn c (by omega)).1, nmx, nI_add, nI_1]
      have h3 := ih (c + 1) (by omega)
      have e : t + rsum (fun c => B n c) (c + 1) = t + rsum (fun c => B n c) c + B n c := by
        show t + (rsum (fun c => B n c) c + B n c) = _
        omega
      rw [e] at h3
      exact h3
  have outer : ∀ r n, n + r = k → wX0_beliefsInAll_L4 be (nI m) (nI k) Q (r + 1) (nI (rsum (fun n => rsum (fun c => B n c) m) n)) (nI n) := by
    intro r
    induction r with
    | zero =>
      intro n hn
      have hn : n = k := by omega
      subst hn
      unfold wX0_beliefsInAll_L4
      exact ifp (Int32.le_refl _) hQ
    | succ r ih =>
      intro n hn
      unfold wX0_beliefsInAll_L4
      rw [ifF (by simp (disch := omega) only [zl_0, zl_1, zl_2, zl_3, zl_4, zl_5, zl_6, zl_7, zl_8, zl_9, zl_10, zl_14, zl_16, zl_20, zl_24, zl_32, zl_40, zl_42, zl_44, zl_48, zl_56, zl_57, zl_59, zl_60, zl_61, zl_64, zl_99, zl_100, zl_110, zl_126, zl_128, zl_200, zl_392, zl_999, zl_9999, nI_add, pk_mul, nI_leI, nI_ltI, nI_eq, nI_clamp, vpn, pk_sub]; omega)]
      exact ⟨m + 1, inner n (by omega) _ _ (ih (n + 1) (by omega)) m 0 (by omega)⟩
  exact ⟨k + 1, outer k 0 (by omega)⟩
theorem ref_beliefs {m k : Nat} {D : Dy} {ms : Nat → Int32} {Q : Int32 → Prop} (hm : m ≤ 7) (hk : k ≤ 6) (h : rfD m k D ms) (hb : ∀ n, n < k → ∀ c, c < m → dB D n c ≤ 9) (hQ : Q (nI (bsum m k (dB D)))) : wX6_beliefs ms Q := by
  have hv : ∀ i, i < 42 → ms (14 + i) = nI (if i / 7 < k ∧ i % 7 < m then dB D (i / 7) (i % 7) else 0) := by
    intro i hi
    by_cases hc : i / 7 < k ∧ i % 7 < m
    · rw [if_pos hc, ← (h.2.2.1 (i / 7) hc.1).2 (i % 7) hc.2]
      congr 1
      omega
    · rw [if_neg hc]
      refine h.2.2.2 (14 + i) (by omega) (by omega) (fun n hn c hc' he => hc ?_)
      have h1 : i = 7 * n + c := by omega
      have h2 : i / 7 = n := by omega
      have h3 : i % 7 = c := by omega
      rw [h2, h3]
      exact ⟨hn, hc'⟩
  generalize hf : (fun i => if i / 7 < k ∧ i % 7 < m then dB D (i / 7) (i % 7) else 0) = f
  have hv2 : ∀ i, i < 42 → ms (14 + i) = nI (f i) := fun i hi => by rw [hv i hi, ← hf]
  have key : ∀ r i, i + r = 42 → Q (nI (rsum f 42)) → wX6_beliefs_L5 ms Q (r + 1) (nI (rsum f i)) (nI (14 + i)) := by
    intro r
    induction r with
    | zero =>
      intro i hi hq
      have hi : i = 42 := by omega
      subst hi
      unfold wX6_beliefs_L5
      exact ifp (by decide) hq
    | succ r ih =>
      intro i hi hq
      unfold wX6_beliefs_L5
      rw [ifF (by simp (disch := omega) only [zl_0, zl_1, zl_2, zl_3, zl_4, zl_5, zl_6, zl_7, zl_8, zl_9, zl_10, zl_14, zl_16, zl_20, zl_24, zl_32, zl_40, zl_42, zl_44, zl_48, zl_56, zl_57, zl_59, zl_60, zl_61, zl_64, zl_99, zl_100, zl_110, zl_126, zl_128, zl_200, zl_392, zl_999, zl_9999, nI_add, pk_mul, nI_leI, nI_ltI, nI_eq, nI_clamp, vpn, pk_sub]; omega), nI_clamp (by omega), hv2 i (by omega), nmx, nI_add, nI_1, vpn (by omega)]
      exact ⟨by omega, ih (i + 1) (by omega) hq⟩
  have hsum : rsum f 42 = bsum m k (dB D) := by
    have e1 : rsum f (7 * 6) = rsum (fun n => rsum (fun c => f (7 * n + c)) 7) 6 := rsum_mul
    have e2 : ∀ n, n < 6 → rsum (fun c => f (7 * n + c)) 7 = if n < k then rsum (fun c => dB D n c) m else 0 := by
      intro n hn
      have e3 : ∀ c, c < 7 → f (7 * n + c) = if n < k ∧ c < m then dB D n c else 0 := by
        intro c hc
        rw [← hf]
        have h2 : (7 * n + c) / 7 = n := by omega
        have h3 : (7 * n + c) % 7 = c := by omega
        simp only [h2, h3]
      by_cases hnk : n < k
      · rw [if_pos hnk]
        have e4 : rsum (fun c => f (7 * n + c)) (m + (7 - m)) = rsum (fun c => f (7 * n + c)) m := rsum_zero (fun i h1 h2 => by rw [e3 i (by omega), if_neg (by omega)])
        rw [show m + (7 - m) = 7 by omega] at e4
        rw [e4]
        exact rsum_congr (fun c hc => by rw [e3 c (by omega), if_pos ⟨hnk, hc⟩])
      · rw [if_neg hnk]
        have e4 : rsum (fun c => f (7 * n + c)) (0 + 7) = rsum (fun c => f (7 * n + c)) 0 := rsum_zero (fun i h1 h2 => by rw [e3 i (by omega), if_neg (fun h => hnk h.1)])
        exact e4
    have e5 : rsum (fun n => rsum (fun c => f (7 * n + c)) 7) (k + (6 - k)) = rsum (fun n => rsum (fun c => f (7 * n + c)) 7) k := rsum_zero (fun i h1 h2 => by rw [e2 i (by omega), if_neg (by omega)])
    rw [show k + (6 - k) = 6 by omega] at e5
    rw [show (42 : Nat) = 7 * 6 by rfl, e1, e5]
    exact rsum_congr (fun n hn => by rw [e2 n (by omega), if_pos hn])
  exact ⟨43, key 42 0 (by omega) (by rw [hsum]; exact hQ)⟩
