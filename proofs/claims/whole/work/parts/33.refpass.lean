/-! the reference's day -/
def mfr (m k : Nat) (ms ms' : Nat → Int32) : Prop := ∀ i, i < 56 → i ≠ 0 → (∀ n, n < k → i ≠ 8 + n) → (∀ n, n < k → ∀ c, c < m → i ≠ 14 + 7 * n + c) → ms' i = ms i
theorem rfT_fr {m k : Nat} {K H P : Nat → Nat} {mo ms ms' : Nat → Int32} (h : rfT m k K H P mo ms) (hm : m ≤ 7) (hf : ∀ c, c < m → ms' (1 + c) = ms (1 + c)) : rfT m k K H P mo ms' := ⟨h.1, h.2.1, fun c hc => ⟨(h.2.2 c hc).1, (h.2.2 c hc).2.1, by rw [hf c hc]; exact (h.2.2 c hc).2.2⟩⟩
theorem p_one {m k : Nat} {A : Nat → Nat} {B : Nat → Nat → Nat} {K H P S : Nat → Nat} {mo ms : Nat → Int32} {K32 : (Nat → Int32) → Prop} (ok : okT m K H P S) (h : rfT m k K H P mo ms) (hk : k ≤ 6) (hx : ∀ n, n < k → okN m (A n) (B n)) (hN : ∀ n, n < k → rfN m n (A n) (B n) ms)
    (hK : ∀ s1, (∀ n, n < k → s1 (8 + n) = nI (stA m P S (A n) (B n))) → (∀ j, (∀ n, n < k → j ≠ 8 + n) → s1 j = ms j) → K32 s1) : ∃ f, wX6_passes_L2 mo K32 f (nI 0) ms := by
  have hm := ok.2.1
  have key : ∀ r i ms1, i + r = k → (∀ n, n < k → ms1 (8 + n) = nI (if n < i then stA m P S (A n) (B n) else A n)) → (∀ j, (∀ n, n < k → j ≠ 8 + n) → ms1 j = ms j) → wX6_passes_L2 mo K32 (r + 1) (nI i) ms1 := by
    intro r
    induction r with
    | zero =>
      intro i ms1 hi h1 h2
      have hi : i = k := by omega
      subst hi
      unfold wX6_passes_L2
      rw [h.2.1]
      exact ifp (Int32.le_refl _) (hK ms1 (fun n hn => by rw [h1 n hn, if_pos hn]) h2)
    | succ r ih =>
      intro i ms1 hi h1 h2
      unfold wX6_passes_L2
      rw [h.2.1, ifF (by simp (disch := omega) only [zl_0, zl_1, zl_2, zl_3, zl_4, zl_5, zl_6, zl_7, zl_8, zl_9, zl_10, zl_14, zl_16, zl_20, zl_24, zl_32, zl_40, zl_42, zl_44, zl_48, zl_56, zl_57, zl_59, zl_60, zl_61, zl_64, zl_99, zl_100, zl_110, zl_126, zl_128, zl_200, zl_392, zl_999, zl_9999, nI_add, pk_mul, nI_leI, nI_ltI, nI_eq, nI_clamp, vpn, pk_sub]; omega)]
      have hT1 : rfT m k K H P mo ms1 := rfT_fr h hm (fun c hc => h2 _ (fun n hn => by omega))
      have hN1 : rfN m i (A i) (B i) ms1 := ⟨by rw [h1 i (by omega), if_neg (Nat.lt_irrefl i)], fun c hc => by rw [h2 _ (fun n hn => by omega)]; exact (hN i (by omega)).2 c hc⟩
      refine r_goesTo ok hT1 (by omega) (hx i (by omega)) hN1 ?_
      simp (disch := omega) only [zl_0, zl_1, zl_2, zl_3, zl_4, zl_5, zl_6, zl_7, zl_8, zl_9, zl_10, zl_14, zl_16, zl_20, zl_24, zl_32, zl_40, zl_42, zl_44, zl_48, zl_56, zl_57, zl_59, zl_60, zl_61, zl_64, zl_99, zl_100, zl_110, zl_126, zl_128, zl_200, zl_392, zl_999, zl_9999, nI_add, pk_mul, nI_leI, nI_ltI, nI_eq, nI_clamp, vpn, pk_sub]
      refine ⟨by omega, ih (i + 1) _ (by omega) (fun n hn => ?_) (fun j hj => ?_)⟩
      · by_cases he : n = i
        · subst he
          rw [upd_at, if_pos (Nat.lt_succ_self _)]
        · rw [upd_ne _ _ (by omega), h1 n hn]
          by_cases hlt : n < i
          · rw [if_pos hlt, if_pos (by omega)]
          · rw [if_neg hlt, if_neg (by omega)]
      · rw [upd_ne _ _ (hj i (by omega))]
        exact h2 j hj
  exact ⟨k + 1, key k 0 ms (by omega) (fun n hn => by rw [if_neg (Nat.not_lt_zero _)]; exact (hN n hn).1) (fun _ _ => rfl)⟩
theorem p_two {m k : Nat} {A : Nat → Nat} {B : Nat → Nat → Nat} {K H P S : Nat → Nat} {mo s1 mh : Nat → Int32} {K123 : (Nat → Int32) → Prop} (ok : okT m K H P S) (h : rfT m k K H P mo s1) (hk : k ≤ 6) (ha : ∀ n, n < k → A n < 10) (hb9 : ∀ n, n < k → ∀ c, c < m → B n c ≤ 9) (hN : ∀ n, n < k → rfN m n (A n) (B n) s1)
    (hK : ∀ mh', (∀ n, n < k → ∀ c, c < m → mh' (7 * n + c) = nI (stB K H (A n) (B n) c)) → K123 mh') : ∃ f, wX6_passes_L34 mo s1 K123 f (nI 0) mh := by
  have hm := ok.2.1
  have inner : ∀ (n : Nat), n < k → ∀ (K34 : Int32 → (Nat → Int32) → Prop), (∀ mh2, (∀ n', n' < n + 1 → ∀ c, c < m → mh2 (7 * n' + c) = nI (stB K H (A n') (B n') c)) → K34 (nI (n + 1)) mh2) →
      ∀ r c mh1, c + r = m → (∀ n', n' < n → ∀ c, c < m → mh1 (7 * n' + c) = nI (stB K H (A n') (B n') c)) → (∀ c', c' < c → mh1 (7 * n + c') = nI (stB K H (A n) (B n) c')) → wX6_passes_L46 (nI n) mo s1 K34 (r + 1) (nI c) mh1 := by
    intro n hn K34 hK34 r
    induction r with
    | zero =>
      intro c mh1 hc h1 h2
      have hc : c = m := by omega
      subst hc
      unfold wX6_passes_L46
      rw [h.1]
      refine ifp (Int32.le_refl _) ?_
      rw [nI_1]
      refine hK34 mh1 (fun n' hn' c hc => ?_)
      by_cases he : n' = n
      · subst he; exact h2 c hc
      · exact h1 n' (by omega) c hc
    | succ r ih =>
      intro c mh1 hc h1 h2
      have hNn := hN n hn
      have han := ha n hn
      have step : ∀ x : Int32, x = nI (stB K H (A n) (B n) c) → wX6_passes_L46 (nI n) mo s1 K34 (r + 1) (nI (c + 1)) (upd mh1 (7 * n + c) x) := by
        intro x hx
        refine ih (c + 1) _ (by omega) (fun n' hn' c' hc' => ?_) (fun c' hc' => ?_)
        · rw [upd_ne _ _ (by omega)]
          exact h1 n' hn' c' hc'
        · by_cases he : c' = c
          · subst he; rw [upd_at]; exact hx
          · rw [upd_ne _ _ (by omega)]
            exact h2 c' (by omega)
      unfold wX6_passes_L46
      rw [h.1, ifF (by simp (disch := omega) only [zl_0, zl_1, zl_2, zl_3, zl_4, zl_5, zl_6, zl_7, zl_8, zl_9, zl_10, zl_14, zl_16, zl_20, zl_24, zl_32, zl_40, zl_42, zl_44, zl_48, zl_56, zl_57, zl_59, zl_60, zl_61, zl_64, zl_99, zl_100, zl_110, zl_126, zl_128, zl_200, zl_392, zl_999, zl_9999, nI_add, pk_mul, nI_leI, nI_ltI, nI_eq, nI_clamp, vpn, pk_sub]; omega)]
      have e1 : ((14 : Int32) + ((7 : Int32) * nI n)) + nI c = nI (14 + 7 * n + c) := by simp (disch := omega) only [zl_0, zl_1, zl_2, zl_3, zl_4, zl_5, zl_6, zl_7, zl_8, zl_9, zl_10, zl_14, zl_16, zl_20, zl_24, zl_32, zl_40, zl_42, zl_44, zl_48, zl_56, zl_57, zl_59, zl_60, zl_61, zl_64, zl_99, zl_100, zl_110, zl_126, zl_128, zl_200, zl_392, zl_999, zl_9999, nI_add, pk_mul, nI_leI, nI_ltI, nI_eq, nI_clamp, vpn, pk_sub]
      have e2 : (8 : Int32) + nI n = nI (8 + n) := nI_add 8 n
      have e3 : ((7 : Int32) * nI n) + nI c = nI (7 * n + c) := by simp (disch := omega) only [zl_0, zl_1, zl_2, zl_3, zl_4, zl_5, zl_6, zl_7, zl_8, zl_9, zl_10, zl_14, zl_16, zl_20, zl_24, zl_32, zl_40, zl_42, zl_44, zl_48, zl_56, zl_57, zl_59, zl_60, zl_61, zl_64, zl_99, zl_100, zl_110, zl_126, zl_128, zl_200, zl_392, zl_999, zl_9999, nI_add, pk_mul, nI_leI, nI_ltI, nI_eq, nI_clamp, vpn, pk_sub]
      rw [e1, e2, e3, nI_clamp (by omega), nI_clamp (by omega), nI_clamp (by omega), hNn.2 c (by omega), nmx, vpn (by omega), vpn (by omega), vpn (by omega), hNn.1, nI_1]
      refine ⟨by omega, by omega, ?_⟩
      by_cases h9 : A n = 9
      · rw [ifT (by rw [h9]; rfl)]
        exact ⟨by omega, step _ (by unfold stB; rw [if_pos h9])⟩
      · rw [ifF (by simp (disch := omega) only [zl_0, zl_1, zl_2, zl_3, zl_4, zl_5, zl_6, zl_7, zl_8, zl_9, zl_10, zl_14, zl_16, zl_20, zl_24, zl_32, zl_40, zl_42, zl_44, zl_48, zl_56, zl_57, zl_59, zl_60, zl_61, zl_64, zl_99, zl_100, zl_110, zl_126, zl_128, zl_200, zl_392, zl_999, zl_9999, nI_add, pk_mul, nI_leI, nI_ltI, nI_eq, nI_clamp, vpn, pk_sub]; exact h9), r_grow ok h (by omega) (by omega) (hb9 n hn) hNn han h9]
        exact ⟨by omega, step _ rfl⟩
  have outer : ∀ r n mh1, n + r = k → (∀ n', n' < n → ∀ c, c < m → mh1 (7 * n' + c) = nI (stB K H (A n') (B n') c)) → wX6_passes_L34 mo s1 K123 (r + 1) (nI n) mh1 := by
    intro r
    induction r with
    | zero =>
      intro n mh1 hn h1
      have hn : n = k := by omega
      subst hn
      unfold wX6_passes_L34
      rw [h.2.1]
      exact ifp (Int32.le_refl _) (hK mh1 h1)
    | succ r ih =>
      intro n mh1 hn h1
      unfold wX6_passes_L34
      rw [h.2.1, ifF (by simp (disch := omega) only [zl_0, zl_1, zl_2, zl_3, zl_4, zl_5, zl_6, zl_7, zl_8, zl_9, zl_10, zl_14, zl_16, zl_20, zl_24, zl_32, zl_40, zl_42, zl_44, zl_48, zl_56, zl_57, zl_59, zl_60, zl_61, zl_64, zl_99, zl_100, zl_110, zl_126, zl_128, zl_200, zl_392, zl_999, zl_9999, nI_add, pk_mul, nI_leI, nI_ltI, nI_eq, nI_clamp, vpn, pk_sub]; omega)]
      exact ⟨m + 1, inner n (by omega) _ (fun mh2 h2 => ih (n + 1) mh2 (by omega) h2) m 0 mh1 (by omega) h1 (fun c' hc' => absurd hc' (Nat.not_lt_zero _))⟩
  exact ⟨k + 1, outer k 0 mh (by omega) (fun n' hn' => absurd hn' (Nat.not_lt_zero _))⟩
theorem p_three {m k : Nat} {T : Nat → Nat → Int32} {mo s1 mh : Nat → Int32} {Q : (Nat → Int32) → (Nat → Int32) → Prop} (h0 : mo 0 = nI m) (h1 : mo 1 = nI k) (hm : m ≤ 7) (hk : k ≤ 6) (hT : ∀ n, n < k → ∀ c, c < m → mh (7 * n + c) = T n c)
    (hQ : ∀ s2, (∀ n, n < k → ∀ c, c < m → s2 (14 + 7 * n + c) = T n c) → s2 0 = s1 0 + 1 → (∀ i, i ≠ 0 → (∀ n, n < k → ∀ c, c < m → i ≠ 14 + 7 * n + c) → s2 i = s1 i) → Q s2 mh) : ∃ f, wX6_passes_L125 mo mh Q f (nI 0) s1 := by
  have inner : ∀ (n : Nat), n < k → ∀ (K125 : Int32 → (Nat → Int32) → Prop), (∀ s2, (∀ n', n' < n + 1 → ∀ c, c < m → s2 (14 + 7 * n' + c) = T n' c) → (∀ i, (∀ n, n < k → ∀ c, c < m → i ≠ 14 + 7 * n + c) → s2 i = s1 i) → K125 (nI (n + 1)) s2) →
      ∀ r c s2, c + r = m → (∀ n', n' < n → ∀ c, c < m → s2 (14 + 7 * n' + c) = T n' c) → (∀ c', c' < c → s2 (14 + 7 * n + c') = T n c') → (∀ i, (∀ n, n < k → ∀ c, c < m → i ≠ 14 + 7 * n + c) → s2 i = s1 i) → wX6_passes_L137 (nI n) mo mh K125 (r + 1) (nI c) s2 := by
    intro n hn K125 hK r
    induction r with
    | zero =>
      intro c s2 hc g1 g2 g3
      have hc : c = m := by omega
      subst hc
      unfold wX6_passes_L137
      rw [h0]
      refine ifp (Int32.le_refl _) ?_
      rw [nI_1]
      refine hK s2 (fun n' hn' c hc => ?_) g3
      by_cases he : n' = n
      · subst he; exact g2 c hc
      · exact g1 n' (by omega) c hc
    | succ r ih =>
      intro c s2 hc g1 g2 g3
      unfold wX6_passes_L137
      rw [h0, ifF (by simp (disch := omega) only [zl_0, zl_1, zl_2, zl_3, zl_4, zl_5, zl_6, zl_7, zl_8, zl_9, zl_10, zl_14, zl_16, zl_20, zl_24, zl_32, zl_40, zl_42, zl_44, zl_48, zl_56, zl_57, zl_59, zl_60, zl_61, zl_64, zl_99, zl_100, zl_110, zl_126, zl_128, zl_200, zl_392, zl_999, zl_9999, nI_add, pk_mul, nI_leI, nI_ltI, nI_eq, nI_clamp, vpn, pk_sub]; omega)]
      have e1 : ((14 : Int32) + ((7 : Int32) * nI n)) + nI c = nI (14 + 7 * n + c) := by simp (disch := omega) only [zl_0, zl_1, zl_2, zl_3, zl_4, zl_5, zl_6, zl_7, zl_8, zl_9, zl_10, zl_14, zl_16, zl_20, zl_24, zl_32, zl_40, zl_42, zl_44, zl_48, zl_56, zl_57, zl_59, zl_60, zl_61, zl_64, zl_99, zl_100, zl_110, zl_126, zl_128, zl_200, zl_392, zl_999, zl_9999, nI_add, pk_mul, nI_leI, nI_ltI, nI_eq, nI_clamp, vpn, pk_sub]
      have e3 : ((7 : Int32) * nI n) + nI c = nI (7 * n + c) := by simp (disch := omega) only [zl_0, zl_1, zl_2, zl_3, zl_4, zl_5, zl_6, zl_7, zl_8, zl_9, zl_10, zl_14, zl_16, zl_20, zl_24, zl_32, zl_40, zl_42, zl_44, zl_48, zl_56, zl_57, zl_59, zl_60, zl_61, zl_64, zl_99, zl_100, zl_110, zl_126, zl_128, zl_200, zl_392, zl_999, zl_9999, nI_add, pk_mul, nI_leI, nI_ltI, nI_eq, nI_clamp, vpn, pk_sub]
      rw [e1, e3, nI_clamp (by omega), nI_clamp (by omega), vpn (by omega), vpn (by omega), nI_1, hT n hn c (by omega)]
      refine ⟨by omega, by omega, ih (c + 1) _ (by omega) (fun n' hn' c' hc' => ?_) (fun c' hc' => ?_) (fun i hi => ?_)⟩
      · rw [upd_ne _ _ (by omega)]
        exact g1 n' hn' c' hc'
      · by_cases he : c' = c
        · subst he; rw [upd_at]
        · rw [upd_ne _ _ (by omega)]
          exact g2 c' (by omega)
      · rw [upd_ne _ _ (hi n hn c (by omega))]
        exact g3 i hi
  have outer : ∀ r n s2, n + r = k → (∀ n', n' < n → ∀ c, c < m → s2 (14 + 7 * n' + c) = T n' c) → (∀ i, (∀ n, n < k → ∀ c, c < m → i ≠ 14 + 7 * n + c) → s2 i = s1 i) → wX6_passes_L125 mo mh Q (r + 1) (nI n) s2 := by
    intro r
    induction r with
    | zero =>
      intro n s2 hn g1 g2
      have hn : n = k := by omega
      subst hn
      unfold wX6_passes_L125
      rw [h1]
      refine ifp (Int32.le_refl _) (hQ _ (fun n hn c hc => ?_) ?_ (fun i hi0 hi => ?_))
      · rw [upd_ne _ _ (by omega)]
        exact g1 n hn c hc
      · rw [upd_at, g2 0 (fun n hn c hc => by omega)]
      · rw [upd_ne _ _ hi0]
        exact g2 i hi
    | succ r ih =>
      intro n s2 hn g1 g2
      unfold wX6_passes_L125
      rw [h1, ifF (by simp (disch := omega) only [zl_0, zl_1, zl_2, zl_3, zl_4, zl_5, zl_6, zl_7, zl_8, zl_9, zl_10, zl_14, zl_16, zl_20, zl_24, zl_32, zl_40, zl_42, zl_44, zl_48, zl_56, zl_57, zl_59, zl_60, zl_61, zl_64, zl_99, zl_100, zl_110, zl_126, zl_128, zl_200, zl_392, zl_999, zl_9999, nI_add, pk_mul, nI_leI, nI_ltI, nI_eq, nI_clamp, vpn, pk_sub]; omega)]
      exact ⟨m + 1, inner n (by omega) _ (fun s3 h3 h4 => ih (n + 1) s3 (by omega) h3 h4) m 0 s2 (by omega) g1 (fun c' hc' => absurd hc' (Nat.not_lt_zero _)) g2⟩
  exact ⟨k + 1, outer k 0 s1 (by omega) (fun n' hn' => absurd hn' (Nat.not_lt_zero _)) (fun _ _ => rfl)⟩
theorem r_passes {m k : Nat} {A : Nat → Nat} {B : Nat → Nat → Nat} {K H P S : Nat → Nat} {mo ms mh : Nat → Int32} {Q : (Nat → Int32) → (Nat → Int32) → Prop} (ok : okT m K H P S) (h : rfT m k K H P mo ms) (hk : k ≤ 6) (hx : ∀ n, n < k → okN m (A n) (B n)) (hN : ∀ n, n < k → rfN m n (A n) (B n) ms)
    (hQ : ∀ ms' mh', (∀ n, n < k → rfN m n (stp m K H P S (A n, B n)).1 (stp m K H P S (A n, B n)).2 ms') → ms' 0 = ms 0 + 1 → mfr m k ms ms' → Q ms' mh') : wX6_passes mo ms mh Q := by
  have hm := ok.2.1
  refine p_one ok h hk hx hN (fun s1 h1 h2 => ?_)
  have hT1 : rfT m k K H P mo s1 := rfT_fr h hm (fun c hc => h2 _ (fun n hn => by omega))
  have hN1 : ∀ n, n < k → rfN m n (stA m P S (A n) (B n)) (B n) s1 := fun n hn => ⟨h1 n hn, fun c hc => by rw [h2 _ (fun n hn => by omega)]; exact (hN n hn).2 c hc⟩
  refine p_two (A := fun n => stA m P S (A n) (B n)) ok hT1 hk (fun n hn => by rcases stA_ok ok (hx n hn) with g | g <;> omega) (fun n hn => (hx n hn).2) hN1 (fun mh' g1 => ?_)
  refine p_three h.1 h.2.1 hm hk g1 (fun s2 g2 g3 g4 => hQ s2 mh' (fun n hn => ⟨?_, g2 n hn⟩) ?_ (fun i hi hi0 hi1 hi2 => ?_))
  · rw [g4 _ (by omega) (fun n' hn' c hc => by omega)]
    exact h1 n hn
  · rw [g3, h2 0 (fun n hn => by omega)]
  · rw [g4 i hi0 hi2, h2 i hi1]
