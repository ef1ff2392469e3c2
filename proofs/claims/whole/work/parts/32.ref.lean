/-! the reference holds the abstract court: told mo, state ms -/
def rfH (m r c : Nat) : Nat := if m ≤ r ∨ r = c then 9 else r
def rfT (m k : Nat) (K H P : Nat → Nat) (mo ms : Nat → Int32) : Prop := mo 0 = nI m ∧ mo 1 = nI k ∧ ∀ c, c < m → mo (2 + c) = nI (K c) ∧ (∃ r, r ≤ 9 ∧ mo (9 + c) = nI r ∧ H c = rfH m r c) ∧ ms (1 + c) = nI (P c)
def rfN (m n a : Nat) (b : Nat → Nat) (ms : Nat → Int32) : Prop := ms (8 + n) = nI a ∧ ∀ c, c < m → ms (14 + 7 * n + c) = nI (b c)
theorem r_in {x lo hi : Nat} {Q : Int32 → Prop} (hx : x < 2 ^ 31) (h1 : lo < 2 ^ 31) (h2 : hi < 2 ^ 31) (h : lo ≤ x ∧ x ≤ hi) : wX6_in (nI x) (nI lo) (nI hi) Q = Q 1 := by
  unfold wX6_in
  rw [ifF (by simp (disch := omega) only [zl_0, zl_1, zl_2, zl_3, zl_4, zl_5, zl_6, zl_7, zl_8, zl_9, zl_10, zl_14, zl_16, zl_20, zl_24, zl_32, zl_40, zl_42, zl_44, zl_48, zl_56, zl_57, zl_59, zl_60, zl_61, zl_64, zl_99, zl_100, zl_110, zl_126, zl_128, zl_200, zl_392, zl_999, zl_9999, nI_add, pk_mul, nI_leI, nI_ltI, nI_eq, nI_clamp, vpn, pk_sub]; omega), ifF (by simp (disch := omega) only [zl_0, zl_1, zl_2, zl_3, zl_4, zl_5, zl_6, zl_7, zl_8, zl_9, zl_10, zl_14, zl_16, zl_20, zl_24, zl_32, zl_40, zl_42, zl_44, zl_48, zl_56, zl_57, zl_59, zl_60, zl_61, zl_64, zl_99, zl_100, zl_110, zl_126, zl_128, zl_200, zl_392, zl_999, zl_9999, nI_add, pk_mul, nI_leI, nI_ltI, nI_eq, nI_clamp, vpn, pk_sub]; omega)]
theorem r_heeded {m k c : Nat} {K H P : Nat → Nat} {mo ms : Nat → Int32} {Q : Int32 → Prop} (h : rfT m k K H P mo ms) (hm : m ≤ 7) (hc : c < m) : wX6_heeded (nI c) mo Q = Q (hI (H c)) := by
  obtain ⟨-, ⟨r, hr, h1, h2⟩, -⟩ := h.2.2 c hc
  unfold wX6_heeded
  have e1 : (9 : Int32) + nI c = nI (9 + c) := nI_add 9 c
  rw [e1, nI_clamp (by omega), vpn (by omega), h1, h.1, nmx]
  have e : (9 + c < 16) = True := by simp; omega
  rw [e, true_and, h2]
  unfold rfH hI
  by_cases g1 : m ≤ r
  · rw [ifT (by simp (disch := omega) only [zl_0, zl_1, zl_2, zl_3, zl_4, zl_5, zl_6, zl_7, zl_8, zl_9, zl_10, zl_14, zl_16, zl_20, zl_24, zl_32, zl_40, zl_42, zl_44, zl_48, zl_56, zl_57, zl_59, zl_60, zl_61, zl_64, zl_99, zl_100, zl_110, zl_126, zl_128, zl_200, zl_392, zl_999, zl_9999, nI_add, pk_mul, nI_leI, nI_ltI, nI_eq, nI_clamp, vpn, pk_sub]; exact g1), if_pos (Or.inl g1), if_pos rfl]
  · rw [ifF (by simp (disch := omega) only [zl_0, zl_1, zl_2, zl_3, zl_4, zl_5, zl_6, zl_7, zl_8, zl_9, zl_10, zl_14, zl_16, zl_20, zl_24, zl_32, zl_40, zl_42, zl_44, zl_48, zl_56, zl_57, zl_59, zl_60, zl_61, zl_64, zl_99, zl_100, zl_110, zl_126, zl_128, zl_200, zl_392, zl_999, zl_9999, nI_add, pk_mul, nI_leI, nI_ltI, nI_eq, nI_clamp, vpn, pk_sub]; exact g1)]
    by_cases g2 : r = c
    · rw [ifT (by rw [g2]), if_pos (Or.inr g2), if_pos rfl]
    · rw [ifF (by simp (disch := omega) only [zl_0, zl_1, zl_2, zl_3, zl_4, zl_5, zl_6, zl_7, zl_8, zl_9, zl_10, zl_14, zl_16, zl_20, zl_24, zl_32, zl_40, zl_42, zl_44, zl_48, zl_56, zl_57, zl_59, zl_60, zl_61, zl_64, zl_99, zl_100, zl_110, zl_126, zl_128, zl_200, zl_392, zl_999, zl_9999, nI_add, pk_mul, nI_leI, nI_ltI, nI_eq, nI_clamp, vpn, pk_sub]; exact g2), if_neg (show ¬ (m ≤ r ∨ r = c) by omega), if_neg (by omega)]
theorem r_doubts {m n c a : Nat} {b : Nat → Nat} {ms : Nat → Int32} {Q : Int32 → Prop} (hn : n < 6) (hm : m ≤ 7) (h : rfN m n a b ms) (hc : c < m) (hb : b c ≤ 9) : wX6_doubts (nI c) (nI n) ms Q = if b c ≤ 4 then Q 1 else Q 0 := by
  unfold wX6_doubts
  simp (disch := omega) only [zl_0, zl_1, zl_2, zl_3, zl_4, zl_5, zl_6, zl_7, zl_8, zl_9, zl_10, zl_14, zl_16, zl_20, zl_24, zl_32, zl_40, zl_42, zl_44, zl_48, zl_56, zl_57, zl_59, zl_60, zl_61, zl_64, zl_99, zl_100, zl_110, zl_126, zl_128, zl_200, zl_392, zl_999, zl_9999, nI_add, pk_mul, nI_leI, nI_ltI, nI_eq, nI_clamp, vpn, pk_sub]
  rw [h.2 c hc]
  have e : (14 + 7 * n + c < 56) = True := by simp; omega
  rw [e, true_and]
  by_cases g : b c ≤ 4
  · rw [ifF (by simp (disch := omega) only [zl_0, zl_1, zl_2, zl_3, zl_4, zl_5, zl_6, zl_7, zl_8, zl_9, zl_10, zl_14, zl_16, zl_20, zl_24, zl_32, zl_40, zl_42, zl_44, zl_48, zl_56, zl_57, zl_59, zl_60, zl_61, zl_64, zl_99, zl_100, zl_110, zl_126, zl_128, zl_200, zl_392, zl_999, zl_9999, nI_add, pk_mul, nI_leI, nI_ltI, nI_eq, nI_clamp, vpn, pk_sub]; omega), if_pos g]
  · rw [ifT (by simp (disch := omega) only [zl_0, zl_1, zl_2, zl_3, zl_4, zl_5, zl_6, zl_7, zl_8, zl_9, zl_10, zl_14, zl_16, zl_20, zl_24, zl_32, zl_40, zl_42, zl_44, zl_48, zl_56, zl_57, zl_59, zl_60, zl_61, zl_64, zl_99, zl_100, zl_110, zl_126, zl_128, zl_200, zl_392, zl_999, zl_9999, nI_add, pk_mul, nI_leI, nI_ltI, nI_eq, nI_clamp, vpn, pk_sub]; omega), if_neg g]
theorem r_whoAt {m k q : Nat} {K H P S : Nat → Nat} {mo ms : Nat → Int32} {Q : Int32 → Prop} (ok : okT m K H P S) (h : rfT m k K H P mo ms) (hq : q < m) (hQ : Q (nI (S q))) : wX6_whoAt (nI q) mo ms Q := by
  have hm := ok.2.1
  have key : ∀ r i, i + r = m → wX6_whoAt_L5 (nI q) mo ms Q (r + 1) (nI (if S q < i then S q else 9)) (nI i) := by
    intro r
    induction r with
    | zero =>
      intro i hi
      have hi : i = m := by omega
      subst hi
      unfold wX6_whoAt_L5
      rw [h.1, if_pos (ok.S hq).1]
      exact ifp (Int32.le_refl _) hQ
    | succ r ih =>
      intro i hi
      have hPi := (ok.P (show i < m by omega))
      unfold wX6_whoAt_L5
      rw [h.1, ifF (by simp (disch := omega) only [zl_0, zl_1, zl_2, zl_3, zl_4, zl_5, zl_6, zl_7, zl_8, zl_9, zl_10, zl_14, zl_16, zl_20, zl_24, zl_32, zl_40, zl_42, zl_44, zl_48, zl_56, zl_57, zl_59, zl_60, zl_61, zl_64, zl_99, zl_100, zl_110, zl_126, zl_128, zl_200, zl_392, zl_999, zl_9999, nI_add, pk_mul, nI_leI, nI_ltI, nI_eq, nI_clamp, vpn, pk_sub]; omega)]
      simp (disch := omega) only [zl_0, zl_1, zl_2, zl_3, zl_4, zl_5, zl_6, zl_7, zl_8, zl_9, zl_10, zl_14, zl_16, zl_20, zl_24, zl_32, zl_40, zl_42, zl_44, zl_48, zl_56, zl_57, zl_59, zl_60, zl_61, zl_64, zl_99, zl_100, zl_110, zl_126, zl_128, zl_200, zl_392, zl_999, zl_9999, nI_add, pk_mul, nI_leI, nI_ltI, nI_eq, nI_clamp, vpn, pk_sub]
      rw [(h.2.2 i (by omega)).2.2]
      refine ⟨by omega, ?_⟩
      have h1 := ih (i + 1) (by omega)
      by_cases he : P i = q
      · rw [ifT (by rw [he])]
        have hS : S q = i := by rw [← he]; exact hPi.2
        rw [hS, if_pos (Nat.lt_succ_self i)] at h1
        exact h1
      · rw [ifF (by simp (disch := omega) only [zl_0, zl_1, zl_2, zl_3, zl_4, zl_5, zl_6, zl_7, zl_8, zl_9, zl_10, zl_14, zl_16, zl_20, zl_24, zl_32, zl_40, zl_42, zl_44, zl_48, zl_56, zl_57, zl_59, zl_60, zl_61, zl_64, zl_99, zl_100, zl_110, zl_126, zl_128, zl_200, zl_392, zl_999, zl_9999, nI_add, pk_mul, nI_leI, nI_ltI, nI_eq, nI_clamp, vpn, pk_sub]; exact he)]
        have hS : S q ≠ i := fun g => he (by rw [← g]; exact (ok.S hq).2)
        have e : (if S q < i then S q else 9) = if S q < i + 1 then S q else 9 := by
          by_cases g : S q < i
          · rw [if_pos g, if_pos (by omega)]
          · rw [if_neg g, if_neg (by omega)]
        rw [e]
        exact h1
  have h0 := key m 0 (by omega)
  rw [if_neg (Nat.not_lt_zero _)] at h0
  exact ⟨m + 1, h0⟩
theorem nI_nem1 : ∀ h, h < 100 → ¬ nI h = (-1) := by decide +kernel
theorem r_whoAtM {m k : Nat} {K H P S : Nat → Nat} {mo ms : Nat → Int32} {Q : Int32 → Prop} (ok : okT m K H P S) (h : rfT m k K H P mo ms) (hQ : Q 9) : wX6_whoAt (-1) mo ms Q := by
  have hm := ok.2.1
  have key : ∀ r i, i + r = m → wX6_whoAt_L5 (-1) mo ms Q (r + 1) 9 (nI i) := by
    intro r
    induction r with
    | zero =>
      intro i hi
      have hi : i = m := by omega
      subst hi
      unfold wX6_whoAt_L5
      rw [h.1]
      exact ifp (Int32.le_refl _) hQ
    | succ r ih =>
      intro i hi
      have hPi := (ok.P (show i < m by omega)).1
      have h1 := ih (i + 1) (by omega)
      unfold wX6_whoAt_L5
      rw [h.1, ifF (by simp (disch := omega) only [zl_0, zl_1, zl_2, zl_3, zl_4, zl_5, zl_6, zl_7, zl_8, zl_9, zl_10, zl_14, zl_16, zl_20, zl_24, zl_32, zl_40, zl_42, zl_44, zl_48, zl_56, zl_57, zl_59, zl_60, zl_61, zl_64, zl_99, zl_100, zl_110, zl_126, zl_128, zl_200, zl_392, zl_999, zl_9999, nI_add, pk_mul, nI_leI, nI_ltI, nI_eq, nI_clamp, vpn, pk_sub]; omega)]
      have e1 : (1 : Int32) + nI i = nI (1 + i) := nI_add 1 i
      rw [e1, nI_clamp (by omega), (h.2.2 i (by omega)).2.2, ifF (nI_nem1 _ (by omega)), vpn (by omega)]
      exact ⟨by omega, by rw [nI_1]; exact h1⟩
  exact ⟨m + 1, key m 0 (by omega)⟩
theorem r_apart {a b : Nat} {Q : Int32 → Prop} (ha : a < 1000) (hb : b < 1000) : wX6_apart (nI a) (nI b) Q = Q (nI (dst a b)) := by
  unfold wX6_apart dst
  by_cases h : b ≤ a
  · rw [ifT (by simp (disch := omega) only [zl_0, zl_1, zl_2, zl_3, zl_4, zl_5, zl_6, zl_7, zl_8, zl_9, zl_10, zl_14, zl_16, zl_20, zl_24, zl_32, zl_40, zl_42, zl_44, zl_48, zl_56, zl_57, zl_59, zl_60, zl_61, zl_64, zl_99, zl_100, zl_110, zl_126, zl_128, zl_200, zl_392, zl_999, zl_9999, nI_add, pk_mul, nI_leI, nI_ltI, nI_eq, nI_clamp, vpn, pk_sub]; exact h), if_pos h, pk_sub h]
  · rw [ifF (by simp (disch := omega) only [zl_0, zl_1, zl_2, zl_3, zl_4, zl_5, zl_6, zl_7, zl_8, zl_9, zl_10, zl_14, zl_16, zl_20, zl_24, zl_32, zl_40, zl_42, zl_44, zl_48, zl_56, zl_57, zl_59, zl_60, zl_61, zl_64, zl_99, zl_100, zl_110, zl_126, zl_128, zl_200, zl_392, zl_999, zl_9999, nI_add, pk_mul, nI_leI, nI_ltI, nI_eq, nI_clamp, vpn, pk_sub]; exact h), if_neg h, pk_sub (by omega)]
theorem m1_0 : nI 0 - 1 = (-1) := by decide
theorem r_goesTo {m k n a : Nat} {b : Nat → Nat} {K H P S : Nat → Nat} {mo ms : Nat → Int32} {Q : Int32 → Prop} (ok : okT m K H P S) (h : rfT m k K H P mo ms) (hn : n < 6) (hx : okN m a b) (hN : rfN m n a b ms) (hQ : Q (nI (stA m P S a b))) : wX6_goesTo (nI n) mo ms Q := by
  have hm := ok.2.1
  unfold stA at hQ
  unfold wX6_goesTo
  have e1 : (8 : Int32) + nI n = nI (8 + n) := nI_add 8 n
  rw [e1, nI_clamp (by omega), hN.1, vpn (by omega)]
  refine ⟨by omega, ?_⟩
  rw [nmx]
  by_cases h9 : a = 9
  · rw [if_pos h9] at hQ
    rw [ifT (by rw [h9]; rfl)]
    exact hQ
  · rw [if_neg h9] at hQ
    have ha := hx.1.resolve_right h9
    have hPa := (ok.P ha).1
    rw [ifF (by simp (disch := omega) only [zl_0, zl_1, zl_2, zl_3, zl_4, zl_5, zl_6, zl_7, zl_8, zl_9, zl_10, zl_14, zl_16, zl_20, zl_24, zl_32, zl_40, zl_42, zl_44, zl_48, zl_56, zl_57, zl_59, zl_60, zl_61, zl_64, zl_99, zl_100, zl_110, zl_126, zl_128, zl_200, zl_392, zl_999, zl_9999, nI_add, pk_mul, nI_leI, nI_ltI, nI_eq, nI_clamp, vpn, pk_sub]; exact h9)]
    have e2 : (1 : Int32) + nI a = nI (1 + a) := nI_add 1 a
    rw [e2, nI_clamp (by omega), (h.2.2 a ha).2.2, vpn (by omega), nmx, r_doubts hn hm hN ha (hx.2 a ha)]
    refine ⟨by omega, ?_⟩
    by_cases hb : b a ≤ 4
    · rw [if_pos hb] at hQ
      rw [if_pos hb, ifF (by decide)]
      by_cases hp : P a = 0
      · rw [if_pos hp] at hQ
        rw [hp, m1_0]
        exact r_whoAtM ok h hQ
      · rw [if_neg hp] at hQ
        simp (disch := omega) only [zl_0, zl_1, zl_2, zl_3, zl_4, zl_5, zl_6, zl_7, zl_8, zl_9, zl_10, zl_14, zl_16, zl_20, zl_24, zl_32, zl_40, zl_42, zl_44, zl_48, zl_56, zl_57, zl_59, zl_60, zl_61, zl_64, zl_99, zl_100, zl_110, zl_126, zl_128, zl_200, zl_392, zl_999, zl_9999, nI_add, pk_mul, nI_leI, nI_ltI, nI_eq, nI_clamp, vpn, pk_sub]
        exact r_whoAt ok h (by omega) hQ
    · rw [if_neg hb] at hQ
      rw [if_neg hb, ifT rfl]
      have key : ∀ r q x y, q + r = m → y ≤ 99 → Q (nI (nearF b S (P a) r q x y)) → wX6_goesTo_L55 (nI n) (nI (P a)) mo ms Q (r + 1) (nI x) (nI y) (nI q) := by
        intro r
        induction r with
        | zero =>
          intro q x y hq hy hQ2
          have hq : q = m := by omega
          subst hq
          unfold wX6_goesTo_L55
          rw [h.1]
          exact ifp (Int32.le_refl _) hQ2
        | succ r ih =>
          intro q x y hq hy hQ
          have hS := (ok.S (show q < m by omega)).1
          unfold wX6_goesTo_L55
          rw [h.1, ifF (by simp (disch := omega) only [zl_0, zl_1, zl_2, zl_3, zl_4, zl_5, zl_6, zl_7, zl_8, zl_9, zl_10, zl_14, zl_16, zl_20, zl_24, zl_32, zl_40, zl_42, zl_44, zl_48, zl_56, zl_57, zl_59, zl_60, zl_61, zl_64, zl_99, zl_100, zl_110, zl_126, zl_128, zl_200, zl_392, zl_999, zl_9999, nI_add, pk_mul, nI_leI, nI_ltI, nI_eq, nI_clamp, vpn, pk_sub]; omega)]
          refine r_whoAt ok h (by omega) ?_
          rw [r_doubts hn hm hN hS (hx.2 _ hS)]
          unfold nearF at hQ
          by_cases hd : b (S q) ≤ 4
          · rw [if_pos hd, ifF (by decide), r_apart (by omega) (by omega), r_apart (by omega) (by omega)]
            have hdl : dst q (P a) < 7 := dst_lt (by omega) (by omega)
            generalize dst q (P a) = dd at hQ hdl ⊢
            by_cases hy2 : dd < y
            · rw [if_pos ⟨hd, hy2⟩] at hQ
              rw [ifF (by simp (disch := omega) only [zl_0, zl_1, zl_2, zl_3, zl_4, zl_5, zl_6, zl_7, zl_8, zl_9, zl_10, zl_14, zl_16, zl_20, zl_24, zl_32, zl_40, zl_42, zl_44, zl_48, zl_56, zl_57, zl_59, zl_60, zl_61, zl_64, zl_99, zl_100, zl_110, zl_126, zl_128, zl_200, zl_392, zl_999, zl_9999, nI_add, pk_mul, nI_leI, nI_ltI, nI_eq, nI_clamp, vpn, pk_sub]; omega), nI_1]
              exact ih (q + 1) (S q) dd (by omega) (by omega) hQ
            · rw [if_neg (fun h => hy2 h.2)] at hQ
              rw [ifT (by simp (disch := omega) only [zl_0, zl_1, zl_2, zl_3, zl_4, zl_5, zl_6, zl_7, zl_8, zl_9, zl_10, zl_14, zl_16, zl_20, zl_24, zl_32, zl_40, zl_42, zl_44, zl_48, zl_56, zl_57, zl_59, zl_60, zl_61, zl_64, zl_99, zl_100, zl_110, zl_126, zl_128, zl_200, zl_392, zl_999, zl_9999, nI_add, pk_mul, nI_leI, nI_ltI, nI_eq, nI_clamp, vpn, pk_sub]; omega), nI_1]
              exact ih (q + 1) x y (by omega) hy hQ
          · rw [if_neg (fun h => hd h.1)] at hQ
            rw [if_neg hd, ifT rfl, nI_1]
            exact ih (q + 1) x y (by omega) hy hQ
      exact ⟨m + 1, key m 0 a 99 (by omega) (by omega) hQ⟩
theorem within_fin : ∀ x, x < 100 → ∀ (Q : Int32 → Prop), wX6_within (nI x) Q = Q (nI (min 9 x)) := by
  intro x hx Q
  unfold wX6_within
  rw [ifT (by simp (disch := omega) only [zl_0, zl_1, zl_2, zl_3, zl_4, zl_5, zl_6, zl_7, zl_8, zl_9, zl_10, zl_14, zl_16, zl_20, zl_24, zl_32, zl_40, zl_42, zl_44, zl_48, zl_56, zl_57, zl_59, zl_60, zl_61, zl_64, zl_99, zl_100, zl_110, zl_126, zl_128, zl_200, zl_392, zl_999, zl_9999, nI_add, pk_mul, nI_leI, nI_ltI, nI_eq, nI_clamp, vpn, pk_sub]; omega)]
  by_cases h : x ≤ 9
  · rw [ifT (by simp (disch := omega) only [zl_0, zl_1, zl_2, zl_3, zl_4, zl_5, zl_6, zl_7, zl_8, zl_9, zl_10, zl_14, zl_16, zl_20, zl_24, zl_32, zl_40, zl_42, zl_44, zl_48, zl_56, zl_57, zl_59, zl_60, zl_61, zl_64, zl_99, zl_100, zl_110, zl_126, zl_128, zl_200, zl_392, zl_999, zl_9999, nI_add, pk_mul, nI_leI, nI_ltI, nI_eq, nI_clamp, vpn, pk_sub]; exact h), Nat.min_eq_right h]
  · rw [ifF (by simp (disch := omega) only [zl_0, zl_1, zl_2, zl_3, zl_4, zl_5, zl_6, zl_7, zl_8, zl_9, zl_10, zl_14, zl_16, zl_20, zl_24, zl_32, zl_40, zl_42, zl_44, zl_48, zl_56, zl_57, zl_59, zl_60, zl_61, zl_64, zl_99, zl_100, zl_110, zl_126, zl_128, zl_200, zl_392, zl_999, zl_9999, nI_add, pk_mul, nI_leI, nI_ltI, nI_eq, nI_clamp, vpn, pk_sub]; exact h), Nat.min_eq_left (by omega)]
    rfl
theorem withinm : ∀ x, x < 10 → ∀ (Q : Int32 → Prop), wX6_within (nI x + (-1)) Q = Q (nI (x - 1)) := by
  intro x hx Q
  unfold wX6_within
  by_cases h : x = 0
  · subst h
    rw [ifF (by decide)]
    rfl
  · rw [m1_fin x (by omega), pk_sub (by omega), ifT (by simp (disch := omega) only [zl_0, zl_1, zl_2, zl_3, zl_4, zl_5, zl_6, zl_7, zl_8, zl_9, zl_10, zl_14, zl_16, zl_20, zl_24, zl_32, zl_40, zl_42, zl_44, zl_48, zl_56, zl_57, zl_59, zl_60, zl_61, zl_64, zl_99, zl_100, zl_110, zl_126, zl_128, zl_200, zl_392, zl_999, zl_9999, nI_add, pk_mul, nI_leI, nI_ltI, nI_eq, nI_clamp, vpn, pk_sub]; omega), ifT (by simp (disch := omega) only [zl_0, zl_1, zl_2, zl_3, zl_4, zl_5, zl_6, zl_7, zl_8, zl_9, zl_10, zl_14, zl_16, zl_20, zl_24, zl_32, zl_40, zl_42, zl_44, zl_48, zl_56, zl_57, zl_59, zl_60, zl_61, zl_64, zl_99, zl_100, zl_110, zl_126, zl_128, zl_200, zl_392, zl_999, zl_9999, nI_add, pk_mul, nI_leI, nI_ltI, nI_eq, nI_clamp, vpn, pk_sub]; omega)]
theorem e_sw2 {κ : Nat} (h : κ ≤ 3) {A B0 B1 B2 : Prop} : ((((nI κ).toInt < 0 ∨ 2 < (nI κ).toInt) → A) ∧ (nI κ = 0 → B0) ∧ (nI κ = 1 → B1) ∧ (nI κ = 2 → B2)) = if κ = 0 then B0 else if κ = 1 then B1 else if κ = 2 then B2 else A := by
  have h1 : ((nI κ).toInt < 0 ∨ 2 < (nI κ).toInt) ↔ 2 < κ := by rw [nI_toInt (by omega)]; omega
  rw [h1]
  simp (disch := omega) only [zl_0, zl_1, zl_2, zl_3, zl_4, zl_5, zl_6, zl_7, zl_8, zl_9, zl_10, zl_14, zl_16, zl_20, zl_24, zl_32, zl_40, zl_42, zl_44, zl_48, zl_56, zl_57, zl_59, zl_60, zl_61, zl_64, zl_99, zl_100, zl_110, zl_126, zl_128, zl_200, zl_392, zl_999, zl_9999, nI_add, pk_mul, nI_leI, nI_ltI, nI_eq, nI_clamp, vpn, pk_sub]
  rcases (show κ = 0 ∨ κ = 1 ∨ κ = 2 ∨ κ = 3 by omega) with rfl | rfl | rfl | rfl <;> simp
/-- what a courtier believes behind the change, ms having the news where it is then -/
theorem r_grow {m k n c a' : Nat} {b : Nat → Nat} {K H P S : Nat → Nat} {mo ms : Nat → Int32} {Q : Int32 → Prop} (ok : okT m K H P S) (h : rfT m k K H P mo ms) (hn : n < 6) (hc : c < m) (hb9 : ∀ c, c < m → b c ≤ 9) (hN : rfN m n a' b ms) (ha : a' < 10) (ha9 : a' ≠ 9) : wX6_grows (nI c) (nI n) mo ms (fun r => wX6_within (nI (b c) + r) Q) = Q (nI (stB K H a' b c)) := by
  have hm := ok.2.1
  obtain ⟨hK, hH, -, -, -, -⟩ := ok.2.2 c hc
  have hbc := hb9 c hc
  have z0 : wX6_within (nI (b c) + 0) Q = Q (nI (b c)) := by
    have e : nI (b c) + 0 = nI (b c + 0) := nI_add _ 0
    rw [e, within_fin _ (by omega)]
    congr 2
    omega
  have z1 : wX6_within (nI (b c) + 1) Q = Q (nI (min 9 (b c + 1))) := by
    have e : nI (b c) + 1 = nI (b c + 1) := nI_add _ 1
    rw [e, within_fin _ (by omega)]
  have z2 : wX6_within (nI (b c) + 2) Q = Q (nI (min 9 (b c + 2))) := by
    have e : nI (b c) + 2 = nI (b c + 2) := nI_add _ 2
    rw [e, within_fin _ (by omega)]
  have zm : wX6_within (nI (b c) + (-1)) Q = Q (nI (b c - 1)) := withinm _ (by omega) Q
  have zK : min 9 (b c) = b c := by omega
  have hJ : ∀ s : Int32, wX6_grows_J26 (nI c) (nI n) s mo ms (fun r => wX6_within (nI (b c) + r) Q) = if K c = 0 then ((s = 0 → Q (nI (b c))) ∧ (¬ s = 0 → Q (nI (min 9 (b c + 1))))) else if K c = 1 then ((s = 0 → Q (nI (b c))) ∧ (¬ s = 0 → Q (nI (min 9 (b c + 2))))) else if K c = 2 then Q (nI (b c)) else Q (nI (if a' = c then b c else b c - 1)) := by
    intro s
    unfold wX6_grows_J26
    have e1 : (2 : Int32) + nI c = nI (2 + c) := nI_add 2 c
    have e2 : (8 : Int32) + nI n = nI (8 + n) := nI_add 8 n
    rw [e1, e2, nI_clamp (by omega), nI_clamp (by omega), (h.2.2 c hc).1, hN.1, vpn (by omega), vpn (by omega), e_sw2 hK]
    have t1 : (2 + c < 16) = True := by simp; omega
    have t2 : (8 + n < 56) = True := by simp; omega
    have hA : ((nI a' = nI c → Q (nI (b c))) ∧ (¬ nI a' = nI c → Q (nI (b c - 1)))) = Q (nI (if a' = c then b c else b c - 1)) := by
      by_cases he : a' = c
      · rw [ifT (by rw [he]), if_pos he]
      · rw [ifF (by simp (disch := omega) only [zl_0, zl_1, zl_2, zl_3, zl_4, zl_5, zl_6, zl_7, zl_8, zl_9, zl_10, zl_14, zl_16, zl_20, zl_24, zl_32, zl_40, zl_42, zl_44, zl_48, zl_56, zl_57, zl_59, zl_60, zl_61, zl_64, zl_99, zl_100, zl_110, zl_126, zl_128, zl_200, zl_392, zl_999, zl_9999, nI_add, pk_mul, nI_leI, nI_ltI, nI_eq, nI_clamp, vpn, pk_sub]; exact he), if_neg he]
    simp only [t1, t2, true_and, z0, z1, z2, zm, hA]
  unfold wX6_grows
  rw [r_heeded h hm hc, hJ, hJ]
  unfold stB
  rw [if_neg ha9]
  by_cases h9 : H c = 9
  · have e4 : hI (H c) = -4 := by unfold hI; rw [if_pos h9]
    rw [ifT e4]
    rcases (show K c = 0 ∨ K c = 1 ∨ K c = 2 ∨ K c = 3 by omega) with e | e | e | e <;> simp [e, h9, zK]
  · have hHm : H c < m := hH.resolve_right h9
    have e4 : hI (H c) = nI (H c) := by unfold hI; rw [if_neg h9]
    rw [e4, ifF (nI_ne4 _ (by omega)), r_doubts hn hm hN hHm (hb9 _ hHm)]
    by_cases hd : b (H c) ≤ 4
    · rw [if_pos hd, ifF (by decide)]
      rcases (show K c = 0 ∨ K c = 1 ∨ K c = 2 ∨ K c = 3 by omega) with e | e | e | e <;> simp [e, hd, zK]
    · rw [if_neg hd, ifT rfl]
      rcases (show K c = 0 ∨ K c = 1 ∨ K c = 2 ∨ K c = 3 by omega) with e | e | e | e <;> simp [e, hd, h9]
