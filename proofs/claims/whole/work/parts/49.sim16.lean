/-! reading: news -/
section RD
variable {T : List Nat} {tl mt : Nat → Int32} {tn my : Int32} {d : DT} {kd hd pl st ho be md mb : Nat → Int32} {nc nn : Int32}
theorem s_rn {j : Nat} {Q : Int32 → Int32 → (Nat → Int32) → (Nat → Int32) → Int32 → Prop} (hz : okX T) (hc : ctX T tl tn) (hj : j < 300) (h : cR d kd hd pl st ho be nc nn) (ok : okR d)
    (hF : ¬ nOK T j (tM d) (tK d) → ∀ tc a b c, Q 0 tc a b c) (hT : nOK T j (tM d) (tK d) → ∀ a b c, cR (addN d (nmV T j) (fun c => ltr T (nmE T j + 1 + c) - 48)) kd hd pl st a b nc c → Q 1 (nI (nmE T j + 1 + tM d + 1)) a b c) : wX4_readNews tl tn (nI j) ho be nc nn Q := by
  have b1 := nmE_b T j
  have hm7 := ok.1
  have hk6 := ok.2.1
  have v6 : (6 : Int32) = nI 6 := rfl
  have v44 : (44 : Int32) = nI 44 := rfl
  have v59 : (59 : Int32) = nI 59 := rfl
  unfold wX4_readNews
  rw [e_number hz hc (by omega), v44]
  by_cases f1 : isF T j
  · have n1 := nmV_lt f1
    rw [if_pos f1, e_takes hz hc (by omega) (by omega)]
    by_cases f3 : ltr T (nmE T j) = 44
    · rw [if_pos f3, ifF (by decide)]
      unfold wX0_addNews
      rw [h.2.1, v6]
      by_cases f4 : tK d < 6
      · rw [ifF (by simp (disch := omega) only [zl_0, zl_1, zl_2, zl_3, zl_4, zl_5, zl_6, zl_7, zl_8, zl_9, zl_10, zl_14, zl_16, zl_20, zl_24, zl_32, zl_40, zl_42, zl_44, zl_48, zl_56, zl_57, zl_59, zl_60, zl_61, zl_64, zl_99, zl_100, zl_110, zl_126, zl_128, zl_200, zl_392, zl_999, zl_9999, nI_add, pk_mul, nI_leI, nI_ltI, nI_eq, nI_clamp, vpn, pk_sub]; omega), h.1]
        by_cases f2 : nmV T j < tM d
        · rw [e_isC_T f2 (by omega), ifF (by decide), e_put (by omega) (by decide), nI_1]
          refine ifn (by decide) ?_
          have key : ∀ r i be1, i + r = tM d → (∀ c, c < i → isF T (nmE T j + 1 + c)) → (∀ c, c < i → be1 (tK d * 7 + c) = nI (ltr T (nmE T j + 1 + c) - 48)) → (∀ l, (∀ c, c < tM d → l ≠ tK d * 7 + c) → be1 l = be l) → (∀ c, i ≤ c → c < 7 → be1 (tK d * 7 + c) = be (tK d * 7 + c)) → wX4_readNews_L32 (nI (tK d)) tl tn (upd ho (tK d) (nI (nmV T j))) (nI (tM d)) (nI (tK d + 1)) Q (r + 1) (nI i) (nI (nmE T j + 1 + i)) be1 := by
            intro r
            induction r with
            | zero =>
              intro i be1 hi g1 g2 g3 g4
              have hi : i = tM d := by omega
              unfold wX4_readNews_L32
              refine ifp (by rw [hi]; exact Int32.le_refl _) ?_
              rw [v59, e_takes hz hc (by omega) (by omega)]
              by_cases f6 : ltr T (nmE T j + 1 + i) = 59
              · rw [if_pos f6, hi]
                refine hT ⟨f1, f2, f3, f4, fun c hc2 => g1 c (by omega), by rw [← hi]; exact f6⟩ _ _ _ ⟨h.1, rfl, h.2.2.1, fun n hn => ?_, fun n hn c hc2 => ?_⟩
                · have hn : n < tK d + 1 := hn
                  show upd ho (tK d) (nI (nmV T j)) n = nI (if n = tK d then nmV T j else tA d n)
                  by_cases e : n = tK d
                  · rw [e, upd_at, if_pos rfl]
                  · rw [upd_ne _ _ e, if_neg e]; exact h.2.2.2.1 n (by omega)
                · show be1 (n * 7 + c) = nI (if n = tK d ∧ c < tM d then ltr T (nmE T j + 1 + c) - 48 else tB d n c)
                  by_cases e : n = tK d ∧ c < tM d
                  · rw [if_pos e, e.1]; exact g2 c (by omega)
                  · rw [if_neg e]
                    by_cases e2 : n = tK d
                    · rw [e2, g4 c (by omega) hc2]; exact h.2.2.2.2 _ (by omega) c hc2
                    · rw [g3 _ (fun c' hc' => by omega)]; exact h.2.2.2.2 n hn c hc2
              · rw [if_neg f6]
                exact hF (fun q => f6 (by rw [hi]; exact q.2.2.2.2.2)) _ _ _ _
            | succ r ih =>
              intro i be1 hi g1 g2 g3 g4
              unfold wX4_readNews_L32
              rw [ifF (by simp (disch := omega) only [zl_0, zl_1, zl_2, zl_3, zl_4, zl_5, zl_6, zl_7, zl_8, zl_9, zl_10, zl_14, zl_16, zl_20, zl_24, zl_32, zl_40, zl_42, zl_44, zl_48, zl_56, zl_57, zl_59, zl_60, zl_61, zl_64, zl_99, zl_100, zl_110, zl_126, zl_128, zl_200, zl_392, zl_999, zl_9999, nI_add, pk_mul, nI_leI, nI_ltI, nI_eq, nI_clamp, vpn, pk_sub]; omega), e_figure hz hc (by omega)]
              by_cases f5 : isF T (nmE T j + 1 + i)
              · have l1 := f5.1
                have l2 := f5.2
                rw [if_pos f5, ifF (nI_ne4 _ (by omega)), e_setBelief (by omega) (by omega), nI_1]
                refine ih (i + 1) _ (by omega) (fun c hc2 => ?_) (fun c hc2 => ?_) (fun l hl => ?_) (fun c hc2 hc3 => ?_)
                · by_cases e : c = i
                  · rw [e]; exact f5
                  · exact g1 c (by omega)
                · by_cases e : c = i
                  · rw [e, upd_at]
                  · rw [upd_ne _ _ (by omega)]; exact g2 c (by omega)
                · rw [upd_ne _ _ (hl i (by omega))]; exact g3 l hl
                · rw [upd_ne _ _ (by omega)]; exact g4 c (by omega) hc3
              · rw [if_neg f5]
                exact ifp rfl (hF (fun q => f5 (q.2.2.2.2.1 i (by omega))) _ _ _ _)
          exact ⟨tM d + 1, key (tM d) 0 be (by omega) (fun c hc2 => absurd hc2 (Nat.not_lt_zero _)) (fun c hc2 => absurd hc2 (Nat.not_lt_zero _)) (fun _ _ => rfl) (fun _ _ _ => rfl)⟩
        · rw [e_isC_F (fun ⟨i, i1, i2⟩ => f2 (by have := (nI_eq (by omega) (by omega)).mp i2; omega)) (by omega), ifT rfl]
          exact ifp rfl (hF (fun q => f2 q.2.1) _ _ _ _)
      · rw [ifT (by simp (disch := omega) only [zl_0, zl_1, zl_2, zl_3, zl_4, zl_5, zl_6, zl_7, zl_8, zl_9, zl_10, zl_14, zl_16, zl_20, zl_24, zl_32, zl_40, zl_42, zl_44, zl_48, zl_56, zl_57, zl_59, zl_60, zl_61, zl_64, zl_99, zl_100, zl_110, zl_126, zl_128, zl_200, zl_392, zl_999, zl_9999, nI_add, pk_mul, nI_leI, nI_ltI, nI_eq, nI_clamp, vpn, pk_sub]; omega)]
        exact ifp rfl (hF (fun q => f4 q.2.2.2.1) _ _ _ _)
    · rw [if_neg f3, ifT rfl]
      exact hF (fun q => f3 q.2.2.1) _ _ _ _
  · rw [if_neg f1, e_takes hz hc (by omega) (by omega)]
    have hF := hF (fun q => f1 q.1)
    by_cases f3 : ltr T j = 44
    · rw [if_pos f3, ifF (by decide)]
      unfold wX0_addNews
      by_cases f4 : (6 : Int32) ≤ nn
      · rw [ifT f4]
        exact ifp rfl (hF _ _ _ _)
      · have hn4 : ¬ ix (-4) (tM d) := fun ⟨i, i1, i2⟩ => nI_ne4 i (by omega) i2.symm
        rw [ifF f4, h.1, e_isC_F hn4 (by omega), ifT rfl]
        exact ifp rfl (hF _ _ _ _)
    · rw [if_neg f3, ifT rfl]
      exact hF _ _ _ _
def rv (b : Nat → Nat) : Nat → Nat
  | 0 => 0
  | i + 1 => 10 * rv b i + b i
theorem rv_lt (b : Nat → Nat) (m : Nat) (h : ∀ c, c < m → b c ≤ 9) : ∀ i, i ≤ m → rv b i < 10 ^ i
  | 0, _ => by unfold rv; decide
  | i + 1, hi => by
    have h1 := rv_lt b m h i (by omega)
    have h2 := h i (by omega)
    unfold rv
    rw [Nat.pow_succ]
    omega
theorem r_told {b : Nat → Nat} {a : Nat} {Q : (Nat → Int32) → (Nat → Int32) → Prop} (h : mR d md mb) (ok : okR d) (hk : tK d < 6) (hb : ∀ c, c < tM d → b c ≤ 9) (hQ : ∀ md' mb', mR (addN d a b) md' mb' → Q md' mb') : wX6_isTold (nI a) (nI (rv b (tM d))) md mb Q := by
  have hm7 := ok.1
  have v10 : (10 : Int32) = nI 10 := rfl
  unfold wX6_isTold
  rw [nmx, nmx, h.2.1]
  have fin : ∀ mb1, (∀ c, c < tM d → mb1 (14 + 7 * tK d + c) = nI (b c)) → (∀ l, (∀ c, c < tM d → l ≠ 14 + 7 * tK d + c) → mb1 l = mb l) → vp_in ((8 : Int32) + nI (tK d)) 56 ∧ Q (upd md 1 (nI (tK d) + (1 : Int32))) (upd mb1 (((8 : Int32) + nI (tK d)).toNatClampNeg) (nI a)) := by
    intro mb1 g1 g2
    have e8 : (8 : Int32) + nI (tK d) = nI (8 + tK d) := nI_add 8 _
    rw [e8, nI_clamp (by omega), vpn (by omega), nI_1]
    refine ⟨by omega, hQ _ _ ⟨?_, upd_at _ _ _, fun c hc => ?_, fun n hn => ?_, fun n hn c hc => ?_, ?_⟩⟩
    · rw [upd_ne _ _ (by omega)]; exact h.1
    · have hc : c < tM d := hc
      rw [upd_ne _ _ (by omega), upd_ne _ _ (by omega), upd_ne _ _ (by omega), g2 _ (fun c' hc' => by omega)]
      exact h.2.2.1 c hc
    · have hn : n < tK d + 1 := hn
      show _ = nI (if n = tK d then a else tA d n)
      by_cases e : n = tK d
      · rw [e, upd_at, if_pos rfl]
      · rw [upd_ne _ _ (by omega), if_neg e, g2 _ (fun c' hc' => by omega)]; exact h.2.2.2.1 n (by omega)
    · show _ = nI (if n = tK d ∧ c < tM d then b c else tB d n c)
      rw [upd_ne _ _ (by omega)]
      by_cases e : n = tK d ∧ c < tM d
      · rw [if_pos e, e.1]; exact g1 c e.2
      · rw [if_neg e, g2 _ (fun c' hc' => by omega)]; exact h.2.2.2.2.1 n hn c hc
    · rw [upd_ne _ _ (by omega), g2 _ (fun c' hc' => by omega)]; exact h.2.2.2.2.2
  have key : ∀ i mb1, i < tM d → (∀ c, i < c → c < tM d → mb1 (14 + 7 * tK d + c) = nI (b c)) → (∀ l, (∀ c, c < tM d → l ≠ 14 + 7 * tK d + c) → mb1 l = mb l) → wX6_isTold_L20 (nI (tK d)) (fun mb_7 => (vp_in ((8 : Int32) + nI (tK d)) 56 ∧ (Q (upd md 1 (nI (tK d) + (1 : Int32))) (upd mb_7 (((8 : Int32) + nI (tK d)).toNatClampNeg) (nI a))))) (i + 2) (nI (rv b (i + 1))) (nI i) mb1 := by
    intro i
    induction i with
    | zero =>
      intro mb1 hi g1 g2
      have hb0 := hb 0 hi
      have e1 : ((14 : Int32) + ((7 : Int32) * nI (tK d))) + nI 0 = nI (14 + 7 * tK d + 0) := by
        have v14 : (14 : Int32) = nI 14 := rfl
        have v7 : (7 : Int32) = nI 7 := rfl
        rw [v14, v7, pk_mul, nI_add, nI_add]
      have er : rv b (0 + 1) = b 0 := by unfold rv; unfold rv; omega
      unfold wX6_isTold_L20
      rw [ifF (nI_pos (by omega)), e1, nI_clamp (by omega), vpn (by omega), nmx, er, v10, pk_rem (by omega) (by decide) (by decide)]
      refine ⟨by omega, ?_⟩
      unfold wX6_isTold_L20
      refine ifp (by decide) (fin _ (fun c hc => ?_) (fun l hl => ?_))
      · by_cases e : c = 0
        · rw [e, upd_at, Nat.mod_eq_of_lt (by omega)]
        · rw [upd_ne _ _ (by omega)]; exact g1 c (by omega) hc
      · rw [upd_ne _ _ (hl 0 hi)]; exact g2 l hl
    | succ i ih =>
      intro mb1 hi g1 g2
      have hbi := hb (i + 1) hi
      have hlt := rv_lt b (tM d) hb (i + 2) (by omega)
      have hp : 10 ^ (i + 2) ≤ 10 ^ 7 := Nat.pow_le_pow_right (by decide) (by omega)
      have e1 : ((14 : Int32) + ((7 : Int32) * nI (tK d))) + nI (i + 1) = nI (14 + 7 * tK d + (i + 1)) := by
        have v14 : (14 : Int32) = nI 14 := rfl
        have v7 : (7 : Int32) = nI 7 := rfl
        rw [v14, v7, pk_mul, nI_add, nI_add]
      have er : rv b (i + 2) = 10 * rv b (i + 1) + b (i + 1) := rfl
      have em : rv b (i + 2) % 10 = b (i + 1) := by rw [er]; omega
      have ed : rv b (i + 2) / 10 = rv b (i + 1) := by rw [er]; omega
      rw [show i + 1 + 1 = i + 2 by omega]
      unfold wX6_isTold_L20
      rw [ifF (nI_pos (by omega)), e1, nI_clamp (by omega), vpn (by omega), nmx, v10, pk_rem (by omega) (by decide) (by decide), pk_div (by omega) (by decide) (by decide), em, ed]
      refine ⟨by omega, ?_⟩
      have e2 : nI (i + 1) + (-1) = nI i := pk_m1 i
      rw [e2]
      refine ih _ (by omega) (fun c hc hc2 => ?_) (fun l hl => ?_)
      · by_cases e : c = i + 1
        · rw [e, upd_at]
        · rw [upd_ne _ _ (by omega)]; exact g1 c (by omega) hc2
      · rw [upd_ne _ _ (hl (i + 1) hi)]; exact g2 l hl
  by_cases hm0 : tM d = 0
  · refine ⟨1, ?_⟩
    unfold wX6_isTold_L20
    rw [h.1, hm0]
    exact ifp (by decide) (fin mb (fun c hc => by omega) (fun _ _ => rfl))
  · have e3 : nI (tM d) - 1 = nI (tM d - 1) := pk_sub (a := tM d) (b := 1) (by omega)
    have e4 : tM d = (tM d - 1) + 1 := by omega
    refine ⟨tM d - 1 + 2, ?_⟩
    rw [h.1, e3]
    have g := key (tM d - 1) mb (by omega) (fun c hc hc2 => by omega) (fun _ _ => rfl)
    rw [← e4] at g
    exact g
theorem r_rn {j : Nat} {Q : Int32 → (Nat → Int32) → (Nat → Int32) → Int32 → Prop} (hz : okX T) (hc : ctX T mt my) (hj : j < 300) (h : mR d md mb) (ok : okR d)
    (hF : ¬ nOK T j (tM d) (tK d) → ∀ a b c, Q 0 a b c) (hT : nOK T j (tM d) (tK d) → ∀ a b, mR (addN d (nmV T j) (fun c => ltr T (nmE T j + 1 + c) - 48)) a b → Q 1 a b (nI (nmE T j + 1 + tM d + 1))) : wX6_readsNews mt my md mb (nI j) Q := by
  have b1 := nmE_b T j
  have hm7 := ok.1
  have hk6 := ok.2.1
  have v44 : (44 : Int32) = nI 44 := rfl
  have v59 : (59 : Int32) = nI 59 := rfl
  have v48 : (48 : Int32) = nI 48 := rfl
  have v10 : (10 : Int32) = nI 10 := rfl
  have hinm : ∀ v, v < 100 → ∀ Q2 : Int32 → Prop, wX6_in (nI v) 0 (nI (tM d) - 1) Q2 = if v < tM d then Q2 1 else Q2 0 := by
    intro v hv Q2
    by_cases hm0 : tM d = 0
    · rw [if_neg (by omega), hm0]
      unfold wX6_in
      have e0 : (nI 0 - 1 : Int32) < nI v := Int32.lt_of_lt_of_le (by decide : nI 0 - 1 < (0 : Int32)) (nI_pos' (by omega))
      have e1 : ¬ nI v < (0 : Int32) := nI_pos (by omega)
      rw [ifF e1, ifT e0]
    · have e3 : nI (tM d) - 1 = nI (tM d - 1) := pk_sub (a := tM d) (b := 1) (by omega)
      rw [e3]
      have g : wX6_in (nI v) 0 (nI (tM d - 1)) Q2 = if v ≤ tM d - 1 then Q2 1 else Q2 0 := e_in0 (by omega) (by omega)
      rw [g]
      by_cases e : v < tM d
      · rw [if_pos e, if_pos (by omega)]
      · rw [if_neg e, if_neg (by omega)]
  unfold wX6_readsNews
  rw [h.1, v44]
  by_cases f1 : isF T j ∧ nmV T j < tM d ∧ ltr T (nmE T j) = 44
  · have n1 := nmV_lt f1.1
    refine r_numT hz hc (by omega) (by omega) (by omega) f1.1 (fun Q2 => by rw [hinm _ n1, if_pos f1.2.1]) f1.2.2 ?_
    refine ifn (nI_pos (by omega)) ?_
    rw [h.2.1]
    by_cases gk : tK d = 6
    · exact ifp (by rw [gk]; rfl) (hF (fun q => by have := q.2.2.2.1; omega) _ _ _)
    refine ifn (fun g => gk ((nI_eq (b := 6) (by omega) (by omega)).mp g)) ?_
    have key : ∀ r i, i + r = tM d → (∀ c, c < i → isF T (nmE T j + 1 + c)) → wX6_readsNews_L37 mt my md mb (fun x2_19 ma_20 => (wX6_letterAt ma_20 mt my (fun r_21 => ((r_21 = (59 : Int32) → (wX6_isTold (nI (nmV T j)) x2_19 md mb (fun md_23 mb_24 => (Q (1 : Int32) md_23 mb_24 (ma_20 + (1 : Int32)))))) ∧ (¬ r_21 = (59 : Int32) → (Q (0 : Int32) md mb ma_20)))))) Q (r + 1) (nI (rv (fun c => ltr T (nmE T j + 1 + c) - 48) i)) (nI i) (nI (nmE T j + 1 + i)) := by
      intro r
      induction r with
      | zero =>
        intro i hi g1
        have hi : i = tM d := by omega
        unfold wX6_readsNews_L37
        rw [h.1]
        refine ifp (by rw [hi]; exact Int32.le_refl _) ?_
        rw [r_letter hz hc (by omega), v59]
        by_cases f6 : ltr T (nmE T j + 1 + i) = 59
        · refine ifp ((lI_eq hz (by omega) (by omega)).mpr f6) ?_
          rw [hi]
          refine r_told h ok (by omega) (fun c hc2 => ?_) (fun md' mb' g => ?_)
          · have := (g1 c (by omega)).2
            show ltr T (nmE T j + 1 + c) - 48 ≤ 9
            omega
          · rw [nI_1]
            exact hT ⟨f1.1, f1.2.1, f1.2.2, by omega, fun c hc2 => g1 c (by omega), by rw [← hi]; exact f6⟩ _ _ g
        · exact ifn (fun g => f6 ((lI_eq hz (by omega) (by omega)).mp g)) (hF (fun q => f6 (by rw [hi]; exact q.2.2.2.2.2)) _ _ _)
      | succ r ih =>
        intro i hi g1
        unfold wX6_readsNews_L37
        rw [h.1, ifF (by simp (disch := omega) only [zl_0, zl_1, zl_2, zl_3, zl_4, zl_5, zl_6, zl_7, zl_8, zl_9, zl_10, zl_14, zl_16, zl_20, zl_24, zl_32, zl_40, zl_42, zl_44, zl_48, zl_56, zl_57, zl_59, zl_60, zl_61, zl_64, zl_99, zl_100, zl_110, zl_126, zl_128, zl_200, zl_392, zl_999, zl_9999, nI_add, pk_mul, nI_leI, nI_ltI, nI_eq, nI_clamp, vpn, pk_sub]; omega), r_letter hz hc (by omega), r_fig hz]
        by_cases f5 : isF T (nmE T j + 1 + i)
        · have l1 := f5.1
          have l2 := f5.2
          rw [if_pos f5, ifF (by decide), r_letter hz hc (by omega), nmx, lI_F f5, v10, v48, pk_mul, nI_add, pk_sub (by omega), nI_1, nI_1]
          have g := ih (i + 1) (by omega) (fun c hc2 => by
            by_cases e : c = i
            · rw [e]; exact f5
            · exact g1 c (by omega))
          have e : rv (fun c => ltr T (nmE T j + 1 + c) - 48) (i + 1) = 10 * rv (fun c => ltr T (nmE T j + 1 + c) - 48) i + ltr T (nmE T j + 1 + i) - 48 := by
            show 10 * rv (fun c => ltr T (nmE T j + 1 + c) - 48) i + (ltr T (nmE T j + 1 + i) - 48) = _
            omega
          rw [e] at g
          exact g
        · rw [if_neg f5]
          exact ifp rfl (hF (fun q => f5 (q.2.2.2.2.1 i (by omega))) _ _ _)
    exact ⟨tM d + 1, key (tM d) 0 (by omega) (fun c hc2 => absurd hc2 (Nat.not_lt_zero _))⟩
  · refine r_numF hz hc (by omega) (by omega) (by omega) ?_ (fun ma => ifp (by decide) (hF (fun q => f1 ⟨q.1, q.2.1, q.2.2.1⟩) _ _ _))
    by_cases q1 : isF T j
    · have n1 := nmV_lt q1
      right
      refine ⟨q1, ?_⟩
      by_cases q2 : nmV T j < tM d
      · exact Or.inr ⟨fun Q2 => by rw [hinm _ n1, if_pos q2], fun q3 => f1 ⟨q1, q2, q3⟩⟩
      · exact Or.inl (fun Q2 => by rw [hinm _ n1, if_neg q2])
    · exact Or.inl q1
end RD
