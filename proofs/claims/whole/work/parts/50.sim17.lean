/-! reading: all -/
def dtD (d : DT) : Dy := ((fun c => c), (fun c => c), tA d, tB d, 0)
def dtH (d : DT) (c : Nat) : Nat := rfH (tM d) (tR d c) c
theorem rfH_ok {m r c : Nat} : rfH m r c < m ∨ rfH m r c = 9 := by
  unfold rfH
  split
  · exact Or.inr rfl
  · exact Or.inl (by omega)
theorem dtD_ok {d : DT} (h : okR d) (h1 : 1 ≤ tM d) (h2 : 1 ≤ tK d) : okD (tM d) (tK d) (tC d) (dtH d) (dtD d) := by
  refine ⟨⟨h1, h.1, fun c hc => ⟨(h.2.2.1 c hc).1, rfH_ok, hc, rfl, hc, rfl⟩⟩, h2, h.2.1, fun n hn => ⟨Or.inl (h.2.2.2.1 n hn), fun c _ => h.2.2.2.2.1 n c⟩, ?_⟩
  show 0 < 5000
  omega
section RD
variable {T : List Nat} {tl mt : Nat → Int32} {tn my : Int32} {d : DT} {kd hd pl st ho be md mb mo ms : Nat → Int32} {nc nn : Int32}
theorem s_settle {Q : (Nat → Int32) → Prop} (h : cR d kd hd pl st ho be nc nn) (ok : okR d) (hQ : ∀ hd', (∀ c, c < tM d → hd' c = hI (dtH d c)) → Q hd') : wX0_settleHeeds hd nc Q := by
  have hm7 := ok.1
  unfold wX0_settleHeeds
  have key : ∀ r i hd1, i + r = tM d → (∀ c, c < i → hd1 c = hI (dtH d c)) → (∀ c, i ≤ c → c < tM d → hd1 c = nI (tR d c)) → wX0_settleHeeds_L2 nc Q (r + 1) (nI i) hd1 := by
    intro r
    induction r with
    | zero =>
      intro i hd1 hi g1 g2
      have hi : i = tM d := by omega
      unfold wX0_settleHeeds_L2
      rw [h.1]
      exact ifp (by rw [hi]; exact Int32.le_refl _) (hQ _ (fun c hc => g1 c (by omega)))
    | succ r ih =>
      intro i hd1 hi g1 g2
      have hR := (ok.2.2.1 i (by omega)).2
      unfold wX0_settleHeeds_L2
      rw [h.1, ifF (by simp (disch := omega) only [zl_0, zl_1, zl_2, zl_3, zl_4, zl_5, zl_6, zl_7, zl_8, zl_9, zl_10, zl_14, zl_16, zl_20, zl_24, zl_32, zl_40, zl_42, zl_44, zl_48, zl_56, zl_57, zl_59, zl_60, zl_61, zl_64, zl_99, zl_100, zl_110, zl_126, zl_128, zl_200, zl_392, zl_999, zl_9999, nI_add, pk_mul, nI_leI, nI_ltI, nI_eq, nI_clamp, vpn, pk_sub]; omega), e_of (by omega) (by decide), g2 i (Nat.le_refl _) (by omega), nI_1, ← h.1]
      have next : ∀ x, x = hI (dtH d i) → wX0_settleHeeds_L2 nc Q (r + 1) (nI (i + 1)) (upd hd1 i x) := by
        intro x hx
        refine ih (i + 1) _ (by omega) (fun c hc => ?_) (fun c hc hc2 => ?_)
        · by_cases e : c = i
          · rw [e, upd_at]; exact hx
          · rw [upd_ne _ _ e]; exact g1 c (by omega)
        · rw [upd_ne _ _ (by omega)]; exact g2 c (by omega) hc2
      by_cases e1 : tR d i = i
      · refine ifp (by rw [e1]) ?_
        rw [e_put (by omega) (by decide)]
        refine next _ ?_
        unfold dtH rfH hI
        rw [if_pos (Or.inr e1), if_pos rfl]
      · refine ifn (fun g => e1 ((nI_eq (by omega) (by omega)).mp g)) ?_
        rw [h.1]
        by_cases e2 : tR d i < tM d
        · rw [e_isC_T e2 (by omega), ← h.1]
          refine ifn (by decide) ?_
          have g := next (hd1 i) (by
            rw [g2 i (Nat.le_refl _) (by omega)]
            unfold dtH rfH hI
            rw [if_neg (show ¬ (tM d ≤ tR d i ∨ tR d i = i) by omega), if_neg (show ¬ tR d i = 9 by omega)])
          rw [upd_self] at g
          exact g
        · rw [e_isC_F (fun ⟨q, q1, q2⟩ => e2 (by have := (nI_eq (by omega) (by omega)).mp q2; omega)) (by omega), e_put (by omega) (by decide), ← h.1]
          refine ifp rfl (next _ ?_)
          unfold dtH rfH hI
          rw [if_pos (Or.inl (by omega)), if_pos rfl]
  exact ⟨tM d + 1, key (tM d) 0 hd (by omega) (fun c hc => absurd hc (Nat.not_lt_zero _)) (fun c _ hc => (h.2.2.1 c hc).2.1)⟩
/-- a told court as the class holds it -/
def cS (d : DT) (kd hd pl st ho be : Nat → Int32) (nc nn dy : Int32) : Prop := ctC (tM d) (tK d) (tC d) (dtH d) (dtD d) kd hd pl st ho be nc nn dy
theorem cS_of {hd' : Nat → Int32} (h : cR d kd hd pl st ho be nc nn) (ok : okR d) (h2 : ∀ c, c < tM d → hd' c = hI (dtH d c)) : cS d kd hd' pl st ho be nc nn 0 := by
  have hm7 := ok.1
  have hk6 := ok.2.1
  refine ⟨h.1, h.2.1, rfl, fun c hc => ⟨(h.2.2.1 c hc).1, h2 c hc, (h.2.2.1 c hc).2.2.1, (h.2.2.1 c hc).2.2.2⟩, fun n hn => ⟨h.2.2.2.1 n hn, fun c hc => h.2.2.2.2 n (by omega) c (by omega)⟩⟩
def clsL (tl : Nat → Int32) (tn : Int32) (r j : Nat) (d : DT) (O : (Int32 → Int32 → (Nat → Int32) → (Nat → Int32) → (Nat → Int32) → (Nat → Int32) → (Nat → Int32) → (Nat → Int32) → Int32 → Int32 → Int32 → Prop) → Prop) : Prop := ∀ Q, O Q → ∀ it kd hd pl st ho be nc nn, it ≤ j → cR d kd hd pl st ho be nc nn → wX4_readInto_L11 tl tn 0 Q (r + 1) (nI it) (nI j) kd hd pl st ho be nc nn
def mdlL (mt : Nat → Int32) (my : Int32) (r j : Nat) (d : DT) (O : (Int32 → (Nat → Int32) → (Nat → Int32) → Int32 → Prop) → Prop) : Prop := ∀ Q, O Q → ∀ md mb, mR d md mb → wX6_readsAll_L9 mt my Q (r + 1) md mb (nI j)
theorem rd_all (hz : okX T) (hc : ctX T tl tn) (hr : ctX T mt my) : ∀ r j d, T.length ≤ j + r → j < 290 → okR d →
    (∃ p, p < 200 ∧ clsL tl tn r j d (fun Q => ∀ tc a b c e f g h i k, Q (nI p) tc a b c e f g h i k) ∧ mdlL mt my r j d (fun Q => ∀ a b c, Q (nI p) a b c)) ∨
    (∃ d', okR d' ∧ clsL tl tn r j d (fun Q => ∀ tc a b c e f g h i k, cS d' a b c e f g h i k → Q (-4) tc a b c e f g h i k) ∧ mdlL mt my r j d (fun Q => ∀ a b c, mR d' a b → Q (-4) a b c)) := by
  have hl := hz.1
  have done : ∀ r j d, T.length ≤ j → j < 290 → okR d → (∃ d', okR d' ∧ clsL tl tn r j d (fun Q => ∀ tc a b c e f g h i k, cS d' a b c e f g h i k → Q (-4) tc a b c e f g h i k) ∧ mdlL mt my r j d (fun Q => ∀ a b c, mR d' a b → Q (-4) a b c)) := by
    intro r j d hj hj2 ok
    refine ⟨d, ok, ?_, ?_⟩
    · intro Q hQ it kd hd pl st ho be nc nn hit h
      unfold wX4_readInto_L11
      have fin : wX0_settleHeeds hd nc (fun hd_22 => (Q (-4 : Int32) (nI j) kd hd_22 pl st ho be nc nn 0)) := s_settle h ok (fun hd' g => hQ _ _ _ _ _ _ _ _ _ _ (cS_of h ok g))
      by_cases g : (200 : Int32) ≤ nI it
      · exact ifp g fin
      · exact ifn g (ifp (by rw [hc.1]; simp (disch := omega) only [zl_0, zl_1, zl_2, zl_3, zl_4, zl_5, zl_6, zl_7, zl_8, zl_9, zl_10, zl_14, zl_16, zl_20, zl_24, zl_32, zl_40, zl_42, zl_44, zl_48, zl_56, zl_57, zl_59, zl_60, zl_61, zl_64, zl_99, zl_100, zl_110, zl_126, zl_128, zl_200, zl_392, zl_999, zl_9999, nI_add, pk_mul, nI_leI, nI_ltI, nI_eq, nI_clamp, vpn, pk_sub]; omega) fin)
    · intro Q hQ md mb h
      unfold wX6_readsAll_L9
      exact ifp (by rw [hr.1]; simp (disch := omega) only [zl_0, zl_1, zl_2, zl_3, zl_4, zl_5, zl_6, zl_7, zl_8, zl_9, zl_10, zl_14, zl_16, zl_20, zl_24, zl_32, zl_40, zl_42, zl_44, zl_48, zl_56, zl_57, zl_59, zl_60, zl_61, zl_64, zl_99, zl_100, zl_110, zl_126, zl_128, zl_200, zl_392, zl_999, zl_9999, nI_add, pk_mul, nI_leI, nI_ltI, nI_eq, nI_clamp, vpn, pk_sub]; omega) (hQ _ _ _ h)
  intro r
  induction r with
  | zero =>
    intro j d hj hj2 ok
    exact Or.inr (done 0 j d (by omega) hj2 ok)
  | succ r ih =>
    intro j d hj hj2 ok
    by_cases hlen : T.length ≤ j
    · exact Or.inr (done (r + 1) j d hlen hj2 ok)
    have hin := ltr_in hz (j := j) (by omega)
    have v99 : (99 : Int32) = nI 99 := rfl
    have v110 : (110 : Int32) = nI 110 := rfl
    have v200 : (200 : Int32) = nI 200 := rfl
    have hm7 := ok.1
    -- one item of either side
    have cls : ∀ {Q : Int32 → Int32 → (Nat → Int32) → (Nat → Int32) → (Nat → Int32) → (Nat → Int32) → (Nat → Int32) → (Nat → Int32) → Int32 → Int32 → Int32 → Prop} {it kd hd pl st ho be nc nn}, it ≤ j → wX4_readItem tl tn (nI j) kd hd pl st ho be nc nn (fun r_25 tc_26 kd_27 hd_28 pl_29 st_30 ho_31 be_32 nc_33 nn_34 => ((r_25 = 0 → (Q (nI j) tc_26 kd_27 hd_28 pl_29 st_30 ho_31 be_32 nc_33 nn_34 0)) ∧ (¬ r_25 = 0 → (wX4_readInto_L11 tl tn 0 Q (r + 1) (nI (it + 1)) tc_26 kd_27 hd_28 pl_29 st_30 ho_31 be_32 nc_33 nn_34)))) → wX4_readInto_L11 tl tn 0 Q (r + 1 + 1) (nI it) (nI j) kd hd pl st ho be nc nn := by
      intro Q it kd hd pl st ho be nc nn hit h
      unfold wX4_readInto_L11
      rw [v200, ifF (by simp (disch := omega) only [zl_0, zl_1, zl_2, zl_3, zl_4, zl_5, zl_6, zl_7, zl_8, zl_9, zl_10, zl_14, zl_16, zl_20, zl_24, zl_32, zl_40, zl_42, zl_44, zl_48, zl_56, zl_57, zl_59, zl_60, zl_61, zl_64, zl_99, zl_100, zl_110, zl_126, zl_128, zl_200, zl_392, zl_999, zl_9999, nI_add, pk_mul, nI_leI, nI_ltI, nI_eq, nI_clamp, vpn, pk_sub]; omega), hc.1, ifF (by simp (disch := omega) only [zl_0, zl_1, zl_2, zl_3, zl_4, zl_5, zl_6, zl_7, zl_8, zl_9, zl_10, zl_14, zl_16, zl_20, zl_24, zl_32, zl_40, zl_42, zl_44, zl_48, zl_56, zl_57, zl_59, zl_60, zl_61, zl_64, zl_99, zl_100, zl_110, zl_126, zl_128, zl_200, zl_392, zl_999, zl_9999, nI_add, pk_mul, nI_leI, nI_ltI, nI_eq, nI_clamp, vpn, pk_sub]; omega), nI_1, ← hc.1]
      exact h
    have mdl : ∀ {Q : Int32 → (Nat → Int32) → (Nat → Int32) → Int32 → Prop} {md mb}, ((nI (ltr T j) = (99 : Int32) → (wX6_readsCourtier mt my md mb (nI (j + 1)) (fun r_29 md_30 mb_31 ma_32 => ((r_29 = 0 → (Q (nI j) md_30 mb_31 ma_32)) ∧ (¬ r_29 = 0 → (wX6_readsAll_L9 mt my Q (r + 1) md_30 mb_31 ma_32)))))) ∧ (¬ nI (ltr T j) = (99 : Int32) → ((nI (ltr T j) = (110 : Int32) → (wX6_readsNews mt my md mb (nI (j + 1)) (fun r_23 md_24 mb_25 ma_26 => ((r_23 = 0 → (Q (nI j) md_24 mb_25 ma_26)) ∧ (¬ r_23 = 0 → (wX6_readsAll_L9 mt my Q (r + 1) md_24 mb_25 ma_26)))))) ∧ (¬ nI (ltr T j) = (110 : Int32) → (Q (nI j) md mb (nI (j + 1))))))) → wX6_readsAll_L9 mt my Q (r + 1 + 1) md mb (nI j) := by
      intro Q md mb h
      unfold wX6_readsAll_L9
      rw [hr.1, ifF (by simp (disch := omega) only [zl_0, zl_1, zl_2, zl_3, zl_4, zl_5, zl_6, zl_7, zl_8, zl_9, zl_10, zl_14, zl_16, zl_20, zl_24, zl_32, zl_40, zl_42, zl_44, zl_48, zl_56, zl_57, zl_59, zl_60, zl_61, zl_64, zl_99, zl_100, zl_110, zl_126, zl_128, zl_200, zl_392, zl_999, zl_9999, nI_add, pk_mul, nI_leI, nI_ltI, nI_eq, nI_clamp, vpn, pk_sub]; omega), nI_clamp (by omega), vpn (by omega), nmx, hr.2 j _ hin.1, nI_1, ← hr.1]
      exact ⟨by omega, h⟩
    by_cases h99 : ltr T j = 99
    · have m99 : nI (ltr T j) = (99 : Int32) := by rw [h99]; rfl
      have item : ∀ {kd hd pl st ho be nc nn Q}, wX4_readCourtier tl tn (nI (j + 1)) kd hd pl st nc (fun r_16 tc_17 kd_18 hd_19 pl_20 st_21 nc_22 => (Q r_16 tc_17 kd_18 hd_19 pl_20 st_21 ho be nc_22 nn)) → wX4_readItem tl tn (nI j) kd hd pl st ho be nc nn Q := by
        intro kd hd pl st ho be nc nn Q h
        unfold wX4_readItem
        rw [v99, e_takes hz hc (by omega) (by omega), if_pos h99]
        exact ifn (by decide) h
      by_cases hok : cOK T (j + 1) (tM d)
      · have b1 := nmE_b T (j + 1)
        have b2 := nmE_b T (nmE T (j + 1) + 1)
        have ok2 : okR (addC d (nmV T (j + 1)) (nmV T (nmE T (j + 1) + 1))) := addC_ok ok hok.2.2.2.2.2.2 hok.2.1 hok.2.2.2.2.1
        refine (ih (nmE T (nmE T (j + 1) + 1) + 1) _ (by omega) (by omega) ok2).imp ?_ ?_
        · rintro ⟨p, p1, p2, p3⟩
          refine ⟨p, p1, fun Q hQ it kd hd pl st ho be nc nn hit h => cls hit (item (s_rc hz hc (by omega) h ok (fun g => absurd hok g) (fun _ a b c e f g => ifn (by decide) (p2 Q hQ _ _ _ _ _ _ _ _ _ (by omega) g)))), fun Q hQ md mb h => mdl (ifp m99 (r_rc hz hr (by omega) h ok (fun g => absurd hok g) (fun _ a b g => ifn (by decide) (p3 Q hQ _ _ g))))⟩
        · rintro ⟨p, p1, p2, p3⟩
          refine ⟨p, p1, fun Q hQ it kd hd pl st ho be nc nn hit h => cls hit (item (s_rc hz hc (by omega) h ok (fun g => absurd hok g) (fun _ a b c e f g => ifn (by decide) (p2 Q hQ _ _ _ _ _ _ _ _ _ (by omega) g)))), fun Q hQ md mb h => mdl (ifp m99 (r_rc hz hr (by omega) h ok (fun g => absurd hok g) (fun _ a b g => ifn (by decide) (p3 Q hQ _ _ g))))⟩
      · left
        exact ⟨j, by omega, fun Q hQ it kd hd pl st ho be nc nn hit h => cls hit (item (s_rc hz hc (by omega) h ok (fun _ tc a b c e f => ifp rfl (hQ _ _ _ _ _ _ _ _ _ _)) (fun g => absurd g hok))), fun Q hQ md mb h => mdl (ifp m99 (r_rc hz hr (by omega) h ok (fun _ a b c => ifp rfl (hQ _ _ _)) (fun g => absurd g hok)))⟩
    · have m99 : ¬ nI (ltr T j) = (99 : Int32) := fun g => h99 ((nI_eq (b := 99) (by omega) (by omega)).mp g)
      by_cases h110 : ltr T j = 110
      · have m110 : nI (ltr T j) = (110 : Int32) := by rw [h110]; rfl
        have item : ∀ {kd hd pl st ho be nc nn} {Q : Int32 → Int32 → (Nat → Int32) → (Nat → Int32) → (Nat → Int32) → (Nat → Int32) → (Nat → Int32) → (Nat → Int32) → Int32 → Int32 → Prop}, wX4_readNews tl tn (nI (j + 1)) ho be nc nn (fun r_9 tc_10 ho_11 be_12 nn_13 => ((r_9 = 0 → (Q (0 : Int32) tc_10 kd hd pl st ho_11 be_12 nc nn_13)) ∧ (¬ r_9 = 0 → (Q (1 : Int32) tc_10 kd hd pl st ho_11 be_12 nc nn_13)))) → wX4_readItem tl tn (nI j) kd hd pl st ho be nc nn Q := by
          intro kd hd pl st ho be nc nn Q h
          unfold wX4_readItem
          rw [v99, e_takes hz hc (by omega) (by omega), if_neg h99, v110, ifT rfl, e_takes hz hc (by omega) (by omega), if_pos h110]
          exact ifn (by decide) h
        by_cases hok : nOK T (j + 1) (tM d) (tK d)
        · have b1 := nmE_b T (j + 1)
          have ok2 : okR (addN d (nmV T (j + 1)) (fun c => ltr T (nmE T (j + 1) + 1 + c) - 48)) := addN_ok ok hok.2.2.2.1 hok.2.1 (fun c hc2 => by
            have := (hok.2.2.2.2.1 c hc2).2
            show ltr T (nmE T (j + 1) + 1 + c) - 48 ≤ 9
            omega)
          refine (ih (nmE T (j + 1) + 1 + tM d + 1) _ (by omega) (by omega) ok2).imp ?_ ?_
          · rintro ⟨p, p1, p2, p3⟩
            refine ⟨p, p1, fun Q hQ it kd hd pl st ho be nc nn hit h => cls hit (item (s_rn hz hc (by omega) h ok (fun g => absurd hok g) (fun _ a b c g => ifn (by decide) (ifn (by decide) (p2 Q hQ _ _ _ _ _ _ _ _ _ (by omega) g))))), fun Q hQ md mb h => mdl (ifn m99 (ifp m110 (r_rn hz hr (by omega) h ok (fun g => absurd hok g) (fun _ a b g => ifn (by decide) (p3 Q hQ _ _ g)))))⟩
          · rintro ⟨p, p1, p2, p3⟩
            refine ⟨p, p1, fun Q hQ it kd hd pl st ho be nc nn hit h => cls hit (item (s_rn hz hc (by omega) h ok (fun g => absurd hok g) (fun _ a b c g => ifn (by decide) (ifn (by decide) (p2 Q hQ _ _ _ _ _ _ _ _ _ (by omega) g))))), fun Q hQ md mb h => mdl (ifn m99 (ifp m110 (r_rn hz hr (by omega) h ok (fun g => absurd hok g) (fun _ a b g => ifn (by decide) (p3 Q hQ _ _ g)))))⟩
        · left
          exact ⟨j, by omega, fun Q hQ it kd hd pl st ho be nc nn hit h => cls hit (item (s_rn hz hc (by omega) h ok (fun _ tc a b c => ifp rfl (ifp rfl (hQ _ _ _ _ _ _ _ _ _ _))) (fun g => absurd g hok))), fun Q hQ md mb h => mdl (ifn m99 (ifp m110 (r_rn hz hr (by omega) h ok (fun _ a b c => ifp rfl (hQ _ _ _)) (fun g => absurd g hok))))⟩
      · have m110 : ¬ nI (ltr T j) = (110 : Int32) := fun g => h110 ((nI_eq (b := 110) (by omega) (by omega)).mp g)
        left
        refine ⟨j, by omega, fun Q hQ it kd hd pl st ho be nc nn hit h => cls hit ?_, fun Q hQ md mb h => mdl (ifn m99 (ifn m110 (hQ _ _ _)))⟩
        unfold wX4_readItem
        rw [v99, e_takes hz hc (by omega) (by omega), if_neg h99, v110, ifT rfl, e_takes hz hc (by omega) (by omega), if_neg h110]
        exact ifp rfl (ifp rfl (hQ _ _ _ _ _ _ _ _ _ _))
theorem s_clear {Q : (Nat → Int32) → Int32 → Int32 → Int32 → Prop} (hQ : ∀ be', (∀ i, i < 42 → be' i = 0) → Q be' 0 0 0) : wX0_clear be Q := by
  have v42 : (42 : Int32) = nI 42 := rfl
  have key : ∀ r i be1, i + r = 42 → (∀ j, j < i → be1 j = 0) → wX0_clear_L2 Q (r + 1) (nI i) be1 := by
    intro r
    induction r with
    | zero =>
      intro i be1 hi h1
      have hi : i = 42 := by omega
      subst hi
      unfold wX0_clear_L2
      exact ifp (by decide) (hQ _ h1)
    | succ r ih =>
      intro i be1 hi h1
      unfold wX0_clear_L2
      rw [v42, ifF (by simp (disch := omega) only [zl_0, zl_1, zl_2, zl_3, zl_4, zl_5, zl_6, zl_7, zl_8, zl_9, zl_10, zl_14, zl_16, zl_20, zl_24, zl_32, zl_40, zl_42, zl_44, zl_48, zl_56, zl_57, zl_59, zl_60, zl_61, zl_64, zl_99, zl_100, zl_110, zl_126, zl_128, zl_200, zl_392, zl_999, zl_9999, nI_add, pk_mul, nI_leI, nI_ltI, nI_eq, nI_clamp, vpn, pk_sub]; omega), nI_clamp (by omega), vpn (by omega), nI_1]
      refine ⟨by omega, ih (i + 1) _ (by omega) (fun j hj => ?_)⟩
      by_cases e : j = i
      · rw [e, upd_at]
      · rw [upd_ne _ _ e]; exact h1 j (by omega)
  exact ⟨43, key 42 0 be (by omega) (fun j hj => absurd hj (Nat.not_lt_zero _))⟩
theorem r_begins {Q : (Nat → Int32) → (Nat → Int32) → Prop} (hQ : ∀ md' mb', (∀ i, i < 16 → md' i = 0) → (∀ i, i < 56 → mb' i = 0) → Q md' mb') : wX6_begins md mb Q := by
  have v16 : (16 : Int32) = nI 16 := rfl
  have v56 : (56 : Int32) = nI 56 := rfl
  have two : ∀ md1, (∀ i, i < 16 → md1 i = 0) → ∃ f, wX6_begins_L23 md1 Q f 0 mb := by
    intro md1 g
    have key : ∀ r i mb1, i + r = 56 → (∀ j, j < i → mb1 j = 0) → wX6_begins_L23 md1 Q (r + 1) (nI i) mb1 := by
      intro r
      induction r with
      | zero =>
        intro i mb1 hi h1
        have hi : i = 56 := by omega
        subst hi
        unfold wX6_begins_L23
        exact ifp (by decide) (hQ _ _ g h1)
      | succ r ih =>
        intro i mb1 hi h1
        unfold wX6_begins_L23
        rw [v56, ifF (by simp (disch := omega) only [zl_0, zl_1, zl_2, zl_3, zl_4, zl_5, zl_6, zl_7, zl_8, zl_9, zl_10, zl_14, zl_16, zl_20, zl_24, zl_32, zl_40, zl_42, zl_44, zl_48, zl_56, zl_57, zl_59, zl_60, zl_61, zl_64, zl_99, zl_100, zl_110, zl_126, zl_128, zl_200, zl_392, zl_999, zl_9999, nI_add, pk_mul, nI_leI, nI_ltI, nI_eq, nI_clamp, vpn, pk_sub]; omega), nI_clamp (by omega), vpn (by omega), nI_1]
        refine ⟨by omega, ih (i + 1) _ (by omega) (fun j hj => ?_)⟩
        by_cases e : j = i
        · rw [e, upd_at]
        · rw [upd_ne _ _ e]; exact h1 j (by omega)
    exact ⟨57, key 56 0 mb (by omega) (fun j hj => absurd hj (Nat.not_lt_zero _))⟩
  have key : ∀ r i md1, i + r = 16 → (∀ j, j < i → md1 j = 0) → wX6_begins_L2 (fun md_3 => (∃ n_6 : Nat, wX6_begins_L23 md_3 Q n_6 (0 : Int32) mb)) (r + 1) (nI i) md1 := by
    intro r
    induction r with
    | zero =>
      intro i md1 hi h1
      have hi : i = 16 := by omega
      subst hi
      unfold wX6_begins_L2
      exact ifp (by decide) (two _ h1)
    | succ r ih =>
      intro i md1 hi h1
      unfold wX6_begins_L2
      rw [v16, ifF (by simp (disch := omega) only [zl_0, zl_1, zl_2, zl_3, zl_4, zl_5, zl_6, zl_7, zl_8, zl_9, zl_10, zl_14, zl_16, zl_20, zl_24, zl_32, zl_40, zl_42, zl_44, zl_48, zl_56, zl_57, zl_59, zl_60, zl_61, zl_64, zl_99, zl_100, zl_110, zl_126, zl_128, zl_200, zl_392, zl_999, zl_9999, nI_add, pk_mul, nI_leI, nI_ltI, nI_eq, nI_clamp, vpn, pk_sub]; omega), nI_clamp (by omega), vpn (by omega), nI_1]
      refine ⟨by omega, ih (i + 1) _ (by omega) (fun j hj => ?_)⟩
      by_cases e : j = i
      · rw [e, upd_at]
      · rw [upd_ne _ _ e]; exact h1 j (by omega)
  exact ⟨17, key 16 0 md (by omega) (fun j hj => absurd hj (Nat.not_lt_zero _))⟩
def dt0 : DT := (0, 0, (fun _ => 0), (fun _ => 0), (fun _ => 0), fun _ _ => 0)
theorem dt0_ok : okR dt0 := ⟨by decide, by decide, fun c hc => absurd hc (Nat.not_lt_zero _), fun n hn => absurd hn (Nat.not_lt_zero _), fun _ _ => Nat.zero_le _, fun _ _ _ => rfl, fun _ _ _ => rfl⟩
/-- the reading of the whole text by either side -/
theorem rd_text (hz : okX T) (hc : ctX T tl tn) (hr : ctX T mt my) :
    (∃ p, p < 200 ∧ (∀ kt ht pt tt ot bt (Q : Int32 → Int32 → (Nat → Int32) → (Nat → Int32) → (Nat → Int32) → (Nat → Int32) → (Nat → Int32) → (Nat → Int32) → Int32 → Int32 → Int32 → Prop), (∀ tc a b c e f g h i k, Q (nI p) tc a b c e f g h i k) → wX4_readInto tl tn kt ht pt tt ot bt Q) ∧
      (∀ md mb (Q : Int32 → (Nat → Int32) → (Nat → Int32) → Int32 → Prop), (∀ a b c, Q (nI p) a b c) → wX6_readsAll mt my md mb Q)) ∨
    (∃ d, okR d ∧ (∀ kt ht pt tt ot bt (Q : Int32 → Int32 → (Nat → Int32) → (Nat → Int32) → (Nat → Int32) → (Nat → Int32) → (Nat → Int32) → (Nat → Int32) → Int32 → Int32 → Int32 → Prop), (∀ tc a b c e f g h i k, cS d a b c e f g h i k → Q (-4) tc a b c e f g h i k) → wX4_readInto tl tn kt ht pt tt ot bt Q) ∧
      (∀ md mb (Q : Int32 → (Nat → Int32) → (Nat → Int32) → Int32 → Prop), (∀ a b c, mR d a b → Q (-4) a b c) → wX6_readsAll mt my md mb Q)) := by
  have hl := hz.1
  have st : ∀ (O : (Int32 → Int32 → (Nat → Int32) → (Nat → Int32) → (Nat → Int32) → (Nat → Int32) → (Nat → Int32) → (Nat → Int32) → Int32 → Int32 → Int32 → Prop) → Prop), clsL tl tn 200 0 dt0 O → ∀ kt ht pt tt ot bt Q, O Q → wX4_readInto tl tn kt ht pt tt ot bt Q := by
    intro O h kt ht pt tt ot bt Q hQ
    unfold wX4_readInto
    refine s_clear (fun be' g => ⟨201, ?_⟩)
    exact h Q hQ 0 kt ht pt tt ot be' 0 0 (Nat.le_refl _) ⟨rfl, rfl, fun c hc2 => absurd hc2 (Nat.not_lt_zero _), fun n hn => absurd hn (Nat.not_lt_zero _), fun n hn c hc2 => g _ (by omega)⟩
  have sr : ∀ (O : (Int32 → (Nat → Int32) → (Nat → Int32) → Int32 → Prop) → Prop), mdlL mt my 200 0 dt0 O → ∀ md mb Q, O Q → wX6_readsAll mt my md mb Q := by
    intro O h md mb Q hQ
    unfold wX6_readsAll
    refine r_begins (fun md' mb' g1 g2 => ⟨201, ?_⟩)
    exact h Q hQ md' mb' ⟨g1 0 (by omega), g1 1 (by omega), fun c hc2 => absurd hc2 (Nat.not_lt_zero _), fun n hn => absurd hn (Nat.not_lt_zero _), fun n hn c hc2 => g2 _ (by omega), g2 0 (by omega)⟩
  rcases rd_all hz hc hr 200 0 dt0 (by omega) (by omega) dt0_ok with ⟨p, p1, p2, p3⟩ | ⟨d, p1, p2, p3⟩
  · exact Or.inl ⟨p, p1, fun kt ht pt tt ot bt Q hQ => st _ p2 kt ht pt tt ot bt Q hQ, fun md mb Q hQ => sr _ p3 md mb Q hQ⟩
  · exact Or.inr ⟨d, p1, fun kt ht pt tt ot bt Q hQ => st _ p2 kt ht pt tt ot bt Q hQ, fun md mb Q hQ => sr _ p3 md mb Q hQ⟩
theorem sim_fault {kt ht pt tt ot bt : Nat → Int32} (hz : okX T) (hc : ctX T tl tn) (hr : ctX T mt my) :
    ∃ r : Int32, (∀ Q : Int32 → Int32 → (Nat → Int32) → (Nat → Int32) → (Nat → Int32) → (Nat → Int32) → (Nat → Int32) → (Nat → Int32) → Int32 → Int32 → Int32 → Prop, (∀ tc a b c e f g h i k, Q r tc a b c e f g h i k) → wX5_fault tl tn kt ht pt tt ot bt Q) ∧
      (∀ Q : Int32 → (Nat → Int32) → (Nat → Int32) → Int32 → Prop, (∀ a b c, Q r a b c) → wX6_fault mt my md mb Q) := by
  rcases rd_text hz hc hr with ⟨p, _, p2, p3⟩ | ⟨d, _, p2, p3⟩
  · exact ⟨nI p, fun Q hQ => p2 _ _ _ _ _ _ _ hQ, fun Q hQ => p3 _ _ _ hQ⟩
  · exact ⟨-4, fun Q hQ => p2 _ _ _ _ _ _ _ (fun tc a b c e f g h i k _ => hQ _ _ _ _ _ _ _ _ _ _), fun Q hQ => p3 _ _ _ (fun a b c _ => hQ _ _ _)⟩
theorem r_lays {Q : (Nat → Int32) → (Nat → Int32) → Int32 → Int32 → Int32 → Prop} (hQ : ∀ mo' ms', (∀ i, i < 16 → mo' i = md i) → (∀ i, i < 56 → ms' i = mb i) → Q mo' ms' 0 0 0) : wX6_lays mo md mb ms Q := by
  have v16 : (16 : Int32) = nI 16 := rfl
  have v56 : (56 : Int32) = nI 56 := rfl
  have two : ∀ mo1, (∀ i, i < 16 → mo1 i = md i) → ∃ f, wX6_lays_L28 mo1 mb Q f 0 ms := by
    intro mo1 g
    have key : ∀ r i ms1, i + r = 56 → (∀ j, j < i → ms1 j = mb j) → wX6_lays_L28 mo1 mb Q (r + 1) (nI i) ms1 := by
      intro r
      induction r with
      | zero =>
        intro i ms1 hi h1
        have hi : i = 56 := by omega
        subst hi
        unfold wX6_lays_L28
        exact ifp (by decide) (hQ _ _ g h1)
      | succ r ih =>
        intro i ms1 hi h1
        unfold wX6_lays_L28
        rw [v56, ifF (by simp (disch := omega) only [zl_0, zl_1, zl_2, zl_3, zl_4, zl_5, zl_6, zl_7, zl_8, zl_9, zl_10, zl_14, zl_16, zl_20, zl_24, zl_32, zl_40, zl_42, zl_44, zl_48, zl_56, zl_57, zl_59, zl_60, zl_61, zl_64, zl_99, zl_100, zl_110, zl_126, zl_128, zl_200, zl_392, zl_999, zl_9999, nI_add, pk_mul, nI_leI, nI_ltI, nI_eq, nI_clamp, vpn, pk_sub]; omega), nI_clamp (by omega), vpn (by omega), nI_1]
        refine ⟨by omega, by omega, ih (i + 1) _ (by omega) (fun j hj => ?_)⟩
        by_cases e : j = i
        · rw [e, upd_at]
        · rw [upd_ne _ _ e]; exact h1 j (by omega)
    exact ⟨57, key 56 0 ms (by omega) (fun j hj => absurd hj (Nat.not_lt_zero _))⟩
  have key : ∀ r i mo1, i + r = 16 → (∀ j, j < i → mo1 j = md j) → wX6_lays_L2 md (fun mo_3 => (∃ n_6 : Nat, wX6_lays_L28 mo_3 mb Q n_6 (0 : Int32) ms)) (r + 1) (nI i) mo1 := by
    intro r
    induction r with
    | zero =>
      intro i mo1 hi h1
      have hi : i = 16 := by omega
      subst hi
      unfold wX6_lays_L2
      exact ifp (by decide) (two _ h1)
    | succ r ih =>
      intro i mo1 hi h1
      unfold wX6_lays_L2
      rw [v16, ifF (by simp (disch := omega) only [zl_0, zl_1, zl_2, zl_3, zl_4, zl_5, zl_6, zl_7, zl_8, zl_9, zl_10, zl_14, zl_16, zl_20, zl_24, zl_32, zl_40, zl_42, zl_44, zl_48, zl_56, zl_57, zl_59, zl_60, zl_61, zl_64, zl_99, zl_100, zl_110, zl_126, zl_128, zl_200, zl_392, zl_999, zl_9999, nI_add, pk_mul, nI_leI, nI_ltI, nI_eq, nI_clamp, vpn, pk_sub]; omega), nI_clamp (by omega), vpn (by omega), nI_1]
      refine ⟨by omega, by omega, ih (i + 1) _ (by omega) (fun j hj => ?_)⟩
      by_cases e : j = i
      · rw [e, upd_at]
      · rw [upd_ne _ _ e]; exact h1 j (by omega)
  exact ⟨17, key 16 0 mo (by omega) (fun j hj => absurd hj (Nat.not_lt_zero _))⟩
theorem mR_rfM (ok : okR d) (h : mR d md mb) (he : ∀ i, i < 16 → mo i = md i) : rfM (tM d) (tK d) (tC d) (dtH d) mo := by
  have hm7 := ok.1
  refine ⟨by rw [he _ (by omega)]; exact h.1, by rw [he _ (by omega)]; exact h.2.1, fun c hc => ⟨by rw [he _ (by omega)]; exact (h.2.2.1 c hc).1, tR d c, ?_, by rw [he _ (by omega)]; exact (h.2.2.1 c hc).2.1, rfl⟩⟩
  have := (ok.2.2.1 c hc).2
  omega
theorem mR_rfD (ok : okR d) (h : mR d md mb) (he : ∀ i, i < 56 → ms i = mb i) : rfD (tM d) (tK d) (dtD d) ms := by
  have hm7 := ok.1
  have hk6 := ok.2.1
  refine ⟨by rw [he _ (by omega)]; exact h.2.2.2.2.2, fun c hc => by rw [he _ (by omega)]; exact (h.2.2.1 c hc).2.2, fun n hn => ⟨by rw [he _ (by omega)]; exact h.2.2.2.1 n hn, fun c hc => by rw [he _ (by omega)]; exact h.2.2.2.2.1 n (by omega) c (by omega)⟩, fun i h1 h2 h3 => ?_⟩
  have e : i = 14 + 7 * ((i - 14) / 7) + (i - 14) % 7 := by omega
  have g := h.2.2.2.2.1 ((i - 14) / 7) (by omega) ((i - 14) % 7) (by omega)
  rw [he i h2, e, g]
  by_cases q1 : (i - 14) / 7 < tK d
  · by_cases q2 : (i - 14) % 7 < tM d
    · exact absurd e (h3 _ q1 _ q2)
    · rw [ok.2.2.2.2.2.2 _ _ (by omega)]; rfl
  · rw [ok.2.2.2.2.2.1 _ (by omega) _]; rfl
theorem sim_lay {kt ht pt tt ot bt : Nat → Int32} {dy ru rk su mk mq mz : Int32} (hz : okX T) (hc : ctX T tl tn) (hr : ctX T mt my) :
    ((∀ Q : Int32 → Int32 → (Nat → Int32) → (Nat → Int32) → (Nat → Int32) → (Nat → Int32) → (Nat → Int32) → (Nat → Int32) → Int32 → Int32 → Int32 → (Nat → Int32) → (Nat → Int32) → (Nat → Int32) → (Nat → Int32) → (Nat → Int32) → (Nat → Int32) → Int32 → Int32 → Int32 → Int32 → Int32 → Int32 → Prop, (∀ tc a b c e f g h i k, Q (-2) tc kd hd pl st ho be nc nn dy a b c e f g h i k ru rk su) → wX5_lay tl tn kd hd pl st ho be nc nn dy kt ht pt tt ot bt ru rk su Q) ∧
      (∀ Q : Int32 → (Nat → Int32) → (Nat → Int32) → (Nat → Int32) → (Nat → Int32) → Int32 → Int32 → Int32 → Int32 → Prop, (∀ a b c, Q (-2) mo a b ms mk mq mz c) → wX6_lay mt my mo md mb ms mk mq mz Q)) ∨
    (∃ m k K H D, okD m k K H D ∧ dd D = 0 ∧
      (∀ Q : Int32 → Int32 → (Nat → Int32) → (Nat → Int32) → (Nat → Int32) → (Nat → Int32) → (Nat → Int32) → (Nat → Int32) → Int32 → Int32 → Int32 → (Nat → Int32) → (Nat → Int32) → (Nat → Int32) → (Nat → Int32) → (Nat → Int32) → (Nat → Int32) → Int32 → Int32 → Int32 → Int32 → Int32 → Int32 → Prop, (∀ tc kd' hd' pl' st' ho' be' nc' nn' dy' a b c e f g h i k', ctC m k K H D kd' hd' pl' st' ho' be' nc' nn' dy' → Q (nI m) tc kd' hd' pl' st' ho' be' nc' nn' dy' a b c e f g h i k' 0 0 0) → wX5_lay tl tn kd hd pl st ho be nc nn dy kt ht pt tt ot bt ru rk su Q) ∧
      (∀ Q : Int32 → (Nat → Int32) → (Nat → Int32) → (Nat → Int32) → (Nat → Int32) → Int32 → Int32 → Int32 → Int32 → Prop, (∀ mo' a b ms' c, rfM m k K H mo' → rfD m k D ms' → Q (nI m) mo' a b ms' 0 0 0 c) → wX6_lay mt my mo md mb ms mk mq mz Q)) := by
  have v1 : (1 : Int32) = nI 1 := rfl
  rcases rd_text hz hc hr with ⟨p, p1, p2, p3⟩ | ⟨d, ok, p2, p3⟩
  · left
    refine ⟨fun Q hQ => ?_, fun Q hQ => ?_⟩
    · unfold wX5_lay
      exact p2 _ _ _ _ _ _ _ (fun tc a b c e f g h i k => ifn (fun q => by
        have := congrArg Int32.toInt q
        rw [nI_toInt (by omega)] at this
        have e : (-4 : Int32).toInt = -4 := by decide
        rw [e] at this
        omega) (hQ _ _ _ _ _ _ _ _ _ _))
    · unfold wX6_lay
      exact p3 _ _ _ (fun a b c => ifn (fun q => by
        have := congrArg Int32.toInt q
        rw [nI_toInt (by omega)] at this
        have e : (-4 : Int32).toInt = -4 := by decide
        rw [e] at this
        omega) (hQ _ _ _))
  · have hm7 := ok.1
    have hk6 := ok.2.1
    by_cases g1 : 1 ≤ tM d ∧ 1 ≤ tK d
    · right
      refine ⟨tM d, tK d, tC d, dtH d, dtD d, dtD_ok ok g1.1 g1.2, rfl, fun Q hQ => ?_, fun Q hQ => ?_⟩
      · unfold wX5_lay
        refine p2 _ _ _ _ _ _ _ (fun tc a b c e f g h i k hs => ifp rfl ?_)
        have hs : ctC (tM d) (tK d) (tC d) (dtH d) (dtD d) a b c e f g h i k := hs
        refine ifn (by rw [hs.1, v1]; simp (disch := omega) only [zl_0, zl_1, zl_2, zl_3, zl_4, zl_5, zl_6, zl_7, zl_8, zl_9, zl_10, zl_14, zl_16, zl_20, zl_24, zl_32, zl_40, zl_42, zl_44, zl_48, zl_56, zl_57, zl_59, zl_60, zl_61, zl_64, zl_99, zl_100, zl_110, zl_126, zl_128, zl_200, zl_392, zl_999, zl_9999, nI_add, pk_mul, nI_leI, nI_ltI, nI_eq, nI_clamp, vpn, pk_sub]; omega) (ifp (by rw [hs.2.1, v1]; simp (disch := omega) only [zl_0, zl_1, zl_2, zl_3, zl_4, zl_5, zl_6, zl_7, zl_8, zl_9, zl_10, zl_14, zl_16, zl_20, zl_24, zl_32, zl_40, zl_42, zl_44, zl_48, zl_56, zl_57, zl_59, zl_60, zl_61, zl_64, zl_99, zl_100, zl_110, zl_126, zl_128, zl_200, zl_392, zl_999, zl_9999, nI_add, pk_mul, nI_leI, nI_ltI, nI_eq, nI_clamp, vpn, pk_sub]; omega) ?_)
        refine s_copy hm7 hk6 hs (fun kd' hd' pl' st' ho' be' hc2 => ?_)
        unfold wX2_clear wX3_clear
        have q := hQ tc kd' hd' pl' st' ho' be' h i k a b c e f g h i k hc2
        rw [← hs.1] at q
        exact q
      · unfold wX6_lay
        refine p3 _ _ _ (fun a b c hs => ifp rfl ?_)
        rw [hs.1, hs.2.1]
        refine ifn (fun q => by have := (nI_eq (b := 0) (by omega) (by omega)).mp q; omega) (ifn (fun q => by have := (nI_eq (b := 0) (by omega) (by omega)).mp q; omega) ?_)
        refine r_lays (fun mo' ms' q1 q2 => ?_)
        have hM := mR_rfM ok hs q1
        rw [hM.1]
        exact hQ _ _ _ _ _ hM (mR_rfD ok hs q2)
    · left
      refine ⟨fun Q hQ => ?_, fun Q hQ => ?_⟩
      · unfold wX5_lay
        refine p2 _ _ _ _ _ _ _ (fun tc a b c e f g h i k hs => ifp rfl ?_)
        have hs : ctC (tM d) (tK d) (tC d) (dtH d) (dtD d) a b c e f g h i k := hs
        by_cases q1 : tM d = 0
        · exact ifp (by rw [hs.1, q1]; decide) (hQ _ _ _ _ _ _ _ _ _ _)
        · refine ifn (by rw [hs.1, v1]; simp (disch := omega) only [zl_0, zl_1, zl_2, zl_3, zl_4, zl_5, zl_6, zl_7, zl_8, zl_9, zl_10, zl_14, zl_16, zl_20, zl_24, zl_32, zl_40, zl_42, zl_44, zl_48, zl_56, zl_57, zl_59, zl_60, zl_61, zl_64, zl_99, zl_100, zl_110, zl_126, zl_128, zl_200, zl_392, zl_999, zl_9999, nI_add, pk_mul, nI_leI, nI_ltI, nI_eq, nI_clamp, vpn, pk_sub]; omega) (ifn (by rw [hs.2.1, v1]; simp (disch := omega) only [zl_0, zl_1, zl_2, zl_3, zl_4, zl_5, zl_6, zl_7, zl_8, zl_9, zl_10, zl_14, zl_16, zl_20, zl_24, zl_32, zl_40, zl_42, zl_44, zl_48, zl_56, zl_57, zl_59, zl_60, zl_61, zl_64, zl_99, zl_100, zl_110, zl_126, zl_128, zl_200, zl_392, zl_999, zl_9999, nI_add, pk_mul, nI_leI, nI_ltI, nI_eq, nI_clamp, vpn, pk_sub]; omega) (hQ _ _ _ _ _ _ _ _ _ _))
      · unfold wX6_lay
        refine p3 _ _ _ (fun a b c hs => ifp rfl ?_)
        rw [hs.1, hs.2.1]
        by_cases q1 : tM d = 0
        · exact ifp (by rw [q1]; rfl) (hQ _ _ _)
        · exact ifn (fun q => by have := (nI_eq (b := 0) (by omega) (by omega)).mp q; omega) (ifp (by rw [show tK d = 0 by omega]; rfl) (hQ _ _ _))
end RD
