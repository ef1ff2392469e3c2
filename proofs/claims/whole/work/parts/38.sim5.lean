/-! the small calls -/
theorem pk_toInt_nI {x : Int32} {n : Nat} (hn : n < 1000) (h : ¬ (x.toInt < 0 ∨ (n : Int) < x.toInt)) : ∃ j, j ≤ n ∧ x = nI j := by
  refine ⟨x.toInt.toNat, by omega, ?_⟩
  have h0 : 0 ≤ x := Int32.le_iff_toInt_le.mpr (by have e : (0 : Int32).toInt = 0 := rfl; omega)
  obtain ⟨j, hj, hx⟩ := nI_of (fun g => Int32.not_lt.mpr h0 g)
  subst hx
  congr 1
  have := nI_toInt hj
  omega
section SIM
variable {m k : Nat} {K H : Nat → Nat} {D : Dy} {U V : List Dy} {kd hd pl st ho be : Nat → Int32} {nc nn dy : Int32} {sv sx : List CV} {mo ms mp mi mh : Nat → Int32}
theorem sim_swap (x y : Int32) (ok : okD m k K H D) (hd9 : dd D ≤ 999) (hc : ctC m k K H D kd hd pl st ho be nc nn dy) (hm : rfM m k K H mo) (hr : rfD m k D ms) (hl : U.length ≤ 8) (hU : okL m k K H U) (hsv : sv.length = 8) (hsc : shC m k K H U sv) (hsr : rfS m k U mp) :
    ∃ (r : Int32) (D' : Dy) (U' : List Dy), okD m k K H D' ∧ dd D' ≤ 999 ∧ U'.length ≤ 8 ∧ okL m k K H U' ∧
      (∀ Q : Int32 → (Nat → Int32) → (Nat → Int32) → Nat → List CV → Prop, (∀ pl' st' sv', ctC m k K H D' kd hd pl' st' ho be nc nn dy → sv'.length = 8 → shC m k K H U' sv' → Q r pl' st' U'.length sv') → wX5_swap x y kd hd pl st ho be nc nn dy U.length sv Q) ∧
      (∀ Q : Int32 → (Nat → Int32) → (Nat → Int32) → Int32 → Prop, (∀ ms' mp', rfD m k D' ms' → rfS m k U' mp' → Q r ms' mp' (nI U'.length)) → wX6_swap x y mo ms mp (nI U.length) Q) := by
  have hm7 := ok.1.2.1
  have hk6 := ok.2.2.1
  by_cases hx : ix x m
  · obtain ⟨c, c1, rfl⟩ := hx
    by_cases hy : ix y m
    · obtain ⟨d, d1, rfl⟩ := hy
      by_cases he : c = d
      · refine ⟨-1, D, U, ok, hd9, hl, hU, fun Q hQ => ?_, fun Q hQ => ?_⟩
        · unfold wX5_swap
          rw [hc.1, e_isC_T c1 (by omega), ifF (by decide), e_isC_T d1 (by omega), ifF (by decide), ifT (by rw [he])]
          exact hQ _ _ _ hc hsv hsc
        · unfold wX6_swap
          rw [r_isC_T hm.1 c1 (by omega), ifF (by decide), r_isC_T hm.1 d1 (by omega), ifF (by decide), ifT (by rw [he])]
          exact hQ _ _ hr hsr
      · refine ⟨nI (dP D d), swD D c d, pushD 8 U D, swD_ok ok c1 d1, hd9, (pushD_len hl (by omega)).2, okL_push hU ok hd9, fun Q hQ => ?_, fun Q hQ => ?_⟩
        · unfold wX5_swap
          rw [hc.1, e_isC_T c1 (by omega), ifF (by decide), e_isC_T d1 (by omega), ifF (by decide), ifF (by simp (disch := omega) only [zl_0, zl_1, zl_2, zl_3, zl_4, zl_5, zl_6, zl_7, zl_8, zl_9, zl_10, zl_14, zl_16, zl_20, zl_24, zl_32, zl_40, zl_42, zl_44, zl_48, zl_56, zl_57, zl_59, zl_60, zl_61, zl_64, zl_99, zl_100, zl_110, zl_126, zl_128, zl_200, zl_392, zl_999, zl_9999, nI_add, pk_mul, nI_leI, nI_ltI, nI_eq, nI_clamp, vpn, pk_sub]; exact he), e_changePlaces ok.1 hc.2.2.2.1 c1 d1, e_of (by omega) (by decide), upd_ne _ _ he, upd_at, ← (pushD_len (D := D) hl (by omega)).1, ← hc.1]
          exact hQ _ _ _ ⟨hc.1, hc.2.1, hc.2.2.1, swD_ctS ok.1 hc.2.2.2.1 c1 d1, hc.2.2.2.2⟩ (pushV_len hsv) (sh_push hm7 hk6 hl (by omega) hsv hsc hc)
        · unfold wX6_swap
          rw [r_isC_T hm.1 c1 (by omega), ifF (by decide), r_isC_T hm.1 d1 (by omega), ifF (by decide), ifF (by simp (disch := omega) only [zl_0, zl_1, zl_2, zl_3, zl_4, zl_5, zl_6, zl_7, zl_8, zl_9, zl_10, zl_14, zl_16, zl_20, zl_24, zl_32, zl_40, zl_42, zl_44, zl_48, zl_56, zl_57, zl_59, zl_60, zl_61, zl_64, zl_99, zl_100, zl_110, zl_126, zl_128, zl_200, zl_392, zl_999, zl_9999, nI_add, pk_mul, nI_leI, nI_ltI, nI_eq, nI_clamp, vpn, pk_sub]; exact he)]
          refine ref_keeps hm7 hk6 hl hr hsr (fun mp' g1 => ref_changes hm7 hr hk6 c1 d1 (fun ms' g2 => ?_))
          have e1 : (1 : Int32) + nI c = nI (1 + c) := nI_add 1 c
          rw [e1, nI_clamp (by omega), vpn (by omega), g2.2.1 c c1]
          refine ⟨by omega, ?_⟩
          have e2 : dP (swD D c d) c = dP D d := by
            show (if c = d then dP D c else if c = c then dP D d else dP D c) = _
            rw [if_neg he, if_pos rfl]
          rw [e2]
          exact hQ _ _ g2 g1
    · refine ⟨-1, D, U, ok, hd9, hl, hU, fun Q hQ => ?_, fun Q hQ => ?_⟩
      · unfold wX5_swap
        rw [hc.1, e_isC_T c1 (by omega), ifF (by decide), e_isC_F hy (by omega), ifT rfl]
        exact hQ _ _ _ hc hsv hsc
      · unfold wX6_swap
        rw [r_isC_T hm.1 c1 (by omega), ifF (by decide), r_isC_F hm.1 hy ok.1.1 (by omega), ifT rfl]
        exact hQ _ _ hr hsr
  · refine ⟨-1, D, U, ok, hd9, hl, hU, fun Q hQ => ?_, fun Q hQ => ?_⟩
    · unfold wX5_swap
      rw [hc.1, e_isC_F hx (by omega), ifT rfl]
      exact hQ _ _ _ hc hsv hsc
    · unfold wX6_swap
      rw [r_isC_F hm.1 hx ok.1.1 (by omega), ifT rfl]
      exact hQ _ _ hr hsr
theorem sim_undo (ok : okD m k K H D) (hd9 : dd D ≤ 999) (hc : ctC m k K H D kd hd pl st ho be nc nn dy) (hr : rfD m k D ms) (hl : U.length ≤ 8) (hU : okL m k K H U) (hsv : sv.length = 8) (hsc : shC m k K H U sv) (hsr : rfS m k U mp) :
    ∃ (r : Int32) (D' : Dy) (U' : List Dy), okD m k K H D' ∧ dd D' ≤ 999 ∧ U'.length ≤ 8 ∧ okL m k K H U' ∧
      (∀ Q : Int32 → (Nat → Int32) → (Nat → Int32) → (Nat → Int32) → (Nat → Int32) → (Nat → Int32) → (Nat → Int32) → Int32 → Int32 → Int32 → Nat → Prop, (∀ kd' hd' pl' st' ho' be' nc' nn' dy', ctC m k K H D' kd' hd' pl' st' ho' be' nc' nn' dy' → shC m k K H U' sv → Q r kd' hd' pl' st' ho' be' nc' nn' dy' U'.length) → wX5_undo kd hd pl st ho be nc nn dy U.length sv Q) ∧
      (∀ Q : Int32 → (Nat → Int32) → Int32 → Prop, (∀ ms', rfD m k D' ms' → rfS m k U' mp → Q r ms' (nI U'.length)) → wX6_undo ms mp (nI U.length) Q) := by
  have hm7 := ok.1.2.1
  have hk6 := ok.2.2.1
  by_cases h0 : U = []
  · subst h0
    refine ⟨-2, D, [], ok, hd9, by simp, hU, fun Q hQ => ?_, fun Q hQ => ?_⟩
    · unfold wX5_undo
      exact ifp rfl (hQ _ _ _ _ _ _ _ _ _ hc hsc)
    · unfold wX6_undo
      exact ifp rfl (hQ _ hr hsr)
  · have hlp : 0 < U.length := List.length_pos_iff.mpr h0
    have hlast := last_get U h0
    have hmem := List.getLast_mem h0
    refine ⟨nI (U.length - 1), U.getLast h0, U.dropLast, (hU _ hmem).1, (hU _ hmem).2, by rw [List.length_dropLast]; omega, okL_dl hU, fun Q hQ => ?_, fun Q hQ => ?_⟩
    · unfold wX5_undo
      rw [ifF (by omega), nmx]
      obtain ⟨v, g1, g2⟩ := hsc _ _ hlast
      have g3 : sv.getD (U.length - 1) (kd, hd, pl, st, ho, be, nc, nn, dy) = v := by
        rw [List.getD_eq_getElem?_getD, g1]
        rfl
      rw [g3]
      have g4 := hQ _ _ _ _ _ _ _ _ _ (ctV_cpy (w := (kd, hd, pl, st, ho, be, nc, nn, dy)) hm7 hk6 g2) (shC_dl hsc)
      rw [List.length_dropLast] at g4
      exact g4
    · unfold wX6_undo
      have e1 : nI U.length - 1 = nI (U.length - 1) := pk_sub (a := U.length) (b := 1) (by omega)
      rw [ifF (by simp (disch := omega) only [zl_0, zl_1, zl_2, zl_3, zl_4, zl_5, zl_6, zl_7, zl_8, zl_9, zl_10, zl_14, zl_16, zl_20, zl_24, zl_32, zl_40, zl_42, zl_44, zl_48, zl_56, zl_57, zl_59, zl_60, zl_61, zl_64, zl_99, zl_100, zl_110, zl_126, zl_128, zl_200, zl_392, zl_999, zl_9999, nI_add, pk_mul, nI_leI, nI_ltI, nI_eq, nI_clamp, vpn, pk_sub]; omega), e1]
      refine ref_undoL (by omega) (fun ms' g => ?_)
      have g4 := hQ ms' (rfD_eq hm7 hk6 (hsr _ _ hlast) g) (rfS_dl hsr)
      rw [List.length_dropLast] at g4
      exact g4
theorem sim_keep (ok : okD m k K H D) (hd9 : dd D ≤ 999) (hc : ctC m k K H D kd hd pl st ho be nc nn dy) (hr : rfD m k D ms) (hl : V.length ≤ 2) (hV : okL m k K H V) (hsx : sx.length = 2) (hsc : shC m k K H V sx) (hsr : rfS m k V mi) :
    ∃ (r : Int32) (V' : List Dy), V'.length ≤ 2 ∧ okL m k K H V' ∧
      (∀ Q : Int32 → Nat → List CV → Prop, (∀ sx', sx'.length = 2 → shC m k K H V' sx' → Q r V'.length sx') → wX5_keep kd hd pl st ho be nc nn dy V.length sx Q) ∧
      (∀ Q : Int32 → (Nat → Int32) → Int32 → Prop, (∀ mi', rfS m k V' mi' → Q r mi' (nI V'.length)) → wX6_keep ms mi (nI V.length) Q) := by
  have hm7 := ok.1.2.1
  have hk6 := ok.2.2.1
  by_cases h0 : V.length = 2
  · refine ⟨-3, V, hl, hV, fun Q hQ => ?_, fun Q hQ => ?_⟩
    · unfold wX5_keep
      rw [ifF (by rw [h0]; decide)]
      exact hQ _ hsx hsc
    · unfold wX6_keep
      rw [ifT (by rw [h0]; rfl)]
      exact hQ _ hsr
  · have hp : pushD 2 V D = V ++ [D] := by unfold pushD; rw [if_pos (by omega)]
    have hl2 : (pushD 2 V D).length = V.length + 1 := by rw [hp]; simp
    have hpk := (pushD_len (D := D) hl (by omega)).1
    refine ⟨nI (V.length + 1), pushD 2 V D, (pushD_len hl (by omega)).2, okL_push hV ok hd9, fun Q hQ => ?_, fun Q hQ => ?_⟩
    · unfold wX5_keep
      rw [ifT (by simp (disch := omega) only [zl_0, zl_1, zl_2, zl_3, zl_4, zl_5, zl_6, zl_7, zl_8, zl_9, zl_10, zl_14, zl_16, zl_20, zl_24, zl_32, zl_40, zl_42, zl_44, zl_48, zl_56, zl_57, zl_59, zl_60, zl_61, zl_64, zl_99, zl_100, zl_110, zl_126, zl_128, zl_200, zl_392, zl_999, zl_9999, nI_add, pk_mul, nI_leI, nI_ltI, nI_eq, nI_clamp, vpn, pk_sub]; omega), ← hpk]
      have g4 := hQ _ (pushV_len hsx) (sh_push (cv := (kd, hd, pl, st, ho, be, nc, nn, dy)) hm7 hk6 hl (by omega) hsx hsc hc)
      rw [hl2] at g4 ⊢
      exact g4
    · unfold wX6_keep
      rw [ifF (by simp (disch := omega) only [zl_0, zl_1, zl_2, zl_3, zl_4, zl_5, zl_6, zl_7, zl_8, zl_9, zl_10, zl_14, zl_16, zl_20, zl_24, zl_32, zl_40, zl_42, zl_44, zl_48, zl_56, zl_57, zl_59, zl_60, zl_61, zl_64, zl_99, zl_100, zl_110, zl_126, zl_128, zl_200, zl_392, zl_999, zl_9999, nI_add, pk_mul, nI_leI, nI_ltI, nI_eq, nI_clamp, vpn, pk_sub]; exact h0)]
      refine ref_keepL (by omega) (fun mi' g2 g3 => ?_)
      have g4 := hQ mi' (fun j E hE => ?_)
      · rw [hl2] at g4
        exact g4
      · rw [hp] at hE
        by_cases hj : j < V.length
        · rw [List.getElem?_append_left hj] at hE
          exact rfD_eq hm7 hk6 (hsr j E hE) (fun i hi => g3 _ (by omega))
        · rw [List.getElem?_append_right (by omega)] at hE
          have hj2 : j = V.length := by
            have := (List.getElem?_eq_some_iff.mp hE).1
            simp at this
            omega
          subst hj2
          rw [Nat.sub_self] at hE
          cases hE
          exact rfD_eq hm7 hk6 hr (fun i hi => g2 i hi)
theorem sim_back (ok : okD m k K H D) (hd9 : dd D ≤ 999) (hc : ctC m k K H D kd hd pl st ho be nc nn dy) (hr : rfD m k D ms) (hl : U.length ≤ 8) (hU : okL m k K H U) (hsu : shC m k K H U sv) (hsw : rfS m k U mp) (hlV : V.length ≤ 2) (hV : okL m k K H V) (hsx : sx.length = 2) (hsc : shC m k K H V sx) (hsr : rfS m k V mi) :
    ∃ (r : Int32) (D' : Dy) (U' V' : List Dy), okD m k K H D' ∧ dd D' ≤ 999 ∧ U'.length ≤ 8 ∧ okL m k K H U' ∧ V'.length ≤ 2 ∧ okL m k K H V' ∧
      (∀ Q : Int32 → (Nat → Int32) → (Nat → Int32) → (Nat → Int32) → (Nat → Int32) → (Nat → Int32) → (Nat → Int32) → Int32 → Int32 → Int32 → Nat → Int32 → Prop, (∀ kd' hd' pl' st' ho' be' nc' nn' dy', ctC m k K H D' kd' hd' pl' st' ho' be' nc' nn' dy' → shC m k K H U' sv → shC m k K H V' sx → Q r kd' hd' pl' st' ho' be' nc' nn' dy' V'.length (nI U'.length)) → wX5_back kd hd pl st ho be nc nn dy V.length sx (nI U.length) Q) ∧
      (∀ Q : Int32 → (Nat → Int32) → Int32 → Int32 → Prop, (∀ ms', rfD m k D' ms' → rfS m k U' mp → rfS m k V' mi → Q r ms' (nI U'.length) (nI V'.length)) → wX6_back ms (nI U.length) mi (nI V.length) Q) := by
  have hm7 := ok.1.2.1
  have hk6 := ok.2.2.1
  by_cases h0 : V = []
  · subst h0
    refine ⟨-2, D, U, [], ok, hd9, hl, hU, by simp, hV, fun Q hQ => ?_, fun Q hQ => ?_⟩
    · unfold wX5_back
      exact ifp rfl (hQ _ _ _ _ _ _ _ _ _ hc hsu hsc)
    · unfold wX6_back
      exact ifp rfl (hQ _ hr hsw hsr)
  · have hlp : 0 < V.length := List.length_pos_iff.mpr h0
    have hlast := last_get V h0
    have hmem := List.getLast_mem h0
    refine ⟨nI (V.length - 1), V.getLast h0, [], V.dropLast, (hV _ hmem).1, (hV _ hmem).2, by simp, fun E hE => absurd hE (by simp), by rw [List.length_dropLast]; omega, okL_dl hV, fun Q hQ => ?_, fun Q hQ => ?_⟩
    · unfold wX5_back
      rw [ifF (by omega), nmx]
      obtain ⟨v, g1, g2⟩ := hsc _ _ hlast
      have g3 : sx.getD (V.length - 1) (kd, hd, pl, st, ho, be, nc, nn, dy) = v := by
        rw [List.getD_eq_getElem?_getD, g1]
        rfl
      rw [g3]
      unfold wX2_clear
      have g4 := hQ _ _ _ _ _ _ _ _ _ (ctV_cpy (w := (kd, hd, pl, st, ho, be, nc, nn, dy)) hm7 hk6 g2) (fun j D hj => absurd hj (by simp)) (shC_dl hsc)
      rw [List.length_dropLast] at g4
      exact g4
    · unfold wX6_back
      have e1 : nI V.length - 1 = nI (V.length - 1) := pk_sub (a := V.length) (b := 1) (by omega)
      rw [ifF (by simp (disch := omega) only [zl_0, zl_1, zl_2, zl_3, zl_4, zl_5, zl_6, zl_7, zl_8, zl_9, zl_10, zl_14, zl_16, zl_20, zl_24, zl_32, zl_40, zl_42, zl_44, zl_48, zl_56, zl_57, zl_59, zl_60, zl_61, zl_64, zl_99, zl_100, zl_110, zl_126, zl_128, zl_200, zl_392, zl_999, zl_9999, nI_add, pk_mul, nI_leI, nI_ltI, nI_eq, nI_clamp, vpn, pk_sub]; omega), e1]
      refine ref_backL (by omega) (fun ms' g => ?_)
      have g4 := hQ ms' (rfD_eq hm7 hk6 (hsr _ _ hlast) g) (fun j D hj => absurd hj (by simp)) (rfS_dl hsr)
      rw [List.length_dropLast] at g4
      exact g4
theorem sim_courtier (x y : Int32) (ok : okD m k K H D) (hc : ctC m k K H D kd hd pl st ho be nc nn dy) (hm : rfM m k K H mo) (hr : rfD m k D ms) :
    ∃ r : Int32, (∀ Q : Int32 → Prop, Q r → wX5_courtier x y kd hd pl ho be nc nn Q) ∧ (∀ Q : Int32 → Prop, Q r → wX6_courtier x y mo ms Q) := by
  have hm7 := ok.1.2.1
  have hk6 := ok.2.2.1
  by_cases hx : ix x m
  · obtain ⟨c, c1, rfl⟩ := hx
    have hA : ∀ n, n < k → dA D n < 10 ∧ dB D n c ≤ 9 := fun n hn => ⟨ok.A hn, ok.B hn c1⟩
    have hloop : ∀ K92, K92 (nI (mks (fun n => decide (dA D n = c)) k)) (nI (mks (fun n => decide (dB D n c ≤ 4)) k)) → ∃ f, wX6_courtier_L27 (nI c) mo ms K92 f 0 0 0 := fun K92 h => r_courtL hm7 hk6 c1 hm.2.1 hr hA h
    have e1 : (2 : Int32) + nI c = nI (2 + c) := nI_add 2 c
    have e2 : (1 : Int32) + nI c = nI (1 + c) := nI_add 1 c
    have v0 : (0 : Int32) = nI 0 := rfl
    have v4 : (4 : Int32) = nI 4 := rfl
    by_cases hy : y.toInt < 0 ∨ 4 < y.toInt
    · have hy2 : ¬ rg y 0 4 := fun ⟨j, j1, j2, g⟩ => by
        subst g
        have := nI_toInt (n := j) (by omega)
        omega
      refine ⟨-1, fun Q hQ => ?_, fun Q hQ => ?_⟩
      · unfold wX5_courtier
        rw [hc.1, e_isC_T c1 (by omega), ifF (by decide)]
        refine ⟨fun _ => hQ, ?_, ?_, ?_, ?_, ?_⟩ <;> (intro g; subst g; exact absurd hy (by decide))
      · unfold wX6_courtier
        have h5 : ∀ Q2 : Int32 → Prop, wX6_in y 0 4 Q2 = Q2 0 := fun Q2 => r_inF (lo := 0) (hi := 4) hy2 (by omega) (by omega)
        rw [r_isC_T hm.1 c1 (by omega), ifF (by decide), h5, ifT rfl]
        exact hQ
    · obtain ⟨j, j1, rfl⟩ := pk_toInt_nI (n := 4) (by omega) hy
      have hcls : ∀ r : Int32, (j = 0 → r = nI (K c)) → (j = 1 → r = hI (H c)) → (j = 2 → r = nI (dP D c)) → (j = 3 → r = nI (mks (fun n => decide (dA D n = c)) k)) → (j = 4 → r = nI (mks (fun n => decide (dB D n c ≤ 4)) k)) → (∀ Q : Int32 → Prop, Q r → wX5_courtier (nI c) (nI j) kd hd pl ho be nc nn Q) := by
        intro r h0 h1 h2 h3 h4 Q hQ
        unfold wX5_courtier
        rw [hc.1, e_isC_T c1 (by omega), ifF (by decide), hc.2.1, e_of (by omega) (by decide), e_of (by omega) (by decide), e_of (by omega) (by decide), (hc.2.2.2.1 c c1).1, (hc.2.2.2.1 c c1).2.1, (hc.2.2.2.1 c c1).2.2.1]
        refine ⟨fun g => absurd g hy, fun g => ?_, fun g => ?_, fun g => ?_, fun g => ?_, fun g => ?_⟩
        · rw [← h0 ((nI_eq (a := j) (b := 0) (by omega) (by omega)).mp g)]; exact hQ
        · rw [← h1 ((nI_eq (a := j) (b := 1) (by omega) (by omega)).mp g)]; exact hQ
        · rw [← h2 ((nI_eq (a := j) (b := 2) (by omega) (by omega)).mp g)]; exact hQ
        · refine s_newsHeld hk6 (by omega) (fun n hn => ⟨(hc.2.2.2.2 n hn).1, ok.A hn⟩) ?_
          rw [← h3 ((nI_eq (a := j) (b := 3) (by omega) (by omega)).mp g)]; exact hQ
        · refine s_newsDoubted hk6 (by omega) (fun n hn => ⟨(hc.2.2.2.2 n hn).2 c c1, ok.B hn c1⟩) ?_
          rw [← h4 ((nI_eq (a := j) (b := 4) (by omega) (by omega)).mp g)]; exact hQ
      have hmod : ∀ r : Int32, (j = 0 → r = nI (K c)) → (j = 1 → r = hI (H c)) → (j = 2 → r = nI (dP D c)) → (j = 3 → r = nI (mks (fun n => decide (dA D n = c)) k)) → (j = 4 → r = nI (mks (fun n => decide (dB D n c ≤ 4)) k)) → (∀ Q : Int32 → Prop, Q r → wX6_courtier (nI c) (nI j) mo ms Q) := by
        intro r h0 h1 h2 h3 h4 Q hQ
        unfold wX6_courtier
        rw [r_isC_T hm.1 c1 (by omega), ifF (by decide)]
        have hin : ∀ Q2 : Int32 → Prop, wX6_in (nI j) 0 4 Q2 = Q2 1 := fun Q2 => r_inT (lo := 0) (hi := 4) (by omega) j1 (by omega)
        rw [hin, ifF (by decide)]
        refine hloop _ ?_
        rw [e1, e2, nI_clamp (by omega), nI_clamp (by omega), vpn (by omega), vpn (by omega), (hm.2.2 c c1).1, hr.2.1 c c1, r_heeded (rfT_of hm hr) hm7 c1]
        by_cases g0 : j = 0
        · subst g0; rw [ifT (show nI 0 = (0 : Int32) from rfl), ← h0 rfl]; exact ⟨by omega, hQ⟩
        rw [ifF (by simp (disch := omega) only [zl_0, zl_1, zl_2, zl_3, zl_4, zl_5, zl_6, zl_7, zl_8, zl_9, zl_10, zl_14, zl_16, zl_20, zl_24, zl_32, zl_40, zl_42, zl_44, zl_48, zl_56, zl_57, zl_59, zl_60, zl_61, zl_64, zl_99, zl_100, zl_110, zl_126, zl_128, zl_200, zl_392, zl_999, zl_9999, nI_add, pk_mul, nI_leI, nI_ltI, nI_eq, nI_clamp, vpn, pk_sub]; exact g0)]
        by_cases g1 : j = 1
        · subst g1; rw [ifT (show nI 1 = (1 : Int32) from rfl), ← h1 rfl]; exact hQ
        rw [ifF (by simp (disch := omega) only [zl_0, zl_1, zl_2, zl_3, zl_4, zl_5, zl_6, zl_7, zl_8, zl_9, zl_10, zl_14, zl_16, zl_20, zl_24, zl_32, zl_40, zl_42, zl_44, zl_48, zl_56, zl_57, zl_59, zl_60, zl_61, zl_64, zl_99, zl_100, zl_110, zl_126, zl_128, zl_200, zl_392, zl_999, zl_9999, nI_add, pk_mul, nI_leI, nI_ltI, nI_eq, nI_clamp, vpn, pk_sub]; exact g1)]
        by_cases g2 : j = 2
        · subst g2; rw [ifT (show nI 2 = (2 : Int32) from rfl), ← h2 rfl]; exact ⟨by omega, hQ⟩
        rw [ifF (by simp (disch := omega) only [zl_0, zl_1, zl_2, zl_3, zl_4, zl_5, zl_6, zl_7, zl_8, zl_9, zl_10, zl_14, zl_16, zl_20, zl_24, zl_32, zl_40, zl_42, zl_44, zl_48, zl_56, zl_57, zl_59, zl_60, zl_61, zl_64, zl_99, zl_100, zl_110, zl_126, zl_128, zl_200, zl_392, zl_999, zl_9999, nI_add, pk_mul, nI_leI, nI_ltI, nI_eq, nI_clamp, vpn, pk_sub]; exact g2)]
        by_cases g3 : j = 3
        · subst g3; rw [ifT (show nI 3 = (3 : Int32) from rfl), ← h3 rfl]; exact hQ
        rw [ifF (by simp (disch := omega) only [zl_0, zl_1, zl_2, zl_3, zl_4, zl_5, zl_6, zl_7, zl_8, zl_9, zl_10, zl_14, zl_16, zl_20, zl_24, zl_32, zl_40, zl_42, zl_44, zl_48, zl_56, zl_57, zl_59, zl_60, zl_61, zl_64, zl_99, zl_100, zl_110, zl_126, zl_128, zl_200, zl_392, zl_999, zl_9999, nI_add, pk_mul, nI_leI, nI_ltI, nI_eq, nI_clamp, vpn, pk_sub]; exact g3), ← h4 (by omega)]
        exact hQ
      let r : Int32 := if j = 0 then nI (K c) else if j = 1 then hI (H c) else if j = 2 then nI (dP D c) else if j = 3 then nI (mks (fun n => decide (dA D n = c)) k) else nI (mks (fun n => decide (dB D n c ≤ 4)) k)
      have r0 : j = 0 → r = nI (K c) := fun g => by simp only [r, g, if_true]
      have r1 : j = 1 → r = hI (H c) := fun g => by simp [r, g]
      have r2 : j = 2 → r = nI (dP D c) := fun g => by simp [r, g]
      have r3 : j = 3 → r = nI (mks (fun n => decide (dA D n = c)) k) := fun g => by simp [r, g]
      have r4 : j = 4 → r = nI (mks (fun n => decide (dB D n c ≤ 4)) k) := fun g => by simp [r, g]
      exact ⟨r, hcls r r0 r1 r2 r3 r4, hmod r r0 r1 r2 r3 r4⟩
  · refine ⟨-1, fun Q hQ => ?_, fun Q hQ => ?_⟩
    · unfold wX5_courtier
      rw [hc.1, e_isC_F hx (by omega), ifT rfl]
      exact hQ
    · unfold wX6_courtier
      rw [r_isC_F hm.1 hx ok.1.1 (by omega), ifT rfl]
      exact hQ
theorem sim_news (x y : Int32) (ok : okD m k K H D) (hc : ctC m k K H D kd hd pl st ho be nc nn dy) (hm : rfM m k K H mo) (hr : rfD m k D ms) :
    ∃ r : Int32, (∀ Q : Int32 → Prop, Q r → wX5_news x y ho be nc nn Q) ∧ (∀ Q : Int32 → Prop, Q r → wX6_news x y mo ms Q) := by
  have hm7 := ok.1.2.1
  have hk6 := ok.2.2.1
  by_cases hx : ix x k
  · obtain ⟨n, n1, rfl⟩ := hx
    have v0 : (0 : Int32) = nI 0 := rfl
    have v1 : (1 : Int32) = nI 1 := rfl
    have hin : ∀ j, j ≤ 1 → ∀ Q2 : Int32 → Prop, wX5_isIn (nI j) 0 1 Q2 = Q2 1 := fun j j1 Q2 => e_isInT (lo := 0) (hi := 1) (by omega) j1 (by omega)
    have hin2 : ∀ j, j ≤ 1 → ∀ Q2 : Int32 → Prop, wX6_in (nI j) 0 1 Q2 = Q2 1 := fun j j1 Q2 => r_inT (lo := 0) (hi := 1) (by omega) j1 (by omega)
    have e1 : (8 : Int32) + nI n = nI (8 + n) := nI_add 8 n
    by_cases hy : rg y 0 1
    · obtain ⟨j, j0, j1, rfl⟩ := hy
      by_cases g0 : j = 0
      · subst g0
        have v0 : nI 0 = (0 : Int32) := rfl
        refine ⟨nI (dA D n), fun Q hQ => ?_, fun Q hQ => ?_⟩
        · unfold wX5_news
          rw [hc.2.1, e_isN_T n1 (by omega), ifF (by decide), hin _ j1, ifF (by decide), ifT v0, e_of (by omega) (by decide), (hc.2.2.2.2 n n1).1]
          exact hQ
        · unfold wX6_news
          rw [r_isN_T hm.2.1 n1 (by omega), ifF (by decide), hin2 _ j1, ifF (by decide), ifT v0, e1, nI_clamp (by omega), vpn (by omega), (hr.2.2.1 n n1).1]
          exact ⟨by omega, hQ⟩
      · refine ⟨nI (ds (dB D n) m), fun Q hQ => ?_, fun Q hQ => ?_⟩
        · unfold wX5_news
          rw [hc.2.1, e_isN_T n1 (by omega), ifF (by decide), hin _ j1, ifF (by decide), ifF (by simp (disch := omega) only [zl_0, zl_1, zl_2, zl_3, zl_4, zl_5, zl_6, zl_7, zl_8, zl_9, zl_10, zl_14, zl_16, zl_20, zl_24, zl_32, zl_40, zl_42, zl_44, zl_48, zl_56, zl_57, zl_59, zl_60, zl_61, zl_64, zl_99, zl_100, zl_110, zl_126, zl_128, zl_200, zl_392, zl_999, zl_9999, nI_add, pk_mul, nI_leI, nI_ltI, nI_eq, nI_clamp, vpn, pk_sub]; exact g0), hc.1]
          exact s_doubters (by omega) hm7 (hc.2.2.2.2 n n1).2 (fun c hc2 => ok.B n1 hc2) hQ
        · unfold wX6_news
          rw [r_isN_T hm.2.1 n1 (by omega), ifF (by decide), hin2 _ j1, ifF (by decide), ifF (by simp (disch := omega) only [zl_0, zl_1, zl_2, zl_3, zl_4, zl_5, zl_6, zl_7, zl_8, zl_9, zl_10, zl_14, zl_16, zl_20, zl_24, zl_32, zl_40, zl_42, zl_44, zl_48, zl_56, zl_57, zl_59, zl_60, zl_61, zl_64, zl_99, zl_100, zl_110, zl_126, zl_128, zl_200, zl_392, zl_999, zl_9999, nI_add, pk_mul, nI_leI, nI_ltI, nI_eq, nI_clamp, vpn, pk_sub]; exact g0)]
          exact ref_doubters (by omega) hm7 hm.1 (hr.2.2.1 n n1) (fun c hc2 => ok.B n1 hc2) hQ
    · refine ⟨-1, fun Q hQ => ?_, fun Q hQ => ?_⟩
      · unfold wX5_news
        have h5 : ∀ Q2 : Int32 → Prop, wX5_isIn y 0 1 Q2 = Q2 0 := fun Q2 => e_isInF (lo := 0) (hi := 1) hy (by omega) (by omega)
        rw [hc.2.1, e_isN_T n1 (by omega), ifF (by decide), h5, ifT rfl]
        exact hQ
      · unfold wX6_news
        have h5 : ∀ Q2 : Int32 → Prop, wX6_in y 0 1 Q2 = Q2 0 := fun Q2 => r_inF (lo := 0) (hi := 1) hy (by omega) (by omega)
        rw [r_isN_T hm.2.1 n1 (by omega), ifF (by decide), h5, ifT rfl]
        exact hQ
  · refine ⟨-1, fun Q hQ => ?_, fun Q hQ => ?_⟩
    · unfold wX5_news
      rw [hc.2.1, e_isN_F hx (by omega), ifT rfl]
      exact hQ
    · unfold wX6_news
      rw [r_isN_F hm.2.1 hx ok.2.1 (by omega), ifT rfl]
      exact hQ
theorem sim_belief (x y : Int32) (ok : okD m k K H D) (hc : ctC m k K H D kd hd pl st ho be nc nn dy) (hm : rfM m k K H mo) (hr : rfD m k D ms) :
    ∃ r : Int32, (∀ Q : Int32 → Prop, Q r → wX5_belief x y be nc nn Q) ∧ (∀ Q : Int32 → Prop, Q r → wX6_belief x y mo ms Q) := by
  have hm7 := ok.1.2.1
  have hk6 := ok.2.2.1
  by_cases hx : ix x m
  · obtain ⟨c, c1, rfl⟩ := hx
    by_cases hy : ix y k
    · obtain ⟨n, n1, rfl⟩ := hy
      have e1 : ((14 : Int32) + ((7 : Int32) * nI n)) + nI c = nI (14 + 7 * n + c) := by simp (disch := omega) only [zl_0, zl_1, zl_2, zl_3, zl_4, zl_5, zl_6, zl_7, zl_8, zl_9, zl_10, zl_14, zl_16, zl_20, zl_24, zl_32, zl_40, zl_42, zl_44, zl_48, zl_56, zl_57, zl_59, zl_60, zl_61, zl_64, zl_99, zl_100, zl_110, zl_126, zl_128, zl_200, zl_392, zl_999, zl_9999, nI_add, pk_mul, nI_leI, nI_ltI, nI_eq, nI_clamp, vpn, pk_sub]
      refine ⟨nI (dB D n c), fun Q hQ => ?_, fun Q hQ => ?_⟩
      · unfold wX5_belief
        rw [hc.1, e_isC_T c1 (by omega), ifF (by decide), hc.2.1, e_isN_T n1 (by omega), ifF (by decide), e_believes (by omega) (by omega), (hc.2.2.2.2 n n1).2 c c1]
        exact hQ
      · unfold wX6_belief
        rw [r_isC_T hm.1 c1 (by omega), ifF (by decide), r_isN_T hm.2.1 n1 (by omega), ifF (by decide), e1, nI_clamp (by omega), vpn (by omega), (hr.2.2.1 n n1).2 c c1]
        exact ⟨by omega, hQ⟩
    · refine ⟨-1, fun Q hQ => ?_, fun Q hQ => ?_⟩
      · unfold wX5_belief
        rw [hc.1, e_isC_T c1 (by omega), ifF (by decide), hc.2.1, e_isN_F hy (by omega), ifT rfl]
        exact hQ
      · unfold wX6_belief
        rw [r_isC_T hm.1 c1 (by omega), ifF (by decide), r_isN_F hm.2.1 hy ok.2.1 (by omega), ifT rfl]
        exact hQ
  · refine ⟨-1, fun Q hQ => ?_, fun Q hQ => ?_⟩
    · unfold wX5_belief
      rw [hc.1, e_isC_F hx (by omega), ifT rfl]
      exact hQ
    · unfold wX6_belief
      rw [r_isC_F hm.1 hx ok.1.1 (by omega), ifT rfl]
      exact hQ
theorem sim_mute (ok : okD m k K H D) (hc : ctC m k K H D kd hd pl st ho be nc nn dy) (hm : rfM m k K H mo) (hr : rfD m k D ms) :
    ∃ r : Int32, (∀ Q : Int32 → Prop, Q r → wX5_mute ho be nc nn Q) ∧ (∀ Q : Int32 → Prop, Q r → wX6_mute mo ms Q) := by
  have hm7 := ok.1.2.1
  have hk6 := ok.2.2.1
  let p : Nat → Bool := fun n => decide (dA D n ≠ 9 ∧ ds (dB D n) m = 0)
  refine ⟨nI (mks p k), fun Q hQ => ?_, fun Q hQ => ?_⟩
  · have key : ∀ r i, i + r = k → wX5_mute_L4 ho be nc nn Q (r + 1) (nI (mks p i)) (nI i) := by
      intro r
      induction r with
      | zero =>
        intro i hi
        have hi : i = k := by omega
        subst hi
        unfold wX5_mute_L4
        rw [hc.2.1]
        exact ifp (Int32.le_refl _) hQ
      | succ r ih =>
        intro i hi
        have h3 := ih (i + 1) (by omega)
        have hn : i < k := by omega
        have lt := ds_lt7 (dB D i) hm7
        unfold wX5_mute_L4
        rw [hc.2.1, ifF (by simp (disch := omega) only [zl_0, zl_1, zl_2, zl_3, zl_4, zl_5, zl_6, zl_7, zl_8, zl_9, zl_10, zl_14, zl_16, zl_20, zl_24, zl_32, zl_40, zl_42, zl_44, zl_48, zl_56, zl_57, zl_59, zl_60, zl_61, zl_64, zl_99, zl_100, zl_110, zl_126, zl_128, zl_200, zl_392, zl_999, zl_9999, nI_add, pk_mul, nI_leI, nI_ltI, nI_eq, nI_clamp, vpn, pk_sub]; omega), e_isKnown (by omega) (hc.2.2.2.2 i hn).1 (ok.A hn), nI_1]
        by_cases h9 : dA D i = 9
        · rw [if_pos h9, ifF (by decide), ← mk_no (p := p) (by simp [p, h9]), ← hc.2.1]
          exact h3
        · rw [if_neg h9, ifT rfl, hc.1]
          refine s_doubters (by omega) hm7 (hc.2.2.2.2 i hn).2 (fun c hc2 => ok.B hn hc2) ?_
          rw [nmx]
          by_cases h0 : ds (dB D i) m = 0
          · rw [ifT (by rw [h0]; rfl), mk_or (by omega) (by simp [p, h9, h0]), ← hc.2.1, ← hc.1]
            exact h3
          · rw [ifF (by simp (disch := omega) only [zl_0, zl_1, zl_2, zl_3, zl_4, zl_5, zl_6, zl_7, zl_8, zl_9, zl_10, zl_14, zl_16, zl_20, zl_24, zl_32, zl_40, zl_42, zl_44, zl_48, zl_56, zl_57, zl_59, zl_60, zl_61, zl_64, zl_99, zl_100, zl_110, zl_126, zl_128, zl_200, zl_392, zl_999, zl_9999, nI_add, pk_mul, nI_leI, nI_ltI, nI_eq, nI_clamp, vpn, pk_sub]; exact h0), ← mk_no (p := p) (by simp [p, h0]), ← hc.2.1, ← hc.1]
            exact h3
    exact ⟨k + 1, key k 0 (by omega)⟩
  · have key : ∀ r i, i + r = k → wX6_mute_L4 mo ms Q (r + 1) (nI (mks p i)) (nI i) := by
      intro r
      induction r with
      | zero =>
        intro i hi
        have hi : i = k := by omega
        subst hi
        unfold wX6_mute_L4
        rw [hm.2.1]
        exact ifp (Int32.le_refl _) hQ
      | succ r ih =>
        intro i hi
        have h3 := ih (i + 1) (by omega)
        have hn : i < k := by omega
        have lt := ds_lt7 (dB D i) hm7
        have e1 : (8 : Int32) + nI i = nI (8 + i) := nI_add 8 i
        unfold wX6_mute_L4
        rw [hm.2.1, ifF (by simp (disch := omega) only [zl_0, zl_1, zl_2, zl_3, zl_4, zl_5, zl_6, zl_7, zl_8, zl_9, zl_10, zl_14, zl_16, zl_20, zl_24, zl_32, zl_40, zl_42, zl_44, zl_48, zl_56, zl_57, zl_59, zl_60, zl_61, zl_64, zl_99, zl_100, zl_110, zl_126, zl_128, zl_200, zl_392, zl_999, zl_9999, nI_add, pk_mul, nI_leI, nI_ltI, nI_eq, nI_clamp, vpn, pk_sub]; omega), e1, nI_clamp (by omega), vpn (by omega), (hr.2.2.1 i hn).1, nI_1, nmx, or0_fin _ (mks_lt7 _ (by omega))]
        refine ⟨by omega, ?_⟩
        by_cases h9 : dA D i = 9
        · rw [ifT (by rw [h9]; rfl), ← mk_no (p := p) (by simp [p, h9])]
          exact h3
        · have ha := ok.A hn
          rw [ifF (by simp (disch := omega) only [zl_0, zl_1, zl_2, zl_3, zl_4, zl_5, zl_6, zl_7, zl_8, zl_9, zl_10, zl_14, zl_16, zl_20, zl_24, zl_32, zl_40, zl_42, zl_44, zl_48, zl_56, zl_57, zl_59, zl_60, zl_61, zl_64, zl_99, zl_100, zl_110, zl_126, zl_128, zl_200, zl_392, zl_999, zl_9999, nI_add, pk_mul, nI_leI, nI_ltI, nI_eq, nI_clamp, vpn, pk_sub]; exact h9)]
          refine ref_doubters (by omega) hm7 hm.1 (hr.2.2.1 i hn) (fun c hc2 => ok.B hn hc2) ?_
          try rw [nmx]
          by_cases h0 : ds (dB D i) m = 0
          · rw [ifT (by rw [h0]; rfl), mk_or (by omega) (by simp [p, h9, h0])]
            exact h3
          · rw [ifF (by simp (disch := omega) only [zl_0, zl_1, zl_2, zl_3, zl_4, zl_5, zl_6, zl_7, zl_8, zl_9, zl_10, zl_14, zl_16, zl_20, zl_24, zl_32, zl_40, zl_42, zl_44, zl_48, zl_56, zl_57, zl_59, zl_60, zl_61, zl_64, zl_99, zl_100, zl_110, zl_126, zl_128, zl_200, zl_392, zl_999, zl_9999, nI_add, pk_mul, nI_leI, nI_ltI, nI_eq, nI_clamp, vpn, pk_sub]; exact h0), ← mk_no (p := p) (by simp [p, h0])]
            exact h3
    exact ⟨k + 1, key k 0 (by omega)⟩
theorem sim_count (x tn su ru rk : Int32) (ok : okD m k K H D) (hc : ctC m k K H D kd hd pl st ho be nc nn dy) (hm : rfM m k K H mo) (hr : rfD m k D ms) :
    ∃ r : Int32, (∀ Q : Int32 → Prop, Q r → wX5_count x tn ho be nc nn dy su ru rk Q) ∧ (∀ Q : Int32 → Prop, Q r → wX6_count x tn mo ms ru rk su Q) := by
  have hm7 := ok.1.2.1
  have hk6 := ok.2.2.1
  by_cases hx : x.toInt < 0 ∨ 8 < x.toInt
  · refine ⟨-1, fun Q hQ => ?_, fun Q hQ => ?_⟩
    · unfold wX5_count
      refine ⟨fun _ => hQ, ?_, ?_, ?_, ?_, ?_, ?_, ?_, ?_, ?_⟩ <;> (intro g; subst g; exact absurd hx (by decide))
    · unfold wX6_count
      refine ⟨fun _ => hQ, ?_, ?_, ?_, ?_, ?_, ?_, ?_, ?_, ?_⟩ <;> (intro g; subst g; exact absurd hx (by decide))
  · have c3 : ∀ Q : Int32 → Prop, Q (nI (kn (dA D) k)) → wX0_knownInAll ho nn Q := fun Q hQ => by
      rw [hc.2.1]
      exact s_known hk6 (fun n hn => ⟨(hc.2.2.2.2 n hn).1, ok.A hn⟩) hQ
    have c4 : ∀ Q : Int32 → Prop, Q (nI (bsum m k (dB D))) → wX0_beliefsInAll be nc nn Q := fun Q hQ => by
      rw [hc.2.1, hc.1]
      exact s_beliefs hm7 hk6 (fun n hn c hc2 => ⟨(hc.2.2.2.2 n hn).2 c hc2, ok.B hn hc2⟩) hQ
    have r3 : ∀ Q : Int32 → Prop, Q (nI (kn (dA D) k)) → wX6_manyKnown mo ms Q := fun Q hQ => ref_known (m := m) (K := K) (H := H) hk6 hm.2.1 (fun n hn => ⟨(hr.2.2.1 n hn).1, ok.A hn⟩) hQ
    have r4 : ∀ Q : Int32 → Prop, Q (nI (bsum m k (dB D))) → wX6_beliefs ms Q := fun Q hQ => ref_beliefs hm7 hk6 hr (fun n hn c hc2 => ok.B hn hc2) hQ
    obtain ⟨j, j1, rfl⟩ := pk_toInt_nI (n := 8) (by omega) hx
    have hj : j = 0 ∨ j = 1 ∨ j = 2 ∨ j = 3 ∨ j = 4 ∨ j = 5 ∨ j = 6 ∨ j = 7 ∨ j = 8 := by omega
    unfold wX5_count wX6_count
    rw [hc.1, hc.2.1, hc.2.2.1, hm.1, hm.2.1, hr.1]
    rw [hc.1, hc.2.1] at c4
    rw [hc.2.1] at c3
    rcases hj with g | g | g | g | g | g | g | g | g <;> subst g
    · refine ⟨nI m, fun Q hQ => ⟨fun g => absurd g hx, fun _ => hQ, ?_, ?_, ?_, ?_, ?_, ?_, ?_, ?_⟩, fun Q hQ => ⟨fun g => absurd g hx, fun _ => hQ, ?_, ?_, ?_, ?_, ?_, ?_, ?_, ?_⟩⟩ <;> exact fun g => absurd g (by decide)
    · refine ⟨nI k, fun Q hQ => ⟨fun g => absurd g hx, ?_, fun _ => hQ, ?_, ?_, ?_, ?_, ?_, ?_, ?_⟩, fun Q hQ => ⟨fun g => absurd g hx, ?_, fun _ => hQ, ?_, ?_, ?_, ?_, ?_, ?_, ?_⟩⟩ <;> exact fun g => absurd g (by decide)
    · refine ⟨nI (dd D), fun Q hQ => ⟨fun g => absurd g hx, ?_, ?_, fun _ => hQ, ?_, ?_, ?_, ?_, ?_, ?_⟩, fun Q hQ => ⟨fun g => absurd g hx, ?_, ?_, fun _ => hQ, ?_, ?_, ?_, ?_, ?_, ?_⟩⟩ <;> exact fun g => absurd g (by decide)
    · refine ⟨nI (kn (dA D) k), fun Q hQ => ⟨fun g => absurd g hx, ?_, ?_, ?_, fun _ => c3 _ hQ, ?_, ?_, ?_, ?_, ?_⟩, fun Q hQ => ⟨fun g => absurd g hx, ?_, ?_, ?_, fun _ => r3 _ hQ, ?_, ?_, ?_, ?_, ?_⟩⟩ <;> exact fun g => absurd g (by decide)
    · refine ⟨nI (bsum m k (dB D)), fun Q hQ => ⟨fun g => absurd g hx, ?_, ?_, ?_, ?_, fun _ => c4 _ hQ, ?_, ?_, ?_, ?_⟩, fun Q hQ => ⟨fun g => absurd g hx, ?_, ?_, ?_, ?_, fun _ => r4 _ hQ, ?_, ?_, ?_, ?_⟩⟩ <;> exact fun g => absurd g (by decide)
    · refine ⟨su, fun Q hQ => ⟨fun g => absurd g hx, ?_, ?_, ?_, ?_, ?_, fun _ => hQ, ?_, ?_, ?_⟩, fun Q hQ => ⟨fun g => absurd g hx, ?_, ?_, ?_, ?_, ?_, fun _ => hQ, ?_, ?_, ?_⟩⟩ <;> exact fun g => absurd g (by decide)
    · refine ⟨ru, fun Q hQ => ⟨fun g => absurd g hx, ?_, ?_, ?_, ?_, ?_, ?_, fun _ => hQ, ?_, ?_⟩, fun Q hQ => ⟨fun g => absurd g hx, ?_, ?_, ?_, ?_, ?_, ?_, fun _ => hQ, ?_, ?_⟩⟩ <;> exact fun g => absurd g (by decide)
    · refine ⟨rk, fun Q hQ => ⟨fun g => absurd g hx, ?_, ?_, ?_, ?_, ?_, ?_, ?_, fun _ => hQ, ?_⟩, fun Q hQ => ⟨fun g => absurd g hx, ?_, ?_, ?_, ?_, ?_, ?_, ?_, fun _ => hQ, ?_⟩⟩ <;> exact fun g => absurd g (by decide)
    · refine ⟨tn, fun Q hQ => ⟨fun g => absurd g hx, ?_, ?_, ?_, ?_, ?_, ?_, ?_, ?_, fun _ => hQ⟩, fun Q hQ => ⟨fun g => absurd g hx, ?_, ?_, ?_, ?_, ?_, ?_, ?_, ?_, fun _ => hQ⟩⟩ <;> exact fun g => absurd g (by decide)
end SIM
/-! what was seen -/
def okZ (m : Nat) (Z : List (Nat × Nat)) : Prop := Z.length ≤ 6 ∧ ∀ e ∈ Z, (e.1 < m ∨ e.1 = 9) ∧ e.2 ≤ 20
def ctZ (Z : List (Nat × Nat)) (sw sn : Nat → Int32) (su : Int32) : Prop := su = nI Z.length ∧ ∀ j e, Z[j]? = some e → sw j = nI e.1 ∧ sn j = nI e.2
def rfZ (Z : List (Nat × Nat)) (mn : Nat → Int32) (mz : Int32) : Prop := mz = nI Z.length ∧ ∀ j e, Z[j]? = some e → mn (2 * j) = nI e.1 ∧ mn (2 * j + 1) = nI e.2
theorem app_get {α : Type} {l : List α} {x y : α} {j : Nat} (h : (l ++ [x])[j]? = some y) : (j < l.length ∧ l[j]? = some y) ∨ (j = l.length ∧ y = x) := by
  by_cases hj : j < l.length
  · rw [List.getElem?_append_left hj] at h
    exact Or.inl ⟨hj, h⟩
  · rw [List.getElem?_append_right (by omega)] at h
    have hj2 : j = l.length := by
      have := (List.getElem?_eq_some_iff.mp h).1
      simp at this
      omega
    subst hj2
    rw [Nat.sub_self] at h
    cases h
    exact Or.inr ⟨rfl, rfl⟩
theorem sim_see {m : Nat} {Z : List (Nat × Nat)} {sw sn mn mo : Nat → Int32} {su mz nc : Int32} (x y : Int32) (m1 : 1 ≤ m) (hm7 : m ≤ 7) (h0 : mo 0 = nI m) (h1 : nc = nI m) (hz : okZ m Z) (hc : ctZ Z sw sn su) (hr : rfZ Z mn mz) :
    ∃ (r : Int32) (Z' : List (Nat × Nat)), okZ m Z' ∧
      (∀ Q : Int32 → (Nat → Int32) → (Nat → Int32) → Int32 → Prop, (∀ sw' sn' su', ctZ Z' sw' sn' su' → Q r sw' sn' su') → wX5_see x y nc sw sn su Q) ∧
      (∀ Q : Int32 → (Nat → Int32) → Int32 → Prop, (∀ mn' mz', rfZ Z' mn' mz' → Q r mn' mz') → wX6_see x y mo mn mz Q) := by
  have hl := hz.1
  have refuse : ∀ r : Int32, (∀ Q : Int32 → (Nat → Int32) → (Nat → Int32) → Int32 → Prop, Q r sw sn su → wX5_see x y nc sw sn su Q) → (∀ Q : Int32 → (Nat → Int32) → Int32 → Prop, Q r mn mz → wX6_see x y mo mn mz Q) → ∃ (r : Int32) (Z' : List (Nat × Nat)), okZ m Z' ∧
      (∀ Q : Int32 → (Nat → Int32) → (Nat → Int32) → Int32 → Prop, (∀ sw' sn' su', ctZ Z' sw' sn' su' → Q r sw' sn' su') → wX5_see x y nc sw sn su Q) ∧
      (∀ Q : Int32 → (Nat → Int32) → Int32 → Prop, (∀ mn' mz', rfZ Z' mn' mz' → Q r mn' mz') → wX6_see x y mo mn mz Q) :=
    fun r g1 g2 => ⟨r, Z, hz, fun Q hQ => g1 Q (hQ _ _ _ hc), fun Q hQ => g2 Q (hQ _ _ hr)⟩
  have hw : (∃ c, (c < m ∨ c = 9) ∧ x = nI c) ∨ (¬ x = 9 ∧ ¬ ix x m) := by
    by_cases g : x = 9
    · exact Or.inl ⟨9, Or.inr rfl, g⟩
    · by_cases g2 : ix x m
      · obtain ⟨c, c1, rfl⟩ := g2
        exact Or.inl ⟨c, Or.inl c1, rfl⟩
      · exact Or.inr ⟨g, g2⟩
  rcases hw with ⟨c, c1, rfl⟩ | ⟨g1, g2⟩
  · have hcl : ∀ Q : Int32 → (Nat → Int32) → (Nat → Int32) → Int32 → Prop, (wX5_isIn y 0 20 (fun r_2 => ((r_2 = 0 → (Q (-1 : Int32) sw sn su)) ∧ (¬ r_2 = 0 → ((su < (6 : Int32) → (wX3_add (nI c) y sw sn su (fun sw_6 sn_7 su_8 => (Q su_8 sw_6 sn_7 su_8)))) ∧ (¬ su < (6 : Int32) → (Q (-3 : Int32) sw sn su))))))) → wX5_see (nI c) y nc sw sn su Q := by
      intro Q hQ
      unfold wX5_see
      by_cases h9 : c = 9
      · rw [ifT (by rw [h9]; rfl)]; exact hQ
      · rw [ifF (by simp (disch := omega) only [zl_0, zl_1, zl_2, zl_3, zl_4, zl_5, zl_6, zl_7, zl_8, zl_9, zl_10, zl_14, zl_16, zl_20, zl_24, zl_32, zl_40, zl_42, zl_44, zl_48, zl_56, zl_57, zl_59, zl_60, zl_61, zl_64, zl_99, zl_100, zl_110, zl_126, zl_128, zl_200, zl_392, zl_999, zl_9999, nI_add, pk_mul, nI_leI, nI_ltI, nI_eq, nI_clamp, vpn, pk_sub]; exact h9), h1, e_isC_T (by omega) (by omega), ifF (by decide)]; exact hQ
    have hmd : ∀ Q : Int32 → (Nat → Int32) → Int32 → Prop, wX6_see_J14 (nI c) y mn mz Q → wX6_see (nI c) y mo mn mz Q := by
      intro Q hQ
      unfold wX6_see
      by_cases h9 : c = 9
      · rw [ifT (by rw [h9]; rfl)]; exact hQ
      · rw [ifF (by simp (disch := omega) only [zl_0, zl_1, zl_2, zl_3, zl_4, zl_5, zl_6, zl_7, zl_8, zl_9, zl_10, zl_14, zl_16, zl_20, zl_24, zl_32, zl_40, zl_42, zl_44, zl_48, zl_56, zl_57, zl_59, zl_60, zl_61, zl_64, zl_99, zl_100, zl_110, zl_126, zl_128, zl_200, zl_392, zl_999, zl_9999, nI_add, pk_mul, nI_leI, nI_ltI, nI_eq, nI_clamp, vpn, pk_sub]; exact h9), r_isC_T h0 (by omega) (by omega), ifF (by decide)]; exact hQ
    by_cases hy : rg y 0 20
    · obtain ⟨j, j0, j1, rfl⟩ := hy
      have h5 : ∀ Q2 : Int32 → Prop, wX5_isIn (nI j) 0 20 Q2 = Q2 1 := fun Q2 => e_isInT (lo := 0) (hi := 20) j0 j1 (by omega)
      have h6 : ∀ Q2 : Int32 → Prop, wX6_in (nI j) 0 20 Q2 = Q2 1 := fun Q2 => r_inT (lo := 0) (hi := 20) j0 j1 (by omega)
      by_cases hf : Z.length = 6
      · refine refuse (-3) (fun Q hQ => hcl Q ?_) (fun Q hQ => hmd Q ?_)
        · rw [h5, ifF (by decide), hc.1, ifF (by rw [hf]; decide), ← hc.1]; exact hQ
        · unfold wX6_see_J14
          rw [h6, ifF (by decide), hr.1, ifT (by rw [hf]; rfl), ← hr.1]; exact hQ
      · refine ⟨nI (Z.length + 1), Z ++ [(c, j)], ⟨by simp; omega, fun e he => ?_⟩, fun Q hQ => hcl Q ?_, fun Q hQ => hmd Q ?_⟩
        · rcases List.mem_append.mp he with g | g
          · exact hz.2 e g
          · rw [List.mem_singleton.mp g]; exact ⟨c1, j1⟩
        · rw [h5, ifF (by decide), hc.1, ifT (by simp (disch := omega) only [zl_0, zl_1, zl_2, zl_3, zl_4, zl_5, zl_6, zl_7, zl_8, zl_9, zl_10, zl_14, zl_16, zl_20, zl_24, zl_32, zl_40, zl_42, zl_44, zl_48, zl_56, zl_57, zl_59, zl_60, zl_61, zl_64, zl_99, zl_100, zl_110, zl_126, zl_128, zl_200, zl_392, zl_999, zl_9999, nI_add, pk_mul, nI_leI, nI_ltI, nI_eq, nI_clamp, vpn, pk_sub]; omega)]
          unfold wX3_add
          rw [e_put (by omega) (by decide), e_put (by omega) (by decide), nI_1]
          refine hQ _ _ _ ⟨by simp, fun i e hi => ?_⟩
          rcases app_get hi with ⟨g1, g2⟩ | ⟨g1, g2⟩
          · rw [upd_ne _ _ (by omega), upd_ne _ _ (by omega)]; exact hc.2 i e g2
          · rw [g1, g2, upd_at, upd_at]; exact ⟨rfl, rfl⟩
        · unfold wX6_see_J14
          have e1 : (2 : Int32) * nI Z.length = nI (2 * Z.length) := pk_mul 2 Z.length
          rw [h6, ifF (by decide), hr.1, ifF (by simp (disch := omega) only [zl_0, zl_1, zl_2, zl_3, zl_4, zl_5, zl_6, zl_7, zl_8, zl_9, zl_10, zl_14, zl_16, zl_20, zl_24, zl_32, zl_40, zl_42, zl_44, zl_48, zl_56, zl_57, zl_59, zl_60, zl_61, zl_64, zl_99, zl_100, zl_110, zl_126, zl_128, zl_200, zl_392, zl_999, zl_9999, nI_add, pk_mul, nI_leI, nI_ltI, nI_eq, nI_clamp, vpn, pk_sub]; exact hf), e1, nI_1, nI_clamp (by omega), nI_clamp (by omega), vpn (by omega), vpn (by omega), nI_1]
          refine ⟨by omega, by omega, hQ _ _ ⟨by simp, fun i e hi => ?_⟩⟩
          rcases app_get hi with ⟨g1, g2⟩ | ⟨g1, g2⟩
          · rw [upd_ne _ _ (by omega), upd_ne _ _ (by omega), upd_ne _ _ (by omega), upd_ne _ _ (by omega)]; exact hr.2 i e g2
          · rw [g1, g2, upd_ne _ _ (by omega), upd_at, upd_at]; exact ⟨rfl, rfl⟩
    · have h5 : ∀ Q2 : Int32 → Prop, wX5_isIn y 0 20 Q2 = Q2 0 := fun Q2 => e_isInF (lo := 0) (hi := 20) hy (by omega) (by omega)
      have h6 : ∀ Q2 : Int32 → Prop, wX6_in y 0 20 Q2 = Q2 0 := fun Q2 => r_inF (lo := 0) (hi := 20) hy (by omega) (by omega)
      refine refuse (-1) (fun Q hQ => hcl Q ?_) (fun Q hQ => hmd Q ?_)
      · rw [h5, ifT rfl]; exact hQ
      · unfold wX6_see_J14
        rw [h6, ifT rfl]; exact hQ
  · refine refuse (-1) (fun Q hQ => ?_) (fun Q hQ => ?_)
    · unfold wX5_see
      rw [ifF g1, h1, e_isC_F g2 (by omega), ifT rfl]; exact hQ
    · unfold wX6_see
      rw [ifF g1, r_isC_F h0 g2 m1 (by omega), ifT rfl]; exact hQ
/-! what is written -/
def okX (T : List Nat) : Prop := T.length ≤ 200 ∧ ∀ x ∈ T, 32 ≤ x ∧ x ≤ 126
def ctX (T : List Nat) (tl : Nat → Int32) (tn : Int32) : Prop := tn = nI T.length ∧ ∀ j x, T[j]? = some x → tl j = nI x
theorem nar_fin : ∀ j, j < 127 → vp_nar .char (((nI j).toUInt32 % 65536).toInt32) = nI j := by decide +kernel
theorem sim_write {T : List Nat} {tl mt : Nat → Int32} {tn my : Int32} (x : Int32) (hz : okX T) (hc : ctX T tl tn) (hr : ctX T mt my) :
    ∃ (r : Int32) (T' : List Nat), okX T' ∧
      (∀ Q : Int32 → (Nat → Int32) → Int32 → Prop, (∀ tl' tn', ctX T' tl' tn' → Q r tl' tn') → wX5_write x tl tn Q) ∧
      (∀ Q : Int32 → (Nat → Int32) → Int32 → Prop, (∀ mt' my', ctX T' mt' my' → Q r mt' my') → wX6_write x mt my Q) := by
  have hl := hz.1
  by_cases hy : rg x 32 126
  · obtain ⟨j, j0, j1, rfl⟩ := hy
    have h5 : ∀ Q2 : Int32 → Prop, wX5_isIn (nI j) 32 126 Q2 = Q2 1 := fun Q2 => e_isInT (lo := 32) (hi := 126) j0 j1 (by omega)
    have h6 : ∀ Q2 : Int32 → Prop, wX6_in (nI j) 32 126 Q2 = Q2 1 := fun Q2 => r_inT (lo := 32) (hi := 126) j0 j1 (by omega)
    have v200 : (200 : Int32) = nI 200 := rfl
    by_cases hf : T.length = 200
    · refine ⟨-3, T, hz, fun Q hQ => ?_, fun Q hQ => ?_⟩
      · unfold wX5_write
        rw [h5, ifF (by decide), ifF (by rw [hc.1, hf]; decide)]
        exact hQ _ _ hc
      · unfold wX6_write
        rw [h6, ifF (by decide), ifT (by rw [hr.1, hf]; rfl)]
        exact hQ _ _ hr
    · have hlt : nI T.length < (200 : Int32) := (nI_ltI (a := T.length) (b := 200) (by omega) (by omega)).mpr (by omega)
      refine ⟨nI (T.length + 1), T ++ [j], ⟨by simp; omega, fun e he => ?_⟩, fun Q hQ => ?_, fun Q hQ => ?_⟩
      · rcases List.mem_append.mp he with g | g
        · exact hz.2 e g
        · rw [List.mem_singleton.mp g]; exact ⟨j0, j1⟩
      · unfold wX5_write
        rw [h5, ifF (by decide), hc.1, ifT hlt]
        unfold wX4_append
        rw [ifF (nI_pos (by omega)), ifF (Int32.not_le.mpr hlt), vpn (by omega), nI_clamp (by omega), nar_fin j (by omega), nI_1]
        refine ⟨by omega, hQ _ _ ⟨by simp, fun i e hi => ?_⟩⟩
        rcases app_get hi with ⟨g1, g2⟩ | ⟨g1, g2⟩
        · rw [upd_ne _ _ (by omega)]; exact hc.2 i e g2
        · rw [g1, g2, upd_at]
      · unfold wX6_write
        rw [h6, ifF (by decide), hr.1, ifF (by rw [v200]; intro g; exact hf ((nI_eq (by omega) (by omega)).mp g)), vpn (by omega), nI_clamp (by omega), nI_1]
        refine ⟨by omega, hQ _ _ ⟨by simp, fun i e hi => ?_⟩⟩
        rcases app_get hi with ⟨g1, g2⟩ | ⟨g1, g2⟩
        · rw [upd_ne _ _ (by omega)]; exact hr.2 i e g2
        · rw [g1, g2, upd_at]
  · have h5 : ∀ Q2 : Int32 → Prop, wX5_isIn x 32 126 Q2 = Q2 0 := fun Q2 => e_isInF (lo := 32) (hi := 126) hy (by omega) (by omega)
    have h6 : ∀ Q2 : Int32 → Prop, wX6_in x 32 126 Q2 = Q2 0 := fun Q2 => r_inF (lo := 32) (hi := 126) hy (by omega) (by omega)
    refine ⟨-1, T, hz, fun Q hQ => ?_, fun Q hQ => ?_⟩
    · unfold wX5_write
      rw [h5, ifT rfl]; exact hQ _ _ hc
    · unfold wX6_write
      rw [h6, ifT rfl]; exact hQ _ _ hr
