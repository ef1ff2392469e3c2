/-! reading: letters -/
def ltr (T : List Nat) (j : Nat) : Nat := T.getD j 0
abbrev isF (T : List Nat) (j : Nat) : Prop := 48 ≤ ltr T j ∧ ltr T j ≤ 57
theorem ltr_in {T : List Nat} {j : Nat} (hz : okX T) (h : j < T.length) : T[j]? = some (ltr T j) ∧ 32 ≤ ltr T j ∧ ltr T j ≤ 126 := by
  have e : T[j]? = some (ltr T j) := by
    unfold ltr
    rw [List.getD_eq_getElem?_getD, List.getElem?_eq_getElem h]
    rfl
  exact ⟨e, hz.2 _ (List.mem_of_getElem? e)⟩
theorem ltr_out {T : List Nat} {j : Nat} (h : T.length ≤ j) : ltr T j = 0 := by
  unfold ltr
  rw [List.getD_eq_getElem?_getD, List.getElem?_eq_none h]
  rfl
theorem ltr_le {T : List Nat} (hz : okX T) (j : Nat) : ltr T j ≤ 126 := by
  rcases Nat.lt_or_ge j T.length with h | h
  · exact (ltr_in hz h).2.2
  · rw [ltr_out h]; omega
theorem ltr_lt {T : List Nat} {j : Nat} (h : ltr T j ≠ 0) : j < T.length := by
  rcases Nat.lt_or_ge j T.length with g | g
  · exact g
  · exact absurd (ltr_out g) h
section RD
variable {T : List Nat} {tl mt : Nat → Int32} {tn my : Int32}
theorem e_next {j : Nat} {Q : Int32 → Prop} (hz : okX T) (hc : ctX T tl tn) (hj : j < 1000) : wX4_next tl tn (nI j) Q = Q (nI (ltr T j)) := by
  have hl := hz.1
  unfold wX4_next
  rw [ifF (nI_pos (by omega)), hc.1]
  rcases Nat.lt_or_ge j T.length with h | h
  · have g := ltr_in hz h
    have v200 : (200 : Int32) = nI 200 := rfl
    rw [ifF (by simp (disch := omega) only [zl_0, zl_1, zl_2, zl_3, zl_4, zl_5, zl_6, zl_7, zl_8, zl_9, zl_10, zl_14, zl_16, zl_20, zl_24, zl_32, zl_40, zl_42, zl_44, zl_48, zl_56, zl_57, zl_59, zl_60, zl_61, zl_64, zl_99, zl_100, zl_110, zl_126, zl_128, zl_200, zl_392, zl_999, zl_9999, nI_add, pk_mul, nI_leI, nI_ltI, nI_eq, nI_clamp, vpn, pk_sub]; omega), v200, ifF (by simp (disch := omega) only [zl_0, zl_1, zl_2, zl_3, zl_4, zl_5, zl_6, zl_7, zl_8, zl_9, zl_10, zl_14, zl_16, zl_20, zl_24, zl_32, zl_40, zl_42, zl_44, zl_48, zl_56, zl_57, zl_59, zl_60, zl_61, zl_64, zl_99, zl_100, zl_110, zl_126, zl_128, zl_200, zl_392, zl_999, zl_9999, nI_add, pk_mul, nI_leI, nI_ltI, nI_eq, nI_clamp, vpn, pk_sub]; omega), nI_clamp (by omega), vpn (by omega), hc.2 j _ g.1]
    exact propext ⟨fun q => q.2.2, fun q => ⟨by omega, (pk_charN (q := ltr T j) (by omega)).1, q⟩⟩
  · rw [ifT (by simp (disch := omega) only [zl_0, zl_1, zl_2, zl_3, zl_4, zl_5, zl_6, zl_7, zl_8, zl_9, zl_10, zl_14, zl_16, zl_20, zl_24, zl_32, zl_40, zl_42, zl_44, zl_48, zl_56, zl_57, zl_59, zl_60, zl_61, zl_64, zl_99, zl_100, zl_110, zl_126, zl_128, zl_200, zl_392, zl_999, zl_9999, nI_add, pk_mul, nI_leI, nI_ltI, nI_eq, nI_clamp, vpn, pk_sub]; omega), ltr_out h]
    rfl
theorem e_figure {j : Nat} {Q : Int32 → Int32 → Prop} (hz : okX T) (hc : ctX T tl tn) (hj : j < 1000) : wX4_figure tl tn (nI j) Q = if isF T j then Q (nI (ltr T j - 48)) (nI (j + 1)) else Q (-4) (nI j) := by
  have hl := ltr_le hz j
  have v48 : (48 : Int32) = nI 48 := rfl
  have v57 : (57 : Int32) = nI 57 := rfl
  unfold wX4_figure
  rw [e_next hz hc hj, v48, v57]
  by_cases h1 : ltr T j < 48
  · rw [ifT ((nI_ltI (by omega) (by omega)).mpr h1), if_neg (fun g => by have := g.1; omega)]
  · rw [ifF (fun g => h1 ((nI_ltI (by omega) (by omega)).mp g))]
    by_cases h2 : ltr T j ≤ 57
    · rw [ifT ((nI_leI (by omega) (by omega)).mpr h2), if_pos ⟨by omega, h2⟩, pk_sub (by omega), nI_1]
    · rw [ifF (fun g => h2 ((nI_leI (by omega) (by omega)).mp g)), if_neg (fun g => h2 g.2)]
theorem e_takes {j c : Nat} {Q : Int32 → Int32 → Prop} (hz : okX T) (hc : ctX T tl tn) (hj : j < 1000) (hcc : c < 200) : wX4_takes (nI c) tl tn (nI j) Q = if ltr T j = c then Q 1 (nI (j + 1)) else Q 0 (nI j) := by
  have hl := ltr_le hz j
  unfold wX4_takes
  rw [e_next hz hc hj, nI_1]
  by_cases h : ltr T j = c
  · rw [ifT (by rw [h]), if_pos h]
  · rw [ifF (fun g => h ((nI_eq (by omega) (by omega)).mp g)), if_neg h]
/-- one figure or two: value and where it ends -/
def nmV (T : List Nat) (j : Nat) : Nat := if isF T (j + 1) then 10 * (ltr T j - 48) + (ltr T (j + 1) - 48) else ltr T j - 48
def nmE (T : List Nat) (j : Nat) : Nat := if isF T (j + 1) then j + 2 else j + 1
theorem nmV_lt {j : Nat} (h : isF T j) : nmV T j < 100 := by
  unfold nmV
  have := h.2
  split
  · rename_i g; have := g.2; omega
  · omega
theorem e_number {j : Nat} {Q : Int32 → Int32 → Prop} (hz : okX T) (hc : ctX T tl tn) (hj : j < 900) : wX4_number tl tn (nI j) Q = if isF T j then Q (nI (nmV T j)) (nI (nmE T j)) else Q (-4) (nI j) := by
  unfold wX4_number
  rw [e_figure hz hc (by omega)]
  by_cases h : isF T j
  · have h1 := h.1
    have h2 := h.2
    rw [if_pos h, if_pos h, ifF (nI_ne4 _ (by omega)), e_figure hz hc (by omega)]
    unfold nmV nmE
    by_cases g : isF T (j + 1)
    · have g2 := g.2
      have v10 : (10 : Int32) = nI 10 := rfl
      rw [if_pos g, if_pos g, if_pos g, ifF (nI_ne4 _ (by omega)), v10, pk_mul, nI_add]
    · rw [if_neg g, if_neg g, if_neg g, ifT rfl]
  · rw [if_neg h, if_neg h, ifT rfl]
/-! the reference -/
def lI (T : List Nat) (j : Nat) : Int32 := if j < T.length then nI (ltr T j) else -1
theorem r_letter {j : Nat} {Q : Int32 → Prop} (hz : okX T) (hc : ctX T mt my) (hj : j < 1000) : wX6_letterAt (nI j) mt my Q = Q (lI T j) := by
  have hl := hz.1
  unfold wX6_letterAt lI
  rw [hc.1]
  rcases Nat.lt_or_ge j T.length with h | h
  · have g := ltr_in hz h
    rw [ifF (by simp (disch := omega) only [zl_0, zl_1, zl_2, zl_3, zl_4, zl_5, zl_6, zl_7, zl_8, zl_9, zl_10, zl_14, zl_16, zl_20, zl_24, zl_32, zl_40, zl_42, zl_44, zl_48, zl_56, zl_57, zl_59, zl_60, zl_61, zl_64, zl_99, zl_100, zl_110, zl_126, zl_128, zl_200, zl_392, zl_999, zl_9999, nI_add, pk_mul, nI_leI, nI_ltI, nI_eq, nI_clamp, vpn, pk_sub]; omega), if_pos h, nI_clamp (by omega), vpn (by omega), hc.2 j _ g.1]
    exact propext ⟨fun q => q.2, fun q => ⟨by omega, q⟩⟩
  · rw [ifT (by simp (disch := omega) only [zl_0, zl_1, zl_2, zl_3, zl_4, zl_5, zl_6, zl_7, zl_8, zl_9, zl_10, zl_14, zl_16, zl_20, zl_24, zl_32, zl_40, zl_42, zl_44, zl_48, zl_56, zl_57, zl_59, zl_60, zl_61, zl_64, zl_99, zl_100, zl_110, zl_126, zl_128, zl_200, zl_392, zl_999, zl_9999, nI_add, pk_mul, nI_leI, nI_ltI, nI_eq, nI_clamp, vpn, pk_sub]; omega), if_neg (by omega)]
theorem lI_eq {j c : Nat} (hz : okX T) (hc : 1 ≤ c) (hc2 : c < 200) : lI T j = nI c ↔ ltr T j = c := by
  have hl := ltr_le hz j
  unfold lI
  rcases Nat.lt_or_ge j T.length with h | h
  · rw [if_pos h]
    exact nI_eq (by omega) (by omega)
  · rw [if_neg (by omega), ltr_out h]
    constructor
    · intro g
      have := congrArg Int32.toInt g
      rw [nI_toInt (by omega)] at this
      have e : (-1 : Int32).toInt = -1 := by decide
      rw [e] at this
      omega
    · intro g; omega
theorem lI_F {j : Nat} (h : isF T j) : lI T j = nI (ltr T j) := by
  unfold lI
  rw [if_pos (ltr_lt (by have := h.1; omega))]
theorem r_fig {j : Nat} {Q : Int32 → Prop} (hz : okX T) : wX6_isFigure (lI T j) Q = if isF T j then Q 1 else Q 0 := by
  have hl := ltr_le hz j
  unfold wX6_isFigure
  by_cases h : isF T j
  · rw [if_pos h, lI_F h]
    exact r_inT (lo := 48) (hi := 57) h.1 h.2 (by omega)
  · rw [if_neg h]
    refine r_inF (lo := 48) (hi := 57) (fun ⟨i, i1, i2, i3⟩ => h ?_) (by omega) (by omega)
    have g := (lI_eq (T := T) (j := j) hz (c := i) (by omega) (by omega)).mp i3
    exact ⟨by omega, by omega⟩
theorem r_numT {j e : Nat} {x1 x2 : Int32} {Q : Int32 → Int32 → Prop} (hz : okX T) (hc : ctX T mt my) (hj : j < 900) (he : 1 ≤ e) (he2 : e < 200) (hF : isF T j) (hin : ∀ Q2 : Int32 → Prop, wX6_in (nI (nmV T j)) x1 x2 Q2 = Q2 1) (hE : ltr T (nmE T j) = e) (hQ : Q (nI (nmV T j)) (nI (nmE T j + 1))) : wX6_number x1 x2 (nI e) mt my (nI j) Q := by
  have h1 := hF.1
  have h2 := hF.2
  have v48 : (48 : Int32) = nI 48 := rfl
  have v10 : (10 : Int32) = nI 10 := rfl
  unfold wX6_number
  rw [nI_1, nI_1, nI_1, r_letter hz hc (by omega), r_fig hz, if_pos hF, ifF (by decide), r_letter hz hc (by omega), nmx, lI_F hF, v48, pk_sub (by omega), r_letter hz hc (by omega), r_fig hz]
  unfold nmV nmE at *
  by_cases g : isF T (j + 1)
  · have g1 := g.1
    have g2 := g.2
    rw [if_pos g] at hQ hE hin
    rw [if_pos g] at hQ
    rw [if_pos g, ifF (by decide), r_letter hz hc (by omega), lI_F g, nmx, v10, pk_mul, nI_add, pk_sub (by omega)]
    have e1 : 10 * (ltr T j - 48) + ltr T (j + 1) - 48 = 10 * (ltr T j - 48) + (ltr T (j + 1) - 48) := by omega
    rw [e1, hin, ifF (by decide), r_letter hz hc (by omega), ifT ((lI_eq hz he he2).mpr hE)]
    exact hQ
  · rw [if_neg g] at hQ hE hin
    rw [if_neg g] at hQ
    rw [if_neg g, ifT rfl, hin, ifF (by decide), r_letter hz hc (by omega), ifT ((lI_eq hz he he2).mpr hE)]
    exact hQ
theorem r_numF {j e : Nat} {x1 x2 : Int32} {Q : Int32 → Int32 → Prop} (hz : okX T) (hc : ctX T mt my) (hj : j < 900) (he : 1 ≤ e) (he2 : e < 200) (h : ¬ isF T j ∨ (isF T j ∧ ((∀ Q2 : Int32 → Prop, wX6_in (nI (nmV T j)) x1 x2 Q2 = Q2 0) ∨ ((∀ Q2 : Int32 → Prop, wX6_in (nI (nmV T j)) x1 x2 Q2 = Q2 1) ∧ ¬ ltr T (nmE T j) = e)))) (hQ : ∀ ma, Q (-1) ma) : wX6_number x1 x2 (nI e) mt my (nI j) Q := by
  have v48 : (48 : Int32) = nI 48 := rfl
  have v10 : (10 : Int32) = nI 10 := rfl
  unfold wX6_number
  rw [nI_1, nI_1, nI_1, r_letter hz hc (by omega), r_fig hz]
  by_cases hF : isF T j
  · have h1 := hF.1
    have h2 := hF.2
    have h := (h.resolve_left (fun g => g hF)).2
    rw [if_pos hF, ifF (by decide), r_letter hz hc (by omega), nmx, lI_F hF, v48, pk_sub (by omega), r_letter hz hc (by omega), r_fig hz]
    unfold nmV nmE at h
    by_cases g : isF T (j + 1)
    · have g1 := g.1
      have g2 := g.2
      rw [if_pos g, if_pos g] at h
      rw [if_pos g, ifF (by decide), r_letter hz hc (by omega), lI_F g, nmx, v10, pk_mul, nI_add, pk_sub (by omega)]
      have e1 : 10 * (ltr T j - 48) + ltr T (j + 1) - 48 = 10 * (ltr T j - 48) + (ltr T (j + 1) - 48) := by omega
      rw [e1]
      rcases h with hin | ⟨hin, hE⟩
      · rw [hin, ifT rfl]; exact hQ _
      · rw [hin, ifF (by decide), r_letter hz hc (by omega), ifF (fun g => hE ((lI_eq hz he he2).mp g))]
        exact hQ _
    · rw [if_neg g, if_neg g] at h
      rw [if_neg g, ifT rfl]
      rcases h with hin | ⟨hin, hE⟩
      · rw [hin, ifT rfl]; exact hQ _
      · rw [hin, ifF (by decide), r_letter hz hc (by omega), ifF (fun g => hE ((lI_eq hz he he2).mp g))]
        exact hQ _
  · rw [if_neg hF, ifT rfl]
    exact hQ _
end RD
