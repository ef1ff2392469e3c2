/-! reading: items -/
/-- a draft: courtiers, news, kinds, whom they heed as told, where news is, beliefs -/
abbrev DT : Type := Nat × Nat × (Nat → Nat) × (Nat → Nat) × (Nat → Nat) × (Nat → Nat → Nat)
abbrev tM (d : DT) : Nat := d.1
abbrev tK (d : DT) : Nat := d.2.1
abbrev tC (d : DT) : Nat → Nat := d.2.2.1
abbrev tR (d : DT) : Nat → Nat := d.2.2.2.1
abbrev tA (d : DT) : Nat → Nat := d.2.2.2.2.1
abbrev tB (d : DT) : Nat → Nat → Nat := d.2.2.2.2.2
def okR (d : DT) : Prop := tM d ≤ 7 ∧ tK d ≤ 6 ∧ (∀ c, c < tM d → tC d c ≤ 3 ∧ (tR d c ≤ 6 ∨ tR d c = 9)) ∧ (∀ n, n < tK d → tA d n < tM d) ∧ (∀ n c, tB d n c ≤ 9) ∧ (∀ n, tK d ≤ n → ∀ c, tB d n c = 0)∧ (∀ n c, tM d ≤ c → tB d n c = 0)
def cR (d : DT) (kd hd pl st ho be : Nat → Int32) (nc nn : Int32) : Prop := nc = nI (tM d) ∧ nn = nI (tK d) ∧ (∀ c, c < tM d → kd c = nI (tC d c) ∧ hd c = nI (tR d c) ∧ pl c = nI c ∧ st c = nI c) ∧ (∀ n, n < tK d → ho n = nI (tA d n)) ∧ ∀ n, n < 6 → ∀ c, c < 7 → be (n * 7 + c) = nI (tB d n c)
def mR (d : DT) (md mb : Nat → Int32) : Prop := md 0 = nI (tM d) ∧ md 1 = nI (tK d) ∧ (∀ c, c < tM d → md (2 + c) = nI (tC d c) ∧ md (9 + c) = nI (tR d c) ∧ mb (1 + c) = nI c) ∧ (∀ n, n < tK d → mb (8 + n) = nI (tA d n)) ∧ (∀ n, n < 6 → ∀ c, c < 7 → mb (14 + 7 * n + c) = nI (tB d n c)) ∧ mb 0 = 0
def addC (d : DT) (κ r : Nat) : DT := (tM d + 1, tK d, (fun c => if c = tM d then κ else tC d c), (fun c => if c = tM d then r else tR d c), tA d, tB d)
def addN (d : DT) (a : Nat) (b : Nat → Nat) : DT := (tM d, tK d + 1, tC d, tR d, (fun n => if n = tK d then a else tA d n), fun n c => if n = tK d ∧ c < tM d then b c else tB d n c)
theorem addC_ok {d : DT} {κ r : Nat} (h : okR d) (hm : tM d < 7) (h1 : κ ≤ 3) (h2 : r ≤ 6 ∨ r = 9) : okR (addC d κ r) := by
  refine ⟨hm, h.2.1, fun c hc => ?_, fun n hn => Nat.lt_succ_of_lt (h.2.2.2.1 n hn), h.2.2.2.2.1, h.2.2.2.2.2.1, fun n c hc => h.2.2.2.2.2.2 n c (by have : tM d + 1 ≤ c := hc; omega)⟩
  have hc : c < tM d + 1 := hc
  show (if c = tM d then κ else tC d c) ≤ 3 ∧ ((if c = tM d then r else tR d c) ≤ 6 ∨ (if c = tM d then r else tR d c) = 9)
  by_cases e : c = tM d
  · rw [if_pos e, if_pos e]; exact ⟨h1, h2⟩
  · rw [if_neg e, if_neg e]; exact h.2.2.1 c (by omega)
theorem addN_ok {d : DT} {a : Nat} {b : Nat → Nat} (h : okR d) (hk : tK d < 6) (h1 : a < tM d) (h2 : ∀ c, c < tM d → b c ≤ 9) : okR (addN d a b) := by
  refine ⟨h.1, hk, h.2.2.1, fun n hn => ?_, fun n c => ?_, fun n hn c => ?_, fun n c hc => ?_⟩
  · have hn : n < tK d + 1 := hn
    show (if n = tK d then a else tA d n) < tM d
    by_cases e : n = tK d
    · rw [if_pos e]; exact h1
    · rw [if_neg e]; exact h.2.2.2.1 n (by omega)
  · show (if n = tK d ∧ c < tM d then b c else tB d n c) ≤ 9
    by_cases e : n = tK d ∧ c < tM d
    · rw [if_pos e]; exact h2 c e.2
    · rw [if_neg e]; exact h.2.2.2.2.1 n c
  · have hn : tK d + 1 ≤ n := hn
    show (if n = tK d ∧ c < tM d then b c else tB d n c) = 0
    rw [if_neg (by omega)]
    exact h.2.2.2.2.2.1 n (by omega) c
  · have hc : tM d ≤ c := hc
    show (if n = tK d ∧ c < tM d then b c else tB d n c) = 0
    rw [if_neg (by omega)]
    exact h.2.2.2.2.2.2 n c hc
theorem e_in0 {v h : Nat} {Q : Int32 → Prop} (hv : v < 1000) (hh : h < 1000) : wX5_isIn (nI v) 0 (nI h) Q = if v ≤ h then Q 1 else Q 0 := by
  by_cases g : v ≤ h
  · rw [if_pos g]
    exact e_isInT (lo := 0) (Nat.zero_le v) g (by omega)
  · rw [if_neg g]
    refine e_isInF (lo := 0) (fun ⟨j, j1, j2, j3⟩ => g ?_) (by omega) (by omega)
    have := (nI_eq (by omega) (by omega)).mp j3
    omega
theorem e_in4 {h : Nat} {Q : Int32 → Prop} : wX5_isIn (-4) 0 (nI h) Q = Q 0 := by
  unfold wX5_isIn
  rw [ifT (by decide)]
/-- what a courtier's item must be, from j on -/
def cOK (T : List Nat) (j m : Nat) : Prop := isF T j ∧ nmV T j ≤ 3 ∧ ltr T (nmE T j) = 44 ∧ isF T (nmE T j + 1) ∧ (nmV T (nmE T j + 1) ≤ 6 ∨ nmV T (nmE T j + 1) = 9) ∧ ltr T (nmE T (nmE T j + 1)) = 59 ∧ m < 7
def nOK (T : List Nat) (j m k : Nat) : Prop := isF T j ∧ nmV T j < m ∧ ltr T (nmE T j) = 44 ∧ k < 6 ∧ (∀ c, c < m → isF T (nmE T j + 1 + c)) ∧ ltr T (nmE T j + 1 + m) = 59
theorem nmE_b (T : List Nat) (j : Nat) : j + 1 ≤ nmE T j ∧ nmE T j ≤ j + 2 := by
  unfold nmE
  split <;> omega
section RD
variable {T : List Nat} {tl mt : Nat → Int32} {tn my : Int32} {d : DT} {kd hd pl st ho be md mb : Nat → Int32} {nc nn : Int32}
theorem s_rc {j : Nat} {Q : Int32 → Int32 → (Nat → Int32) → (Nat → Int32) → (Nat → Int32) → (Nat → Int32) → Int32 → Prop} (hz : okX T) (hc : ctX T tl tn) (hj : j < 300) (h : cR d kd hd pl st ho be nc nn) (ok : okR d)
    (hF : ¬ cOK T j (tM d) → ∀ tc a b c e f, Q 0 tc a b c e f) (hT : cOK T j (tM d) → ∀ a b c e f, cR (addC d (nmV T j) (nmV T (nmE T j + 1))) a b c e ho be f nn → Q 1 (nI (nmE T (nmE T j + 1) + 1)) a b c e f) : wX4_readCourtier tl tn (nI j) kd hd pl st nc Q := by
  have b1 := nmE_b T j
  have b2 := nmE_b T (nmE T j + 1)
  have v3 : (3 : Int32) = nI 3 := rfl
  have v6 : (6 : Int32) = nI 6 := rfl
  have v44 : (44 : Int32) = nI 44 := rfl
  have v59 : (59 : Int32) = nI 59 := rfl
  have hadd : ∀ (v1 v2 : Nat) (Q2 : Int32 → (Nat → Int32) → (Nat → Int32) → (Nat → Int32) → (Nat → Int32) → Int32 → Prop), (¬ tM d < 7 → ∀ a b c e f, Q2 0 a b c e f) → (tM d < 7 → ∀ a b c e f, cR (addC d v1 v2) a b c e ho be f nn → Q2 1 a b c e f) → wX0_addCourtier (nI v1) (nI v2) kd hd pl st nc Q2 := by
    intro v1 v2 Q2 g1 g2
    have v7 : (7 : Int32) = nI 7 := rfl
    have hm := ok.1
    unfold wX0_addCourtier
    rw [h.1, v7]
    by_cases e : tM d < 7
    · refine ifp ((nI_ltI (by omega) (by omega)).mpr e) ?_
      rw [e_put (by omega) (by decide), e_put (by omega) (by decide), e_put (by omega) (by decide), e_put (by omega) (by decide), nI_1]
      refine g2 e _ _ _ _ _ ⟨rfl, h.2.1, fun c hc => ?_, h.2.2.2.1, h.2.2.2.2⟩
      have hc : c < tM d + 1 := hc
      show upd kd (tM d) (nI v1) c = nI (if c = tM d then v1 else tC d c) ∧ upd hd (tM d) (nI v2) c = nI (if c = tM d then v2 else tR d c) ∧ upd pl (tM d) (nI (tM d)) c = nI c ∧ upd st (tM d) (nI (tM d)) c = nI c
      by_cases e2 : c = tM d
      · rw [e2, upd_at, upd_at, upd_at, upd_at, if_pos rfl, if_pos rfl]; exact ⟨rfl, rfl, rfl, rfl⟩
      · rw [upd_ne _ _ e2, upd_ne _ _ e2, upd_ne _ _ e2, upd_ne _ _ e2, if_neg e2, if_neg e2]; exact h.2.2.1 c (by omega)
    · exact ifn (fun g => e ((nI_ltI (by omega) (by omega)).mp g)) (g1 e _ _ _ _ _)
  unfold wX4_readCourtier
  rw [e_number hz hc (by omega), v3, v6, v44, v59]
  by_cases f1 : isF T j
  · have n1 := nmV_lt f1
    rw [if_pos f1, e_in0 (by omega) (by omega)]
    by_cases f2 : nmV T j ≤ 3
    · rw [if_pos f2, ifF (by decide), e_takes hz hc (by omega) (by omega)]
      by_cases f3 : ltr T (nmE T j) = 44
      · rw [if_pos f3, ifF (by decide), e_number hz hc (by omega)]
        by_cases f4 : isF T (nmE T j + 1)
        · have n2 := nmV_lt f4
          rw [if_pos f4, e_in0 (by omega) (by omega)]
          have fin : (nmV T (nmE T j + 1) ≤ 6 ∨ nmV T (nmE T j + 1) = 9) → wX4_takes (nI 59) tl tn (nI (nmE T (nmE T j + 1))) (fun r_15 tc_16 => ((r_15 = 0 → (Q (0 : Int32) tc_16 kd hd pl st nc)) ∧ (¬ r_15 = 0 → (wX0_addCourtier (nI (nmV T j)) (nI (nmV T (nmE T j + 1))) kd hd pl st nc (fun r_19 kd_20 hd_21 pl_22 st_23 nc_24 => ((r_19 = 0 → (Q (0 : Int32) tc_16 kd_20 hd_21 pl_22 st_23 nc_24)) ∧ (¬ r_19 = 0 → (Q (1 : Int32) tc_16 kd_20 hd_21 pl_22 st_23 nc_24)))))))) := by
            intro f5
            rw [e_takes hz hc (by omega) (by omega)]
            by_cases f6 : ltr T (nmE T (nmE T j + 1)) = 59
            · rw [if_pos f6]
              refine ifn (by decide) (hadd _ _ _ (fun g a b c e f => ?_) (fun g a b c e f g2 => ?_))
              · exact ifp rfl (hF (fun q => g q.2.2.2.2.2.2) _ _ _ _ _ _)
              · exact ifn (by decide) (hT ⟨f1, f2, f3, f4, f5, f6, g⟩ _ _ _ _ _ g2)
            · rw [if_neg f6]
              exact ifp rfl (hF (fun q => f6 q.2.2.2.2.2.1) _ _ _ _ _ _)
          by_cases f5 : nmV T (nmE T j + 1) ≤ 6
          · rw [if_pos f5, ifF (by decide)]
            exact fin (Or.inl f5)
          · rw [if_neg f5, ifT rfl]
            by_cases f5b : nmV T (nmE T j + 1) = 9
            · exact ifp (by rw [f5b]; rfl) (fin (Or.inr f5b))
            · refine ifn (fun g => f5b ((nI_eq (b := 9) (by omega) (by omega)).mp g)) (hF (fun q => ?_) _ _ _ _ _ _)
              rcases q.2.2.2.2.1 with g | g
              · exact f5 g
              · exact f5b g
        · rw [if_neg f4, e_in4, ifT rfl, ifF (by decide)]
          exact hF (fun q => f4 q.2.2.2.1) _ _ _ _ _ _
      · rw [if_neg f3, ifT rfl]
        exact hF (fun q => f3 q.2.2.1) _ _ _ _ _ _
    · rw [if_neg f2, ifT rfl]
      exact hF (fun q => f2 q.2.1) _ _ _ _ _ _
  · rw [if_neg f1, e_in4, ifT rfl]
    exact hF (fun q => f1 q.1) _ _ _ _ _ _
theorem r_rc {j : Nat} {Q : Int32 → (Nat → Int32) → (Nat → Int32) → Int32 → Prop} (hz : okX T) (hc : ctX T mt my) (hj : j < 300) (h : mR d md mb) (ok : okR d)
    (hF : ¬ cOK T j (tM d) → ∀ a b c, Q 0 a b c) (hT : cOK T j (tM d) → ∀ a b, mR (addC d (nmV T j) (nmV T (nmE T j + 1))) a b → Q 1 a b (nI (nmE T (nmE T j + 1) + 1))) : wX6_readsCourtier mt my md mb (nI j) Q := by
  have b1 := nmE_b T j
  have b2 := nmE_b T (nmE T j + 1)
  have v44 : (44 : Int32) = nI 44 := rfl
  have v59 : (59 : Int32) = nI 59 := rfl
  have hin3 : ∀ v, v < 100 → ∀ Q2 : Int32 → Prop, wX6_in (nI v) 0 3 Q2 = if v ≤ 3 then Q2 1 else Q2 0 := fun v hv Q2 => e_in0 (h := 3) (by omega) (by omega)
  have hin9 : ∀ v, v < 100 → ∀ Q2 : Int32 → Prop, wX6_in (nI v) 0 9 Q2 = if v ≤ 9 then Q2 1 else Q2 0 := fun v hv Q2 => e_in0 (h := 9) (by omega) (by omega)
  unfold wX6_readsCourtier
  rw [v44, v59]
  by_cases f1 : isF T j ∧ nmV T j ≤ 3 ∧ ltr T (nmE T j) = 44
  · have n1 := nmV_lt f1.1
    refine r_numT hz hc (by omega) (by omega) (by omega) f1.1 (fun Q2 => by rw [hin3 _ n1, if_pos f1.2.1]) f1.2.2 ?_
    refine ifp (nI_pos' (by omega)) ?_
    by_cases f2 : isF T (nmE T j + 1) ∧ nmV T (nmE T j + 1) ≤ 9 ∧ ltr T (nmE T (nmE T j + 1)) = 59
    · have n2 := nmV_lt f2.1
      refine r_numT hz hc (by omega) (by omega) (by omega) f2.1 (fun Q2 => by rw [hin9 _ n2, if_pos f2.2.1]) f2.2.2 ?_
      refine ifn (nI_pos (by omega)) ?_
      by_cases g7 : nmV T (nmE T j + 1) = 7
      · exact ifp (by rw [g7]; rfl) (hF (fun q => by have := q.2.2.2.2.1; omega) _ _ _)
      refine ifn (fun g => g7 ((nI_eq (b := 7) (by omega) (by omega)).mp g)) ?_
      by_cases g8 : nmV T (nmE T j + 1) = 8
      · exact ifp (by rw [g8]; rfl) (hF (fun q => by have := q.2.2.2.2.1; omega) _ _ _)
      refine ifn (fun g => g8 ((nI_eq (b := 8) (by omega) (by omega)).mp g)) ?_
      have hm := ok.1
      rw [h.1]
      by_cases gm : tM d = 7
      · exact ifp (by rw [gm]; rfl) (hF (fun q => by have := q.2.2.2.2.2.2; omega) _ _ _)
      refine ifn (fun g => gm ((nI_eq (b := 7) (by omega) (by omega)).mp g)) ?_
      unfold wX6_stands
      have e2 : (2 : Int32) + nI (tM d) = nI (2 + tM d) := nI_add 2 _
      have e9 : (9 : Int32) + nI (tM d) = nI (9 + tM d) := nI_add 9 _
      have e1 : (1 : Int32) + nI (tM d) = nI (1 + tM d) := nI_add 1 _
      rw [nmx, h.1, e2, e9, e1, nI_clamp (by omega), nI_clamp (by omega), nI_clamp (by omega), vpn (by omega), vpn (by omega), vpn (by omega), upd_ne _ _ (by omega), upd_ne _ _ (by omega), h.1, nI_1]
      refine ⟨by omega, by omega, by omega, hT ⟨f1.1, f1.2.1, f1.2.2, f2.1, by omega, f2.2.2, by omega⟩ _ _ ⟨upd_at _ _ _, ?_, fun c hc => ?_, fun n hn => ?_, fun n hn c hc => ?_, ?_⟩⟩
      · rw [upd_ne _ _ (by omega), upd_ne _ _ (by omega), upd_ne _ _ (by omega)]; exact h.2.1
      · have hc : c < tM d + 1 := hc
        show _ = nI (if c = tM d then nmV T j else tC d c) ∧ _ = nI (if c = tM d then nmV T (nmE T j + 1) else tR d c) ∧ _
        rw [upd_ne _ _ (show 2 + c ≠ 0 by omega), upd_ne _ _ (show 2 + c ≠ 9 + tM d by omega), upd_ne _ _ (show 9 + c ≠ 0 by omega)]
        by_cases e : c = tM d
        · rw [e, upd_at, upd_at, upd_at, if_pos rfl, if_pos rfl]; exact ⟨rfl, rfl, rfl⟩
        · rw [upd_ne _ _ (show 2 + c ≠ 2 + tM d by omega), upd_ne _ _ (show 9 + c ≠ 9 + tM d by omega), upd_ne _ _ (show 9 + c ≠ 2 + tM d by omega), upd_ne _ _ (show 1 + c ≠ 1 + tM d by omega), if_neg e, if_neg e]
          exact h.2.2.1 c (by omega)
      · rw [upd_ne _ _ (by omega)]; exact h.2.2.2.1 n hn
      · rw [upd_ne _ _ (by omega)]; exact h.2.2.2.2.1 n hn c hc
      · rw [upd_ne _ _ (by omega)]; exact h.2.2.2.2.2
    · refine r_numF hz hc (by omega) (by omega) (by omega) ?_ (fun ma => ifp (by decide) (hF (fun q => f2 ⟨q.2.2.2.1, by have := q.2.2.2.2.1; omega, q.2.2.2.2.2.1⟩) _ _ _))
      by_cases q1 : isF T (nmE T j + 1)
      · have n2 := nmV_lt q1
        right
        refine ⟨q1, ?_⟩
        by_cases q2 : nmV T (nmE T j + 1) ≤ 9
        · exact Or.inr ⟨fun Q2 => by rw [hin9 _ n2, if_pos q2], fun q3 => f2 ⟨q1, q2, q3⟩⟩
        · exact Or.inl (fun Q2 => by rw [hin9 _ n2, if_neg q2])
      · exact Or.inl q1
  · refine r_numF hz hc (by omega) (by omega) (by omega) ?_ (fun ma => ifn (by decide) (hF (fun q => f1 ⟨q.1, q.2.1, q.2.2.1⟩) _ _ _))
    by_cases q1 : isF T j
    · have n1 := nmV_lt q1
      right
      refine ⟨q1, ?_⟩
      by_cases q2 : nmV T j ≤ 3
      · exact Or.inr ⟨fun Q2 => by rw [hin3 _ n1, if_pos q2], fun q3 => f1 ⟨q1, q2, q3⟩⟩
      · exact Or.inl (fun Q2 => by rw [hin3 _ n1, if_neg q2])
    · exact Or.inl q1
end RD
