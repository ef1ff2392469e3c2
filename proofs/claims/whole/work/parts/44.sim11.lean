/-! offices: depth first -/
section SIM
variable {m k : Nat} {K H : Nat → Nat} {D : Dy} {mo ms : Nat → Int32} {kd hd pl st ho be : Nat → Int32} {nc nn dy : Int32}
theorem mM_top {tk : Nat → Nat} {r i T : Nat} : mM tk r i T 0 = mst tk (r + 1) i T := rfl
theorem grd_asg {tk : Nat → Nat} {r i T j : Nat} {q : Nat → Nat} (hj : i ≤ j) : asg tk m r i T q 0 j = n9 m (grd tk (r + 1) i T j) := by
  unfold asg
  rw [if_neg (by omega)]
  show _ = n9 m (if j = i then mC tk r i T 0 else grd tk r (i + 1) (if mC tk r i T 0 = 9 then T else T ||| 2 ^ mC tk r i T 0) j)
  by_cases e : j = i
  · rw [if_pos e, if_pos e]
  · rw [if_neg e, if_neg e]
theorem rs_le (q : Nat → Nat) (m : Nat) (i : Nat) : rsum (fun j => if q j = m then 0 else 1) i ≤ i := by
  have := rsum_le (f := fun j => if q j = m then 0 else 1) (b := 1) (j := i) (fun j _ => by show (if q j = m then 0 else 1) ≤ 1; split <;> omega)
  omega
theorem mM_le {tk : Nat → Nat} {r i T c : Nat} : mM tk r i T c ≤ r + 1 := by
  unfold mM
  exact mxc_le (Nat.le_succ_of_le (mst_le tk r (i + 1) T)) (fun c => by have := mst_le tk r (i + 1) (T ||| 2 ^ c); show 1 + mst tk r (i + 1) (T ||| 2 ^ c) ≤ r + 1; omega) _ _
/-- the row of places is q before i, and T what is taken there -/
def inv (m i T g : Nat) (q : Nat → Nat) (mr : Nat → Int32) : Prop := (∀ j, j < i → mr j = nI (q j) ∧ q j ≤ m) ∧ T < 128 ∧ (∀ c, c < m → (T.testBit c = true ↔ ∃ j, j < i ∧ q j = c)) ∧ g = rsum (fun j => if q j = m then 0 else 1) i
theorem inv_next {i T g c : Nat} {q : Nat → Nat} {mr : Nat → Int32} (hm : m ≤ 7) (h : inv m i T g q mr) (hc : c ≤ m) : inv m (i + 1) (if c = m then T else T ||| 2 ^ c) (g + if c = m then 0 else 1) (fun j => if j = i then c else q j) (upd mr i (nI c)) := by
  obtain ⟨h1, h2, h3, h4⟩ := h
  refine ⟨fun j hj => ?_, ?_, fun c' hc' => ?_, ?_⟩
  · by_cases e : j = i
    · rw [e, upd_at]; simp only [if_true]; exact ⟨trivial, hc⟩
    · rw [upd_ne _ _ e]; simp only [if_neg e]; exact h1 j (by omega)
  · split
    · exact h2
    · exact or_lt7 h2 (by omega)
  · by_cases e : c = m
    · rw [if_pos e, h3 c' hc']
      constructor
      · rintro ⟨j, j1, j2⟩
        exact ⟨j, by omega, by simp only [if_neg (show ¬ j = i by omega)]; exact j2⟩
      · rintro ⟨j, j1, j2⟩
        by_cases ej : j = i
        · simp only [if_pos ej] at j2; omega
        · simp only [if_neg ej] at j2; exact ⟨j, by omega, j2⟩
    · rw [if_neg e, Nat.testBit_or, Nat.testBit_two_pow, Bool.or_eq_true, h3 c' hc', decide_eq_true_eq]
      constructor
      · rintro (⟨j, j1, j2⟩ | g)
        · exact ⟨j, by omega, by simp only [if_neg (show ¬ j = i by omega)]; exact j2⟩
        · exact ⟨i, by omega, by simp only [if_true]; exact g⟩
      · rintro ⟨j, j1, j2⟩
        by_cases ej : j = i
        · simp only [if_pos ej] at j2; exact Or.inr j2
        · simp only [if_neg ej] at j2; exact Or.inl ⟨j, by omega, j2⟩
  · show _ = rsum (fun j => if (if j = i then c else q j) = m then 0 else 1) i + (if (if i = i then c else q i) = m then 0 else 1)
    rw [if_pos (rfl : i = i), h4]
    congr 1
    exact rsum_congr (fun j hj => by simp only [if_neg (show ¬ j = i by omega)])
def wW (tk : Nat → Nat) (m r i T c : Nat) : Nat := if c = m then mst tk r (i + 1) T else 1 + mst tk r (i + 1) (T ||| 2 ^ c)
def wA (tk : Nat → Nat) (m r i T : Nat) (q : Nat → Nat) (c j : Nat) : Nat := if j < i then q j else if j = i then c else n9 m (grd tk r (i + 1) (if c = m then T else T ||| 2 ^ c) j)
/-- a try at place i comes back to place i -/
def tries (m k : Nat) (D : Dy) (ms : Nat → Int32) (Q : Int32 → (Nat → Int32) → (Nat → Int32) → Prop) (r i : Nat) : Prop := ∀ c T g b q mr mx, c ≤ m → inv m i T g q mr → mr i + 1 = nI c → b ≤ 7 → (c = m ∨ okf (tkD m D) i T c = true) →
    (∀ b' mr' mx', (b ≤ g + wW (tkD m D) m r i T c → b' = g + wW (tkD m D) m r i T c + 1 ∧ ∀ j, j < k → mx' j = nI (wA (tkD m D) m r i T q c j)) → (¬ b ≤ g + wW (tkD m D) m r i T c → b' = b ∧ mx' = mx) → (∀ j, j < i → mr' j = mr j) → mr' i = nI c → PS m k ms Q (bq b') (nI i) mr' mx') → PS m k ms Q (bq b) (nI i) mr mx
def comes (m k : Nat) (D : Dy) (ms : Nat → Int32) (Q : Int32 → (Nat → Int32) → (Nat → Int32) → Prop) (r i : Nat) : Prop := ∀ s c, c + s = m → ∀ T g b q mr mx, inv m i T g q mr → mr i + 1 = nI c → b ≤ 7 →
    (∀ b' mr' mx', (b ≤ g + mM (tkD m D) r i T c → b' = g + mM (tkD m D) r i T c + 1 ∧ ∀ j, j < k → mx' j = nI (asg (tkD m D) m r i T q c j)) → (¬ b ≤ g + mM (tkD m D) r i T c → b' = b ∧ mx' = mx) → (∀ j, j < i → mr' j = mr j) → PS m k ms Q (bq b') (nI i + (-1)) mr' mx') → PS m k ms Q (bq b) (nI i) mr mx
theorem inv_mr {i T g : Nat} {q : Nat → Nat} {mr mr' : Nat → Int32} (h : inv m i T g q mr) (he : ∀ j, j < i → mr' j = mr j) : inv m i T g q mr' := ⟨fun j hj => by rw [he j hj]; exact h.1 j hj, h.2⟩
theorem dfs_in {Q : Int32 → (Nat → Int32) → (Nat → Int32) → Prop} {r i : Nat} (ok : okD m k K H D) (hr : rfD m k D ms) (hik : i + r + 1 = k) (ht : tries m k D ms Q r i) : comes m k D ms Q r i := by
  have hm7 := ok.1.2.1
  have hk6 := ok.2.2.1
  intro s
  induction s with
  | zero =>
    intro c hc T g b q mr mx hv hmi hb h
    have hc : c = m := by omega
    have hno : ∀ j, c ≤ j → okf (tkD m D) i T j = false := fun j hj => okf_none (by omega)
    have eM : mM (tkD m D) r i T c = mst (tkD m D) r (i + 1) T := mxc_none _ _ hno
    have eC : mC (tkD m D) r i T c = 9 := chc_none _ _ hno
    have eW : wW (tkD m D) m r i T c = mst (tkD m D) r (i + 1) T := by unfold wW; rw [if_pos hc]
    refine ht c T g b q mr mx (by omega) hv hmi hb (Or.inl hc) (fun b1 mr1 mx1 f1 f2 f3 f4 => ?_)
    refine PS_up ok (by omega) (by rw [f4, nI_1, hc]) (h b1 _ mx1 (fun g1 => ?_) (fun g1 => f2 (by rw [eW]; rw [eM] at g1; exact g1)) (fun j hj => by rw [upd_ne _ _ (by omega)]; exact f3 j hj))
    rw [eM] at g1 ⊢
    rw [eW] at f1
    refine ⟨(f1 g1).1, fun j hj => ?_⟩
    rw [(f1 g1).2 j hj]
    congr 1
    unfold wA asg
    rw [eC, if_pos hc, if_pos (rfl : (9 : Nat) = 9)]
    by_cases e1 : j < i
    · rw [if_pos e1, if_pos e1]
    · rw [if_neg e1, if_neg e1]
      by_cases e2 : j = i
      · rw [if_pos e2, if_pos e2, hc]; rfl
      · rw [if_neg e2, if_neg e2]
  | succ s ih =>
    intro c hc T g b q mr mx hv hmi hb h
    have hcm : c < m := by omega
    have hg : g ≤ i := by rw [hv.2.2.2]; exact rs_le q m i
    have e7 : 7 - c = (7 - (c + 1)) + 1 := by omega
    by_cases hok : okf (tkD m D) i T c = true
    · have eW : wW (tkD m D) m r i T c = 1 + mst (tkD m D) r (i + 1) (T ||| 2 ^ c) := by unfold wW; rw [if_neg (by omega)]
      have hA := mst_le (tkD m D) r (i + 1) (T ||| 2 ^ c)
      have eM : mM (tkD m D) r i T c = max (wW (tkD m D) m r i T c) (mM (tkD m D) r i T (c + 1)) := by
        rw [eW]
        unfold mM
        rw [e7]
        show (if okf (tkD m D) i T c then max _ _ else _) = _
        rw [if_pos hok]
      have eC : mC (tkD m D) r i T c = if okf (tkD m D) i T c = true ∧ wW (tkD m D) m r i T c = mM (tkD m D) r i T c then c else chc (okf (tkD m D) i T) (fun c => 1 + mst (tkD m D) r (i + 1) (T ||| 2 ^ c)) (mM (tkD m D) r i T c) (7 - (c + 1)) (c + 1) := by
        rw [eW]
        unfold mC
        rw [e7]
        rfl
      refine ht c T g b q mr mx (by omega) hv hmi hb (Or.inr hok) (fun b1 mr1 mx1 f1 f2 f3 f4 => ?_)
      have hb1 : b1 ≤ 7 := by
        by_cases e : b ≤ g + wW (tkD m D) m r i T c
        · rw [(f1 e).1, eW]; omega
        · rw [(f2 e).1]; exact hb
      refine ih (c + 1) (by omega) T g b1 q mr1 mx1 (inv_mr hv f3) (by rw [f4, nI_1]) hb1 (fun b2 mr2 mx2 g1 g2 g3 => h b2 mr2 mx2 (fun p => ?_) (fun p => ?_) (fun j hj => (g3 j hj).trans (f3 j hj)))
      · by_cases hAB : mM (tkD m D) r i T (c + 1) ≤ wW (tkD m D) m r i T c
        · have eM2 : mM (tkD m D) r i T c = wW (tkD m D) m r i T c := by rw [eM]; exact Nat.max_eq_left hAB
          rw [eM2] at p ⊢
          have q1 := f1 p
          have q2 := g2 (by omega)
          refine ⟨by rw [q2.1]; exact q1.1, fun j hj => ?_⟩
          rw [q2.2, q1.2 j hj]
          have eC2 : mC (tkD m D) r i T c = c := by rw [eC, if_pos ⟨hok, eM2.symm⟩]
          congr 1
          unfold wA asg
          rw [eC2, if_neg (show ¬ c = m by omega), if_neg (show ¬ c = 9 by omega)]
          by_cases e1 : j < i
          · rw [if_pos e1, if_pos e1]
          · rw [if_neg e1, if_neg e1]
            by_cases e2 : j = i
            · rw [if_pos e2, if_pos e2]; unfold n9; rw [if_neg (by omega)]
            · rw [if_neg e2, if_neg e2]
        · have eM2 : mM (tkD m D) r i T c = mM (tkD m D) r i T (c + 1) := by rw [eM]; exact Nat.max_eq_right (by omega)
          rw [eM2] at p ⊢
          have hb3 : b1 ≤ g + mM (tkD m D) r i T (c + 1) := by
            by_cases e : b ≤ g + wW (tkD m D) m r i T c
            · rw [(f1 e).1]; omega
            · rw [(f2 e).1]; exact p
          have q2 := g1 hb3
          refine ⟨q2.1, fun j hj => ?_⟩
          rw [q2.2 j hj]
          have eC2 : mC (tkD m D) r i T c = mC (tkD m D) r i T (c + 1) := by
            rw [eC, if_neg (fun g => by have := g.2; omega)]
            unfold mC
            rw [eM2]
          congr 1
          unfold asg
          rw [eC2]
      · rw [eM] at p
        have q1 := f2 (by omega)
        have q2 := g2 (by rw [q1.1]; omega)
        exact ⟨q2.1.trans q1.1, q2.2.trans q1.2⟩
    · have hok2 : okf (tkD m D) i T c = false := by simpa using hok
      have eM : mM (tkD m D) r i T c = mM (tkD m D) r i T (c + 1) := by
        unfold mM
        rw [e7]
        show (if okf (tkD m D) i T c then max _ _ else _) = _
        rw [if_neg hok]
      have eC : mC (tkD m D) r i T c = mC (tkD m D) r i T (c + 1) := by
        unfold mC
        rw [e7, eM]
        show (if okf (tkD m D) i T c = true ∧ _ then c else _) = _
        rw [if_neg (fun g => hok g.1)]
      refine PS_bad ok hr (by omega) hcm hmi ?_ (ih (c + 1) (by omega) T g b q _ mx (inv_mr hv (fun j hj => upd_ne _ _ (by omega))) (by rw [upd_at, nI_1]) hb (fun b2 mr2 mx2 g1 g2 g3 => h b2 mr2 mx2 (fun p => ?_) (fun p => ?_) (fun j hj => by rw [g3 j hj, upd_ne _ _ (by omega)])))
      · by_cases ht2 : (tkD m D i).testBit c = true
        · right
          have hT : T.testBit c = true := by
            by_cases e : T.testBit c = true
            · exact e
            · exact absurd ((okf_iff (by omega)).mpr ⟨ht2, by simpa using e⟩) hok
          obtain ⟨j, j1, j2⟩ := (hv.2.2.1 c hcm).mp hT
          exact ⟨j, j1, by rw [(hv.1 j j1).1, j2]⟩
        · exact Or.inl ht2
      · rw [eM] at p ⊢
        have q2 := g1 p
        refine ⟨q2.1, fun j hj => ?_⟩
        rw [q2.2 j hj]
        unfold asg
        rw [eC]
      · rw [eM] at p
        exact g2 p
theorem hb_of {i T g c : Nat} {q : Nat → Nat} {mr : Nat → Int32} (hm7 : m ≤ 7) (hv : inv m i T g q mr) (hc : c ≤ m) (h : c = m ∨ okf (tkD m D) i T c = true) : c = m ∨ ((tkD m D i).testBit c = true ∧ ∀ j, j < i → ¬ mr j = nI c) := by
  by_cases e : c = m
  · exact Or.inl e
  · have h := h.resolve_left e
    have h2 := (okf_iff (by omega)).mp h
    refine Or.inr ⟨h2.1, fun j hj g1 => ?_⟩
    have g2 := hv.1 j hj
    rw [g2.1] at g1
    have g3 : q j = c := (nI_eq (by omega) (by omega)).mp g1
    have := (hv.2.2.1 c (by omega)).mpr ⟨j, hj, g3⟩
    rw [h2.2] at this
    exact absurd this (by decide)
theorem dfs {Q : Int32 → (Nat → Int32) → (Nat → Int32) → Prop} (ok : okD m k K H D) (hr : rfD m k D ms) : ∀ r i, i + r + 1 = k → comes m k D ms Q r i := by
  have hm7 := ok.1.2.1
  have hk6 := ok.2.2.1
  intro r
  induction r with
  | zero =>
    intro i hik
    refine dfs_in ok hr hik ?_
    intro c T g b q mr mx hc hv hmi hb hok h
    have hn := inv_next hm7 hv hc
    have hik2 : i + 1 = k := by omega
    rw [hik2] at hn
    have eW : g + wW (tkD m D) m 0 i T c = g + if c = m then 0 else 1 := by
      unfold wW
      split <;> rfl
    rw [eW] at h
    have hA : ∀ j, j < k → wA (tkD m D) m 0 i T q c j = if j = i then c else q j := by
      intro j hj
      unfold wA
      by_cases e1 : j < i
      · rw [if_pos e1, if_neg (by omega)]
      · rw [if_neg e1, if_pos (by omega), if_pos (by omega)]
    refine PS_leaf ok hr hik2 hc hb hmi (hb_of hm7 hv hc hok) hn.1 hn.2.2.2 (fun p mx' g1 => ?_) (fun p => ?_)
    · exact h _ _ mx' (fun _ => ⟨rfl, fun j hj => by rw [g1 j hj, hA j hj]⟩) (fun p2 => absurd p p2) (fun j hj => upd_ne _ _ (by omega)) (upd_at _ _ _)
    · exact h _ _ mx (fun p2 => absurd p2 p) (fun _ => ⟨rfl, rfl⟩) (fun j hj => upd_ne _ _ (by omega)) (upd_at _ _ _)
  | succ r ih =>
    intro i hik
    refine dfs_in ok hr hik ?_
    intro c T g b q mr mx hc hv hmi hb hok h
    have hn := inv_next hm7 hv hc
    have eW : g + wW (tkD m D) m (r + 1) i T c = (g + if c = m then 0 else 1) + mM (tkD m D) r (i + 1) (if c = m then T else T ||| 2 ^ c) 0 := by
      rw [mM_top]
      unfold wW
      split <;> omega
    rw [eW] at h
    refine PS_down ok hr (by omega) hc hmi (hb_of hm7 hv hc hok) (ih (i + 1) (by omega) m 0 (by omega) _ _ b (fun j => if j = i then c else q j) _ mx (inv_mr hn (fun j hj => upd_ne _ _ (by omega))) (by rw [upd_at]; rfl) hb (fun b' mr' mx' g1 g2 g3 => ?_))
    have e1 : nI (i + 1) + (-1) = nI i := by
      rw [m1_fin _ (by omega)]
      exact pk_sub (a := i + 1) (b := 1) (by omega)
    rw [e1]
    refine h b' mr' mx' (fun p => ⟨(g1 p).1, fun j hj => ?_⟩) g2 (fun j hj => ?_) ?_
    · rw [(g1 p).2 j hj]
      congr 1
      unfold wA
      by_cases e2 : j < i
      · unfold asg
        rw [if_pos (by omega), if_pos e2]
        simp only [if_neg (show ¬ j = i by omega)]
      · rw [if_neg e2]
        by_cases e3 : j = i
        · unfold asg
          rw [if_pos (by omega), if_pos e3]
          simp only [if_pos e3]
        · rw [if_neg e3, grd_asg (by omega)]
    · rw [g3 j (by omega), upd_ne _ _ (by omega), upd_ne _ _ (by omega)]
    · rw [g3 i (by omega), upd_ne _ _ (by omega), upd_at]
theorem r_given {mr mx : Nat → Int32} {Q : Int32 → (Nat → Int32) → (Nat → Int32) → Prop} (ok : okD m k K H D) (hm : rfM m k K H mo) (hr : rfD m k D ms)
    (hQ : ∀ mr' mx', (∀ j, j < k → mx' j = nI (n9 m (grd (tkD m D) k 0 0 j))) → Q (nI (mst (tkD m D) k 0 0)) mr' mx') : wX6_given mo ms mr mx Q := by
  have hk1 := ok.2.1
  have hk6 := ok.2.2.1
  unfold wX6_given
  rw [nmx, nmx, hm.1, hm.2.1]
  have e5 : k = (k - 1) + 1 := by omega
  have g := dfs (Q := Q) ok hr (k - 1) 0 (by omega) m 0 (by omega) 0 0 0 (fun _ => 0) (upd mr 0 (-1)) mx ⟨fun j hj => absurd hj (Nat.not_lt_zero _), by decide, fun c hc => ⟨fun h => by simp at h, fun ⟨j, hj, _⟩ => absurd hj (Nat.not_lt_zero _)⟩, rfl⟩ (by rw [upd_at]; rfl) (by omega) (fun b' mr' mx' g1 _ _ => ?_)
  · exact g
  · rw [mM_top, ← e5] at g1
    have g2 := g1 (by omega)
    have hM := mst_le (tkD m D) k 0 0
    refine ⟨1, ?_⟩
    unfold wX6_given_L26
    refine ifp (by decide) ?_
    rw [g2.1, Nat.zero_add, ← bq_s _ (by omega)]
    refine hQ mr' mx' (fun j hj => ?_)
    rw [g2.2 j hj, grd_asg (Nat.zero_le j), ← e5]
theorem chc_ok {ok : Nat → Bool} {f : Nat → Nat} {t : Nat} : ∀ s c, ok (chc ok f t s c) = true ∨ chc ok f t s c = 9
  | 0, _ => Or.inr rfl
  | s + 1, c => by
    unfold chc
    split
    · rename_i h; exact Or.inl h.1
    · exact chc_ok s (c + 1)
theorem grd_lt : ∀ r i T j, grd (tkD m D) r i T j < m ∨ grd (tkD m D) r i T j = 9
  | 0, _, _, _ => Or.inr rfl
  | r + 1, i, T, j => by
    unfold grd
    split
    · rcases chc_ok (ok := okf (tkD m D) i T) (f := fun c => 1 + mst (tkD m D) r (i + 1) (T ||| 2 ^ c)) (t := mst (tkD m D) (r + 1) i T) 7 0 with g | g
      · left
        rcases Nat.lt_or_ge (chc (okf (tkD m D) i T) (fun c => 1 + mst (tkD m D) r (i + 1) (T ||| 2 ^ c)) (mst (tkD m D) (r + 1) i T) 7 0) m with h | h
        · exact h
        · rw [okf_none h] at g
          exact absurd g (by decide)
      · exact Or.inr g
    · exact grd_lt r _ _ j
theorem sim_offices {mr mx om : Nat → Int32} (x : Int32) (ok : okD m k K H D) (hc : ctC m k K H D kd hd pl st ho be nc nn dy) (hm : rfM m k K H mo) (hr : rfD m k D ms) :
    ∃ r : Int32, (∀ Q : Int32 → (Nat → Int32) → Prop, (∀ om', Q r om') → wX5_offices x ho be nc nn om Q) ∧ (∀ Q : Int32 → (Nat → Int32) → (Nat → Int32) → Prop, (∀ mr' mx', Q r mr' mx') → wX6_offices x mo ms mr mx Q) := by
  have hm7 := ok.1.2.1
  have hk6 := ok.2.2.1
  by_cases hx1 : x = -1
  · subst hx1
    refine ⟨nI (mst (tkD m D) k 0 0), fun Q hQ => ?_, fun Q hQ => ?_⟩
    · unfold wX5_offices
      rw [ifT rfl]
      refine s_weigh ok hc (fun om' h1 => ?_)
      rw [ifT rfl]
      have e := e_most (n := 0) (T := 0) (om := om') (Q := fun r_5 => Q r_5 om') (by omega) (by omega)
      have e2 : wX1_mostFrom 0 0 om' (fun r_5 => Q r_5 om') = Q (om' (0 * 128 + 0)) om' := e
      rw [e2, h1 0 (by omega) 0 (by omega), Nat.sub_zero]
      exact hQ _
    · unfold wX6_offices
      rw [ifT rfl]
      refine r_given ok hm hr (fun mr' mx' _ => ?_)
      exact ifp rfl (hQ _ _)
  · by_cases hx : ix x k
    · obtain ⟨n, n1, rfl⟩ := hx
      have hne : nI n ≠ -1 := hx1
      have hr7 : grd (tkD m D) k 0 0 n < m ∨ grd (tkD m D) k 0 0 n = 9 := grd_lt k 0 0 n
      refine ⟨if grd (tkD m D) k 0 0 n = 9 then -4 else nI (grd (tkD m D) k 0 0 n), fun Q hQ => ?_, fun Q hQ => ?_⟩
      · unfold wX5_offices
        rw [ifF hx1, hc.2.1, e_isN_T n1 (by omega), ifF (by decide), ← hc.2.1]
        refine s_weigh ok hc (fun om' h1 => ?_)
        rw [ifF hx1]
        exact s_receiver ok hc n1 h1 (fun r hr => by rw [hr]; exact hQ _)
      · unfold wX6_offices
        rw [ifF hx1, r_isN_T hm.2.1 n1 (by omega), ifF (by decide)]
        refine r_given ok hm hr (fun mr' mx' h1 => ?_)
        rw [ifF hx1, nI_clamp (by omega), vpn (by omega), h1 n n1, hm.1]
        refine ⟨by omega, ?_⟩
        by_cases h9 : grd (tkD m D) k 0 0 n = 9
        · rw [if_pos h9] at hQ
          exact ifp (by unfold n9; rw [if_pos h9]) (hQ _ _)
        · rw [if_neg h9] at hQ
          have hlt := hr7.resolve_right h9
          have e9 : n9 m (grd (tkD m D) k 0 0 n) = grd (tkD m D) k 0 0 n := by unfold n9; rw [if_neg h9]
          rw [e9]
          exact ifn (by simp (disch := omega) only [zl_0, zl_1, zl_2, zl_3, zl_4, zl_5, zl_6, zl_7, zl_8, zl_9, zl_10, zl_14, zl_16, zl_20, zl_24, zl_32, zl_40, zl_42, zl_44, zl_48, zl_56, zl_57, zl_59, zl_60, zl_61, zl_64, zl_99, zl_100, zl_110, zl_126, zl_128, zl_200, zl_392, zl_999, zl_9999, nI_add, pk_mul, nI_leI, nI_ltI, nI_eq, nI_clamp, vpn, pk_sub]; omega) ⟨by omega, hQ _ _⟩
    · refine ⟨-1, fun Q hQ => ?_, fun Q hQ => ?_⟩
      · unfold wX5_offices
        rw [ifF hx1, hc.2.1, e_isN_F hx (by omega), ifT rfl]
        exact hQ _
      · unfold wX6_offices
        rw [ifF hx1, r_isN_F hm.2.1 hx ok.2.1 (by omega), ifT rfl]
        exact hQ _ _
end SIM
