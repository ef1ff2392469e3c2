/-! offices: what the best is -/
def mxc (ok : Nat → Bool) (f : Nat → Nat) (b : Nat) : Nat → Nat → Nat
  | 0, _ => b
  | s + 1, c => if ok c then max (f c) (mxc ok f b s (c + 1)) else mxc ok f b s (c + 1)
def chc (ok : Nat → Bool) (f : Nat → Nat) (t : Nat) : Nat → Nat → Nat
  | 0, _ => 9
  | s + 1, c => if ok c ∧ f c = t then c else chc ok f t s (c + 1)
/-- the takers of each news, as masks; r news from i on; T taken -/
def okf (tk : Nat → Nat) (i T c : Nat) : Bool := (tk i &&& (127 ^^^ T)).testBit c
def mst (tk : Nat → Nat) : Nat → Nat → Nat → Nat
  | 0, _, _ => 0
  | r + 1, i, T => mxc (okf tk i T) (fun c => 1 + mst tk r (i + 1) (T ||| 2 ^ c)) (mst tk r (i + 1) T) 7 0
def grd (tk : Nat → Nat) : Nat → Nat → Nat → Nat → Nat
  | 0, _, _, _ => 9
  | r + 1, i, T, j => if j = i then chc (okf tk i T) (fun c => 1 + mst tk r (i + 1) (T ||| 2 ^ c)) (mst tk (r + 1) i T) 7 0
      else grd tk r (i + 1) (if chc (okf tk i T) (fun c => 1 + mst tk r (i + 1) (T ||| 2 ^ c)) (mst tk (r + 1) i T) 7 0 = 9 then T else T ||| 2 ^ chc (okf tk i T) (fun c => 1 + mst tk r (i + 1) (T ||| 2 ^ c)) (mst tk (r + 1) i T) 7 0) j
theorem mxc_ge {ok : Nat → Bool} {f : Nat → Nat} {b : Nat} : ∀ s c, b ≤ mxc ok f b s c
  | 0, _ => Nat.le_refl _
  | s + 1, c => by
    have := mxc_ge (ok := ok) (f := f) (b := b) s (c + 1)
    unfold mxc
    split <;> omega
theorem mxc_le {ok : Nat → Bool} {f : Nat → Nat} {b N : Nat} (hb : b ≤ N) (hf : ∀ c, f c ≤ N) : ∀ s c, mxc ok f b s c ≤ N
  | 0, _ => hb
  | s + 1, c => by
    have := mxc_le (ok := ok) (f := f) hb hf s (c + 1)
    have := hf c
    unfold mxc
    split <;> omega
theorem mxc_none {ok : Nat → Bool} {f : Nat → Nat} {b : Nat} : ∀ s c, (∀ j, c ≤ j → ok j = false) → mxc ok f b s c = b
  | 0, _, _ => rfl
  | s + 1, c, h => by
    unfold mxc
    rw [h c (Nat.le_refl _)]
    exact mxc_none s (c + 1) (fun j hj => h j (by omega))
theorem chc_none {ok : Nat → Bool} {f : Nat → Nat} {t : Nat} : ∀ s c, (∀ j, c ≤ j → ok j = false) → chc ok f t s c = 9
  | 0, _, _ => rfl
  | s + 1, c, h => by
    unfold chc
    rw [h c (Nat.le_refl _), if_neg (by rintro ⟨g, _⟩; exact absurd g (by decide))]
    exact chc_none s (c + 1) (fun j hj => h j (by omega))
theorem chc_lt {ok : Nat → Bool} {f : Nat → Nat} {t : Nat} : ∀ s c, c + s ≤ 7 → chc ok f t s c < 7 ∨ chc ok f t s c = 9
  | 0, _, _ => Or.inr rfl
  | s + 1, c, h => by
    unfold chc
    split
    · exact Or.inl (by omega)
    · exact chc_lt s (c + 1) (by omega)
theorem mst_le (tk : Nat → Nat) : ∀ r i T, mst tk r i T ≤ r
  | 0, _, _ => Nat.le_refl _
  | r + 1, i, T => mxc_le (Nat.le_succ_of_le (mst_le tk r (i + 1) T)) (fun c => by have := mst_le tk r (i + 1) (T ||| 2 ^ c); show 1 + mst tk r (i + 1) (T ||| 2 ^ c) ≤ r + 1; omega) 7 0
theorem or_lt7 {T c : Nat} (hT : T < 128) (hc : c < 7) : T ||| 2 ^ c < 128 := Nat.or_lt_two_pow (n := 7) hT (Nat.pow_lt_pow_right (by decide) hc : 2 ^ c < 2 ^ 7)
theorem andn_fin : ∀ t, t < 128 → ∀ T, T < 128 → nI t &&& (nI T ^^^ (-1)) = nI (t &&& (127 ^^^ T)) := by decide +kernel
theorem and_lt7 {t T : Nat} (ht : t < 128) : t &&& T < 128 := Nat.lt_of_le_of_lt Nat.and_le_left ht
/-! the class -/
theorem e_most {n T : Nat} {om : Nat → Int32} {Q : Int32 → Prop} (hn : n ≤ 6) (hT : T < 128) : wX1_mostFrom (nI n) (nI T) om Q = Q (om (n * 128 + T)) := by
  unfold wX1_mostFrom
  have e : (nI n * (128 : Int32)) + nI T = nI (n * 128 + T) := by
    have e0 : (128 : Int32) = nI 128 := rfl
    rw [e0, pk_mul, nI_add]
  rw [e, e_of (by omega) (by decide)]
theorem e_putM {n T : Nat} {x : Int32} {om : Nat → Int32} {Q : (Nat → Int32) → Prop} (hn : n ≤ 6) (hT : T < 128) : wX5_put ((nI n * (128 : Int32)) + nI T) x om 896 Q = Q (upd om (n * 128 + T) x) := by
  have e : (nI n * (128 : Int32)) + nI T = nI (n * 128 + T) := by
    have e0 : (128 : Int32) = nI 128 := rfl
    rw [e0, pk_mul, nI_add]
  rw [e, e_put (by omega) (by decide)]
theorem e_bitM {t T c : Nat} (ht : t < 128) (hT : T < 128) (hc : c < 7) (Q : Int32 → Prop) : wX5_hasBit (nI t &&& (nI T ^^^ (-1))) (nI c) Q = if (t &&& (127 ^^^ T)).testBit c then Q 1 else Q 0 := by
  rw [andn_fin t ht T hT]
  by_cases h : (t &&& (127 ^^^ T)).testBit c = true
  · rw [if_pos h, e_hasBitT (and_lt7 ht) (by omega) h]
  · rw [if_neg h, e_hasBitF (and_lt7 ht) (by omega) (by simpa using h)]
theorem s_best {n T t : Nat} {f1 : Nat → Nat} {om : Nat → Int32} {Q : Int32 → Prop} (hn : n < 6) (hT : T < 128) (ht : t < 128) (h1 : ∀ T, T < 128 → om ((n + 1) * 128 + T) = nI (f1 T)) (h2 : ∀ T, f1 T ≤ 6) (hQ : Q (nI (mxc (fun c => (t &&& (127 ^^^ T)).testBit c) (fun c => 1 + f1 (T ||| 2 ^ c)) (f1 T) 7 0))) : wX1_best (nI n) (nI T) (nI t) om Q := by
  unfold wX1_best
  rw [nI_1, e_most (by omega) hT, h1 T hT]
  have key : ∀ s c a, c + s = 7 → f1 T ≤ a → a ≤ 7 → Q (nI (max a (mxc (fun c => (t &&& (127 ^^^ T)).testBit c) (fun c => 1 + f1 (T ||| 2 ^ c)) (f1 T) s c))) → wX1_best_L13 (nI n) (nI T) (nI t) om Q (s + 1) (nI a) (nI c) := by
    intro s
    induction s with
    | zero =>
      intro c a hc ha ha7 hq
      have hc : c = 7 := by omega
      subst hc
      unfold wX1_best_L13
      have e : max a (mxc (fun c => (t &&& (127 ^^^ T)).testBit c) (fun c => 1 + f1 (T ||| 2 ^ c)) (f1 T) 0 7) = a := Nat.max_eq_left ha
      rw [e] at hq
      exact ifp (by decide) hq
    | succ s ih =>
      intro c a hc ha ha7 hq
      have hf := h2 (T ||| 2 ^ c)
      unfold wX1_best_L13
      rw [ifF (by simp (disch := omega) only [zl_0, zl_1, zl_2, zl_3, zl_4, zl_5, zl_6, zl_7, zl_8, zl_9, zl_10, zl_14, zl_16, zl_20, zl_24, zl_32, zl_40, zl_42, zl_44, zl_48, zl_56, zl_57, zl_59, zl_60, zl_61, zl_64, zl_99, zl_100, zl_110, zl_126, zl_128, zl_200, zl_392, zl_999, zl_9999, nI_add, pk_mul, nI_leI, nI_ltI, nI_eq, nI_clamp, vpn, pk_sub]; omega), e_bitM ht hT (by omega)]
      unfold mxc at hq
      by_cases hb : (t &&& (127 ^^^ T)).testBit c = true
      · rw [if_pos hb] at hq
        rw [if_pos hb, ifF (by decide), or_fin T hT c (by omega), nI_1, e_most (by omega) (or_lt7 hT (by omega)), h1 _ (or_lt7 hT (by omega)), nmx]
        have e1 : (1 : Int32) + nI (f1 (T ||| 2 ^ c)) = nI (1 + f1 (T ||| 2 ^ c)) := nI_add 1 _
        rw [e1, nI_1]
        have e2 : (if nI a < nI (1 + f1 (T ||| 2 ^ c)) then nI (1 + f1 (T ||| 2 ^ c)) else nI a) = nI (max a (1 + f1 (T ||| 2 ^ c))) := by
          by_cases g : a < 1 + f1 (T ||| 2 ^ c)
          · rw [if_pos ((nI_ltI (by omega) (by omega)).mpr g), Nat.max_eq_right (by omega)]
          · rw [if_neg (fun g2 => g ((nI_ltI (by omega) (by omega)).mp g2)), Nat.max_eq_left (by omega)]
        rw [e2]
        refine ih (c + 1) _ (by omega) (by omega) (by omega) ?_
        rw [Nat.max_assoc]
        exact hq
      · rw [if_neg hb] at hq
        rw [if_neg hb, ifT rfl, nI_1]
        exact ih (c + 1) a (by omega) ha ha7 hq
  have := h2 T
  refine ⟨8, key 7 0 (f1 T) (by omega) (Nat.le_refl _) (by omega) ?_⟩
  rw [Nat.max_eq_right (mxc_ge 7 0)]
  exact hQ
theorem s_choice {n T t : Nat} {f0 f1 : Nat → Nat} {om : Nat → Int32} {Q : Int32 → Prop} (hn : n < 6) (hT : T < 128) (ht : t < 128) (h0 : ∀ T, T < 128 → om (n * 128 + T) = nI (f0 T)) (h1 : ∀ T, T < 128 → om ((n + 1) * 128 + T) = nI (f1 T)) (h2 : ∀ T, f1 T ≤ 6) (h3 : ∀ T, f0 T ≤ 6) (hQ : ∀ r, r = chc (fun c => (t &&& (127 ^^^ T)).testBit c) (fun c => 1 + f1 (T ||| 2 ^ c)) (f0 T) 7 0 → Q (if r = 9 then -4 else nI r)) : wX1_choice (nI n) (nI T) (nI t) om Q := by
  unfold wX1_choice
  have key : ∀ s c, c + s = 7 → (∀ r, r = chc (fun c => (t &&& (127 ^^^ T)).testBit c) (fun c => 1 + f1 (T ||| 2 ^ c)) (f0 T) s c → Q (if r = 9 then -4 else nI r)) → wX1_choice_L3 (nI n) (nI T) (nI t) om Q (s + 1) (nI c) := by
    intro s
    induction s with
    | zero =>
      intro c hc hq
      have hc : c = 7 := by omega
      subst hc
      unfold wX1_choice_L3
      exact ifp (by decide) (hq 9 rfl)
    | succ s ih =>
      intro c hc hq
      have hf := h2 (T ||| 2 ^ c)
      have hf0 := h3 T
      unfold wX1_choice_L3
      rw [ifF (by simp (disch := omega) only [zl_0, zl_1, zl_2, zl_3, zl_4, zl_5, zl_6, zl_7, zl_8, zl_9, zl_10, zl_14, zl_16, zl_20, zl_24, zl_32, zl_40, zl_42, zl_44, zl_48, zl_56, zl_57, zl_59, zl_60, zl_61, zl_64, zl_99, zl_100, zl_110, zl_126, zl_128, zl_200, zl_392, zl_999, zl_9999, nI_add, pk_mul, nI_leI, nI_ltI, nI_eq, nI_clamp, vpn, pk_sub]; omega), e_bitM ht hT (by omega)]
      have hs : chc (fun c => (t &&& (127 ^^^ T)).testBit c) (fun c => 1 + f1 (T ||| 2 ^ c)) (f0 T) (s + 1) c = if (t &&& (127 ^^^ T)).testBit c ∧ 1 + f1 (T ||| 2 ^ c) = f0 T then c else chc (fun c => (t &&& (127 ^^^ T)).testBit c) (fun c => 1 + f1 (T ||| 2 ^ c)) (f0 T) s (c + 1) := rfl
      rw [hs] at hq
      by_cases hb : (t &&& (127 ^^^ T)).testBit c = true
      · rw [if_pos hb, ifF (by decide), or_fin T hT c (by omega), nI_1, e_most (by omega) (or_lt7 hT (by omega)), h1 _ (or_lt7 hT (by omega)), e_most (by omega) hT, h0 T hT, nI_1]
        have e1 : (1 : Int32) + nI (f1 (T ||| 2 ^ c)) = nI (1 + f1 (T ||| 2 ^ c)) := nI_add 1 _
        rw [e1]
        by_cases g : 1 + f1 (T ||| 2 ^ c) = f0 T
        · rw [if_pos ⟨hb, g⟩] at hq
          have hq2 := hq c rfl
          rw [if_neg (by omega)] at hq2
          exact ifp (by rw [g]) hq2
        · rw [if_neg (fun g2 => g g2.2)] at hq
          exact ifn (by simp (disch := omega) only [zl_0, zl_1, zl_2, zl_3, zl_4, zl_5, zl_6, zl_7, zl_8, zl_9, zl_10, zl_14, zl_16, zl_20, zl_24, zl_32, zl_40, zl_42, zl_44, zl_48, zl_56, zl_57, zl_59, zl_60, zl_61, zl_64, zl_99, zl_100, zl_110, zl_126, zl_128, zl_200, zl_392, zl_999, zl_9999, nI_add, pk_mul, nI_leI, nI_ltI, nI_eq, nI_clamp, vpn, pk_sub]; exact g) (ih (c + 1) (by omega) hq)
      · rw [if_neg (fun g2 => hb g2.1)] at hq
        rw [if_neg hb, ifT rfl, nI_1]
        exact ih (c + 1) (by omega) hq
  exact ⟨8, key 7 0 (by omega) hQ⟩
section SIM
variable {m k : Nat} {K H : Nat → Nat} {D : Dy} {kd hd pl st ho be : Nat → Int32} {nc nn dy : Int32} {mo ms mr mx om : Nat → Int32}
def tkD (m : Nat) (D : Dy) (n : Nat) : Nat := if dA D n = 9 then 0 else ds (dB D n) m
theorem tkD_lt (hm : m ≤ 7) (n : Nat) : tkD m D n < 128 := by
  unfold tkD
  split
  · decide
  · exact ds_lt7 _ hm
theorem s_takers {n : Nat} {Q : Int32 → Prop} (ok : okD m k K H D) (hc : ctC m k K H D kd hd pl st ho be nc nn dy) (hn : n < k) (hQ : Q (nI (tkD m D n))) : wX1_takers (nI n) ho be nc Q := by
  have hm7 := ok.1.2.1
  have hk6 := ok.2.2.1
  unfold wX1_takers
  rw [e_isKnown (by omega) (hc.2.2.2.2 n hn).1 (ok.A hn)]
  unfold tkD at hQ
  by_cases h9 : dA D n = 9
  · rw [if_pos h9] at hQ ⊢
    exact ifn (by decide) hQ
  · rw [if_neg h9] at hQ ⊢
    rw [hc.1]
    exact ifp rfl (s_doubters (by omega) hm7 (hc.2.2.2.2 n hn).2 (fun c hc2 => ok.B hn hc2) hQ)
theorem s_weigh {Q : (Nat → Int32) → Prop} (ok : okD m k K H D) (hc : ctC m k K H D kd hd pl st ho be nc nn dy) (hQ : ∀ om', (∀ n, n ≤ k → ∀ T, T < 128 → om' (n * 128 + T) = nI (mst (tkD m D) (k - n) n T)) → Q om') : wX1_weigh om ho be nc nn Q := by
  have hm7 := ok.1.2.1
  have hk6 := ok.2.2.1
  unfold wX1_weigh
  have zero : ∀ (K33 : (Nat → Int32) → Prop), (∀ om', (∀ T, T < 128 → om' (k * 128 + T) = nI 0) → K33 om') → ∃ f, wX1_weigh_L2 nn K33 f 0 om := by
    intro K33 hK
    have key : ∀ r i om1, i + r = 128 → (∀ T, T < i → om1 (k * 128 + T) = nI 0) → wX1_weigh_L2 nn K33 (r + 1) (nI i) om1 := by
      intro r
      induction r with
      | zero =>
        intro i om1 hi h1
        have hi : i = 128 := by omega
        subst hi
        unfold wX1_weigh_L2
        exact ifp (by decide) (hK _ h1)
      | succ r ih =>
        intro i om1 hi h1
        have v128 : (128 : Int32) = nI 128 := rfl
        have hlt : ¬ (128 : Int32) ≤ nI i := by
          rw [v128]
          intro g
          exact absurd ((nI_leI (by omega) (by omega)).mp g) (by omega)
        unfold wX1_weigh_L2
        rw [ifF hlt, hc.2.1, e_putM (by omega) (by omega), nI_1, ← hc.2.1]
        refine ih (i + 1) _ (by omega) (fun T hT => ?_)
        by_cases he : T = i
        · rw [he, upd_at]; rfl
        · rw [upd_ne _ _ (by omega)]; exact h1 T (by omega)
    exact ⟨129, key 128 0 om (by omega) (fun T hT => absurd hT (Nat.not_lt_zero _))⟩
  refine zero _ (fun om1 h1 => ?_)
  have e1 : nn - 1 = nI (k - 1) := by rw [hc.2.1]; exact pk_sub (a := k) (b := 1) ok.2.1
  rw [nmx, e1]
  have row : ∀ n, n < k → ∀ om2, (∀ j, n < j → j ≤ k → ∀ T, T < 128 → om2 (j * 128 + T) = nI (mst (tkD m D) (k - j) j T)) → ∀ K40 : Int32 → (Nat → Int32) → Prop, (∀ om3, (∀ j, n ≤ j → j ≤ k → ∀ T, T < 128 → om3 (j * 128 + T) = nI (mst (tkD m D) (k - j) j T)) → K40 (nI n + (-1)) om3) → ∃ f, wX1_weigh_L54 (nI n) (nI (tkD m D n)) K40 f 0 om2 := by
    intro n hn om2 h2 K40 hK
    have key : ∀ r i om3, i + r = 128 → (∀ j, n < j → j ≤ k → ∀ T, T < 128 → om3 (j * 128 + T) = nI (mst (tkD m D) (k - j) j T)) → (∀ T, T < i → om3 (n * 128 + T) = nI (mst (tkD m D) (k - n) n T)) → wX1_weigh_L54 (nI n) (nI (tkD m D n)) K40 (r + 1) (nI i) om3 := by
      intro r
      induction r with
      | zero =>
        intro i om3 hi g1 g2
        have hi : i = 128 := by omega
        subst hi
        unfold wX1_weigh_L54
        refine ifp (by decide) (hK _ (fun j hj1 hj2 T hT => ?_))
        by_cases he : j = n
        · rw [he]; exact g2 T hT
        · exact g1 j (by omega) hj2 T hT
      | succ r ih =>
        intro i om3 hi g1 g2
        have v128 : (128 : Int32) = nI 128 := rfl
        have hlt : ¬ (128 : Int32) ≤ nI i := by
          rw [v128]
          intro g
          exact absurd ((nI_leI (by omega) (by omega)).mp g) (by omega)
        unfold wX1_weigh_L54
        rw [ifF hlt]
        refine s_best (f1 := mst (tkD m D) (k - (n + 1)) (n + 1)) (by omega) (by omega) (tkD_lt hm7 n) (g1 (n + 1) (by omega) (by omega)) (fun T => by have := mst_le (tkD m D) (k - (n + 1)) (n + 1) T; omega) ?_
        rw [e_putM (by omega) (by omega), nI_1]
        have e5 : k - n = (k - (n + 1)) + 1 := by omega
        refine ih (i + 1) _ (by omega) (fun j hj1 hj2 T hT => ?_) (fun T hT => ?_)
        · rw [upd_ne _ _ (by omega)]; exact g1 j hj1 hj2 T hT
        · by_cases he : T = i
          · rw [he, upd_at, e5]; rfl
          · rw [upd_ne _ _ (by omega)]; exact g2 T (by omega)
    exact ⟨129, key 128 0 om2 (by omega) h2 (fun T hT => absurd hT (Nat.not_lt_zero _))⟩
  have down : ∀ n, n < k → ∀ om2, (∀ j, n < j → j ≤ k → ∀ T, T < 128 → om2 (j * 128 + T) = nI (mst (tkD m D) (k - j) j T)) → wX1_weigh_L40 ho be nc Q (n + 2) (nI n) om2 := by
    intro n
    induction n with
    | zero =>
      intro hn om2 h2
      unfold wX1_weigh_L40
      rw [ifF (nI_pos (by omega))]
      refine s_takers ok hc hn (row 0 hn om2 h2 _ (fun om3 h3 => ?_))
      unfold wX1_weigh_L40
      exact ifp (by decide) (hQ _ (fun n hn2 T hT => h3 n (Nat.zero_le n) hn2 T hT))
    | succ n ih =>
      intro hn om2 h2
      unfold wX1_weigh_L40
      rw [ifF (nI_pos (by omega))]
      refine s_takers ok hc hn (row (n + 1) hn om2 h2 _ (fun om3 h3 => ?_))
      have e2 : nI (n + 1) + (-1) = nI n := by
        have e3 : nI (n + 1) - nI 1 = nI n := pk_sub (a := n + 1) (b := 1) (by omega)
        rw [m1_fin _ (by omega)]
        exact e3
      rw [e2]
      exact ih (by omega) om3 (fun j hj1 hj2 T hT => h3 j (by omega) hj2 T hT)
  refine ⟨k - 1 + 2, down (k - 1) (by have := ok.2.1; omega) om1 (fun j hj1 hj2 T hT => ?_)⟩
  have hj : j = k := by omega
  rw [hj, h1 T hT, Nat.sub_self]
  rfl
theorem s_receiver {w : Nat} {Q : Int32 → Prop} (ok : okD m k K H D) (hc : ctC m k K H D kd hd pl st ho be nc nn dy) (hw : w < k) (h : ∀ n, n ≤ k → ∀ T, T < 128 → om (n * 128 + T) = nI (mst (tkD m D) (k - n) n T)) (hQ : ∀ r, r = grd (tkD m D) k 0 0 w → Q (if r = 9 then -4 else nI r)) : wX1_receiver (nI w) om ho be nc nn Q := by
  have hm7 := ok.1.2.1
  have hk6 := ok.2.2.1
  unfold wX1_receiver
  have key : ∀ s n T x4, n + s = w → T < 128 → grd (tkD m D) (k - n) n T w = grd (tkD m D) k 0 0 w → wX1_receiver_L9 (nI w) om ho be nc nn Q (s + 2) (nI T) x4 (nI n) := by
    intro s
    induction s with
    | zero =>
      intro n T x4 hn hT he
      have hn : n = w := by omega
      subst hn
      have e5 : k - n = (k - (n + 1)) + 1 := by omega
      unfold wX1_receiver_L9
      rw [hc.2.1, ifF Int32.lt_irrefl, ifF (by simp (disch := omega) only [zl_0, zl_1, zl_2, zl_3, zl_4, zl_5, zl_6, zl_7, zl_8, zl_9, zl_10, zl_14, zl_16, zl_20, zl_24, zl_32, zl_40, zl_42, zl_44, zl_48, zl_56, zl_57, zl_59, zl_60, zl_61, zl_64, zl_99, zl_100, zl_110, zl_126, zl_128, zl_200, zl_392, zl_999, zl_9999, nI_add, pk_mul, nI_leI, nI_ltI, nI_eq, nI_clamp, vpn, pk_sub]; omega), ← hc.2.1]
      refine s_takers ok hc hw (s_choice (f0 := mst (tkD m D) (k - n) n) (f1 := mst (tkD m D) (k - (n + 1)) (n + 1)) (by omega) hT (tkD_lt hm7 n) (h n (by omega)) (h (n + 1) (by omega)) (fun T => by have := mst_le (tkD m D) (k - (n + 1)) (n + 1) T; omega) (fun T => by have := mst_le (tkD m D) (k - n) n T; omega) (fun r hr => ?_))
      have he2 : r = grd (tkD m D) k 0 0 n := by
        rw [← he, hr, e5]
        show _ = if n = n then _ else _
        rw [if_pos rfl]
        rfl
      have hq := hQ r he2
      have hlt : ∀ T', wX1_receiver_L9 (nI n) om ho be nc nn Q 1 (nI T') (if r = 9 then -4 else nI r) (nI n + 1) := by
        intro T'
        unfold wX1_receiver_L9
        rw [nI_1]
        exact ifp (by simp (disch := omega) only [zl_0, zl_1, zl_2, zl_3, zl_4, zl_5, zl_6, zl_7, zl_8, zl_9, zl_10, zl_14, zl_16, zl_20, zl_24, zl_32, zl_40, zl_42, zl_44, zl_48, zl_56, zl_57, zl_59, zl_60, zl_61, zl_64, zl_99, zl_100, zl_110, zl_126, zl_128, zl_200, zl_392, zl_999, zl_9999, nI_add, pk_mul, nI_leI, nI_ltI, nI_eq, nI_clamp, vpn, pk_sub]; omega) hq
      have hr7 := chc_lt (ok := fun c => (tkD m D n &&& (127 ^^^ T)).testBit c) (f := fun c => 1 + mst (tkD m D) (k - (n + 1)) (n + 1) (T ||| 2 ^ c)) (t := mst (tkD m D) (k - n) n T) 7 0 (by omega)
      rw [← hr] at hr7
      by_cases h9 : r = 9
      · have g := hlt T
        rw [if_pos h9] at g ⊢
        exact ifp rfl g
      · have g := hlt (T ||| 2 ^ r)
        rw [if_neg h9] at g ⊢
        rw [ifF (nI_ne4 _ (by omega)), nmx, or_fin T hT r (by omega)]
        exact g
    | succ s ih =>
      intro n T x4 hn hT he
      have e5 : k - n = (k - (n + 1)) + 1 := by omega
      unfold wX1_receiver_L9
      rw [hc.2.1, ifF (by simp (disch := omega) only [zl_0, zl_1, zl_2, zl_3, zl_4, zl_5, zl_6, zl_7, zl_8, zl_9, zl_10, zl_14, zl_16, zl_20, zl_24, zl_32, zl_40, zl_42, zl_44, zl_48, zl_56, zl_57, zl_59, zl_60, zl_61, zl_64, zl_99, zl_100, zl_110, zl_126, zl_128, zl_200, zl_392, zl_999, zl_9999, nI_add, pk_mul, nI_leI, nI_ltI, nI_eq, nI_clamp, vpn, pk_sub]; omega), ifF (by simp (disch := omega) only [zl_0, zl_1, zl_2, zl_3, zl_4, zl_5, zl_6, zl_7, zl_8, zl_9, zl_10, zl_14, zl_16, zl_20, zl_24, zl_32, zl_40, zl_42, zl_44, zl_48, zl_56, zl_57, zl_59, zl_60, zl_61, zl_64, zl_99, zl_100, zl_110, zl_126, zl_128, zl_200, zl_392, zl_999, zl_9999, nI_add, pk_mul, nI_leI, nI_ltI, nI_eq, nI_clamp, vpn, pk_sub]; omega), ← hc.2.1]
      refine s_takers ok hc (by omega) (s_choice (f0 := mst (tkD m D) (k - n) n) (f1 := mst (tkD m D) (k - (n + 1)) (n + 1)) (by omega) hT (tkD_lt hm7 n) (h n (by omega)) (h (n + 1) (by omega)) (fun T => by have := mst_le (tkD m D) (k - (n + 1)) (n + 1) T; omega) (fun T => by have := mst_le (tkD m D) (k - n) n T; omega) (fun r hr => ?_))
      have hr7 := chc_lt (ok := fun c => (tkD m D n &&& (127 ^^^ T)).testBit c) (f := fun c => 1 + mst (tkD m D) (k - (n + 1)) (n + 1) (T ||| 2 ^ c)) (t := mst (tkD m D) (k - n) n T) 7 0 (by omega)
      rw [← hr] at hr7
      have he2 : grd (tkD m D) (k - (n + 1)) (n + 1) (if r = 9 then T else T ||| 2 ^ r) w = grd (tkD m D) k 0 0 w := by
        rw [← he, e5]
        show _ = if w = n then _ else _
        rw [if_neg (show ¬ w = n by omega), hr, e5]
        rfl
      rw [nI_1]
      by_cases h9 : r = 9
      · rw [if_pos h9] at he2 ⊢
        exact ifp rfl (ih (n + 1) T _ (by omega) hT he2)
      · rw [if_neg h9] at he2 ⊢
        rw [ifF (nI_ne4 _ (by omega)), nmx, or_fin T hT r (by omega)]
        exact ih (n + 1) (T ||| 2 ^ r) _ (by omega) (or_lt7 hT (by omega)) he2
  exact ⟨w + 2, key w 0 0 (-4) (by omega) (by decide) (by rw [Nat.sub_zero])⟩
end SIM
