/-! arguments: any int -/
def ix (x : Int32) (n : Nat) : Prop := ∃ j, j < n ∧ x = nI j
theorem ixF {x : Int32} {n : Nat} (hn : n < 1000) (h : ¬ ix x n) : x < 0 ∨ nI n ≤ x := by
  rcases pk_ix x (n := n) (by omega) with g | g | g
  · exact Or.inl g
  · exact Or.inr g
  · exact absurd g h
theorem a_nlt0 (j : Nat) (h : j < 2 ^ 31) : ¬ nI j < 0 := nI_pos h
theorem e_isC_T {j m : Nat} {Q : Int32 → Prop} (hj : j < m) (hm : m < 1000) : wX0_isCourtier (nI j) (nI m) Q = Q 1 := by
  unfold wX0_isCourtier
  rw [ifF (nI_pos (by omega)), ifF (by simp (disch := omega) only [zl_0, zl_1, zl_2, zl_3, zl_4, zl_5, zl_6, zl_7, zl_8, zl_9, zl_10, zl_14, zl_16, zl_20, zl_24, zl_32, zl_40, zl_42, zl_44, zl_48, zl_56, zl_57, zl_59, zl_60, zl_61, zl_64, zl_99, zl_100, zl_110, zl_126, zl_128, zl_200, zl_392, zl_999, zl_9999, nI_add, pk_mul, nI_leI, nI_ltI, nI_eq, nI_clamp, vpn, pk_sub]; omega)]
theorem e_isC_F {x : Int32} {m : Nat} {Q : Int32 → Prop} (h : ¬ ix x m) (hm : m < 1000) : wX0_isCourtier x (nI m) Q = Q 0 := by
  unfold wX0_isCourtier
  rcases ixF hm h with g | g
  · rw [ifT g]
  · by_cases g0 : x < 0
    · rw [ifT g0]
    · rw [ifF g0, ifT g]
theorem e_isN_T {j m : Nat} {Q : Int32 → Prop} (hj : j < m) (hm : m < 1000) : wX0_isNews (nI j) (nI m) Q = Q 1 := e_isC_T hj hm
theorem e_isN_F {x : Int32} {m : Nat} {Q : Int32 → Prop} (h : ¬ ix x m) (hm : m < 1000) : wX0_isNews x (nI m) Q = Q 0 := e_isC_F h hm
def rg (x : Int32) (lo hi : Nat) : Prop := ∃ j, lo ≤ j ∧ j ≤ hi ∧ x = nI j
theorem rgF {x : Int32} {lo hi : Nat} (hl : lo < 100000) (hh : hi < 100000) (h : ¬ rg x lo hi) : x < nI lo ∨ nI hi < x := by
  by_cases h0 : x < 0
  · exact Or.inl (Int32.lt_of_lt_of_le h0 (nI_pos' (by omega)))
  · obtain ⟨j, hj, hx⟩ := nI_of h0
    subst hx
    rcases Nat.lt_or_ge hi j with g | g
    · exact Or.inr ((nI_ltI (by omega) (by omega)).mpr g)
    · rcases Nat.lt_or_ge j lo with g2 | g2
      · exact Or.inl ((nI_ltI (by omega) (by omega)).mpr g2)
      · exact absurd ⟨j, g2, g, rfl⟩ h
theorem e_isInT {j lo hi : Nat} {Q : Int32 → Prop} (h1 : lo ≤ j) (h2 : j ≤ hi) (hh : hi < 100000) : wX5_isIn (nI j) (nI lo) (nI hi) Q = Q 1 := by
  unfold wX5_isIn
  rw [ifF (by simp (disch := omega) only [zl_0, zl_1, zl_2, zl_3, zl_4, zl_5, zl_6, zl_7, zl_8, zl_9, zl_10, zl_14, zl_16, zl_20, zl_24, zl_32, zl_40, zl_42, zl_44, zl_48, zl_56, zl_57, zl_59, zl_60, zl_61, zl_64, zl_99, zl_100, zl_110, zl_126, zl_128, zl_200, zl_392, zl_999, zl_9999, nI_add, pk_mul, nI_leI, nI_ltI, nI_eq, nI_clamp, vpn, pk_sub]; omega), ifF (by simp (disch := omega) only [zl_0, zl_1, zl_2, zl_3, zl_4, zl_5, zl_6, zl_7, zl_8, zl_9, zl_10, zl_14, zl_16, zl_20, zl_24, zl_32, zl_40, zl_42, zl_44, zl_48, zl_56, zl_57, zl_59, zl_60, zl_61, zl_64, zl_99, zl_100, zl_110, zl_126, zl_128, zl_200, zl_392, zl_999, zl_9999, nI_add, pk_mul, nI_leI, nI_ltI, nI_eq, nI_clamp, vpn, pk_sub]; omega)]
theorem e_isInF {x : Int32} {lo hi : Nat} {Q : Int32 → Prop} (h : ¬ rg x lo hi) (hl : lo < 100000) (hh : hi < 100000) : wX5_isIn x (nI lo) (nI hi) Q = Q 0 := by
  unfold wX5_isIn
  rcases rgF hl hh h with g | g
  · rw [ifT g]
  · by_cases g0 : x < nI lo
    · rw [ifT g0]
    · rw [ifF g0, ifT g]
theorem r_inT {j lo hi : Nat} {Q : Int32 → Prop} (h1 : lo ≤ j) (h2 : j ≤ hi) (hh : hi < 100000) : wX6_in (nI j) (nI lo) (nI hi) Q = Q 1 := r_in (by omega) (by omega) (by omega) ⟨h1, h2⟩
theorem r_inF {x : Int32} {lo hi : Nat} {Q : Int32 → Prop} (h : ¬ rg x lo hi) (hl : lo < 100000) (hh : hi < 100000) : wX6_in x (nI lo) (nI hi) Q = Q 0 := e_isInF h hl hh
theorem r_isC_T {j m : Nat} {mo : Nat → Int32} {Q : Int32 → Prop} (h : mo 0 = nI m) (hj : j < m) (hm : m < 1000) : wX6_isCourtier (nI j) mo Q = Q 1 := by
  unfold wX6_isCourtier
  have e : nI m - 1 = nI (m - 1) := pk_sub (a := m) (b := 1) (by omega)
  rw [h, e]
  exact r_inT (lo := 0) (by omega) (by omega) (by omega)
theorem r_isC_F {x : Int32} {m : Nat} {mo : Nat → Int32} {Q : Int32 → Prop} (h : mo 0 = nI m) (hx : ¬ ix x m) (h1 : 1 ≤ m) (hm : m < 1000) : wX6_isCourtier x mo Q = Q 0 := by
  unfold wX6_isCourtier
  have e : nI m - 1 = nI (m - 1) := pk_sub (a := m) (b := 1) (by omega)
  rw [h, e]
  exact r_inF (lo := 0) (fun ⟨j, g1, g2, g3⟩ => hx ⟨j, by omega, g3⟩) (by omega) (by omega)
theorem r_isN_T {j k : Nat} {mo : Nat → Int32} {Q : Int32 → Prop} (h : mo 1 = nI k) (hj : j < k) (hm : k < 1000) : wX6_isNews (nI j) mo Q = Q 1 := by
  unfold wX6_isNews
  have e : nI k - 1 = nI (k - 1) := pk_sub (a := k) (b := 1) (by omega)
  rw [h, e]
  exact r_inT (lo := 0) (by omega) (by omega) (by omega)
theorem r_isN_F {x : Int32} {k : Nat} {mo : Nat → Int32} {Q : Int32 → Prop} (h : mo 1 = nI k) (hx : ¬ ix x k) (h1 : 1 ≤ k) (hm : k < 1000) : wX6_isNews x mo Q = Q 0 := by
  unfold wX6_isNews
  have e : nI k - 1 = nI (k - 1) := pk_sub (a := k) (b := 1) (by omega)
  rw [h, e]
  exact r_inF (lo := 0) (fun ⟨j, g1, g2, g3⟩ => hx ⟨j, by omega, g3⟩) (by omega) (by omega)
/-! what lies in shelves -/
def ctV (m k : Nat) (K H : Nat → Nat) (D : Dy) (v : CV) : Prop := ctC m k K H D v.1 v.2.1 v.2.2.1 v.2.2.2.1 v.2.2.2.2.1 v.2.2.2.2.2.1 v.2.2.2.2.2.2.1 v.2.2.2.2.2.2.2.1 v.2.2.2.2.2.2.2.2
theorem cpy_lt {f g : Nat → Int32} {n j : Nat} (h : j < n) : va_cpy f g 0 0 n j = f j := by
  rw [pk_cpy_in (Nat.zero_le j) (by omega)]
  congr 1
  omega
theorem ctV_cpy {m k : Nat} {K H : Nat → Nat} {D : Dy} {v w : CV} (hm : m ≤ 7) (hk : k ≤ 6) (h : ctV m k K H D v) : ctV m k K H D (cpyCV v w) := by
  obtain ⟨h1, h2, h3, h4, h5⟩ := h
  refine ⟨h1, h2, h3, fun c hc => ?_, fun n hn => ⟨?_, fun c hc => ?_⟩⟩
  · have g := h4 c hc
    have hc7 : c < 7 := by omega
    exact ⟨(cpy_lt hc7).trans g.1, (cpy_lt hc7).trans g.2.1, (cpy_lt hc7).trans g.2.2.1, (cpy_lt hc7).trans g.2.2.2⟩
  · exact (cpy_lt (show n < 6 by omega)).trans (h5 n hn).1
  · exact (cpy_lt (show n * 7 + c < 42 by omega)).trans ((h5 n hn).2 c hc)
def shC (m k : Nat) (K H : Nat → Nat) (Ds : List Dy) (vs : List CV) : Prop := ∀ (j : Nat) (D : Dy), Ds[j]? = some D → ∃ v, vs[j]? = some v ∧ ctV m k K H D v
def rfS (m k : Nat) (Ds : List Dy) (mp : Nat → Int32) : Prop := ∀ (j : Nat) (D : Dy), Ds[j]? = some D → rfD m k D (fun i => mp (56 * j + i))
def pushD (N : Nat) (Ds : List Dy) (D : Dy) : List Dy := if Ds.length < N then Ds ++ [D] else Ds.drop 1 ++ [D]
theorem pushD_len {N : Nat} {Ds : List Dy} {D : Dy} (h : Ds.length ≤ N) (hN : 1 ≤ N) : (pushD N Ds D).length = pushK N Ds.length ∧ (pushD N Ds D).length ≤ N := by
  unfold pushD pushK
  split <;> simp <;> omega
theorem rot_get {α : Type} (l : List α) (j : Nat) (h : j + 1 < l.length) : (rot l)[j]? = l[j + 1]? := by
  cases l with
  | nil => simp at h
  | cons a t =>
    show (t ++ [a])[j]? = _
    rw [List.getElem?_append_left (by simpa using h), List.getElem?_cons_succ]
theorem sh_push {m k N : Nat} {K H : Nat → Nat} {Ds : List Dy} {D : Dy} {vs : List CV} {cv : CV} (hm : m ≤ 7) (hk : k ≤ 6) (h1 : Ds.length ≤ N) (hN : 1 ≤ N) (hv : vs.length = N) (h : shC m k K H Ds vs) (hD : ctV m k K H D cv) : shC m k K H (pushD N Ds D) (pushV N Ds.length vs cv) := by
  intro j E hE
  unfold pushD at hE
  unfold pushV
  by_cases hlt : Ds.length < N
  · rw [if_pos hlt] at hE ⊢
    by_cases hj : j < Ds.length
    · rw [List.getElem?_append_left hj] at hE
      obtain ⟨v, g1, g2⟩ := h j E hE
      exact ⟨v, by rw [List.getElem?_set_ne (by omega)]; exact g1, g2⟩
    · rw [List.getElem?_append_right (by omega)] at hE
      have hj2 : j = Ds.length := by
        have := (List.getElem?_eq_some_iff.mp hE).1
        simp at this
        omega
      subst hj2
      rw [Nat.sub_self] at hE
      cases hE
      exact ⟨_, List.getElem?_set_self (by omega), ctV_cpy hm hk hD⟩
  · rw [if_neg hlt] at hE ⊢
    have hl : (Ds.drop 1).length = N - 1 := by simp; omega
    by_cases hj : j < N - 1
    · rw [List.getElem?_append_left (by omega), List.getElem?_drop] at hE
      obtain ⟨v, g1, g2⟩ := h (1 + j) E hE
      refine ⟨v, ?_, g2⟩
      rw [List.getElem?_set_ne (by omega), rot_get _ _ (by omega), Nat.add_comm j 1]
      exact g1
    · rw [List.getElem?_append_right (by omega)] at hE
      have hj2 : j = N - 1 := by
        have := (List.getElem?_eq_some_iff.mp hE).1
        simp at this
        omega
      subst hj2
      rw [hl, Nat.sub_self] at hE
      cases hE
      exact ⟨_, List.getElem?_set_self (by rw [rot_len]; omega), ctV_cpy hm hk hD⟩
theorem pushV_len {N k : Nat} {vs : List CV} {cv : CV} (h : vs.length = N) : (pushV N k vs cv).length = N := by
  unfold pushV
  split
  · rw [List.length_set]; exact h
  · rw [List.length_set, rot_len]; exact h
/-- the reference's keeping of what was -/
theorem ref_keeps {m k : Nat} {Ds : List Dy} {D : Dy} {ms mp : Nat → Int32} {Q : (Nat → Int32) → Int32 → Prop} (hm : m ≤ 7) (hk : k ≤ 6) (hl : Ds.length ≤ 8) (hD : rfD m k D ms) (h : rfS m k Ds mp) (hQ : ∀ mp', rfS m k (pushD 8 Ds D) mp' → Q mp' (nI (pushD 8 Ds D).length)) : wX6_keeps ms mp (nI Ds.length) Q := by
  have put : ∀ (n : Nat) (mp : Nat → Int32), n < 8 → (∀ mp', (∀ i, i < 56 → mp' (56 * n + i) = ms i) → (∀ i, i < 56 * n → mp' i = mp i) → Q mp' (nI (n + 1))) → ∃ f, wX6_keeps_L51 ms (nI n) Q f (nI 0) mp := by
    intro n mp0 hn hq
    have key : ∀ r i mp1, i + r = 56 → (∀ j, j < i → mp1 (56 * n + j) = ms j) → (∀ j, j < 56 * n → mp1 j = mp0 j) → wX6_keeps_L51 ms (nI n) Q (r + 1) (nI i) mp1 := by
      intro r
      induction r with
      | zero =>
        intro i mp1 hi h1 h2
        have hi : i = 56 := by omega
        subst hi
        unfold wX6_keeps_L51
        rw [nI_1]
        exact ifp (by decide) (hq mp1 h1 h2)
      | succ r ih =>
        intro i mp1 hi h1 h2
        unfold wX6_keeps_L51
        rw [ifF (by simp (disch := omega) only [zl_0, zl_1, zl_2, zl_3, zl_4, zl_5, zl_6, zl_7, zl_8, zl_9, zl_10, zl_14, zl_16, zl_20, zl_24, zl_32, zl_40, zl_42, zl_44, zl_48, zl_56, zl_57, zl_59, zl_60, zl_61, zl_64, zl_99, zl_100, zl_110, zl_126, zl_128, zl_200, zl_392, zl_999, zl_9999, nI_add, pk_mul, nI_leI, nI_ltI, nI_eq, nI_clamp, vpn, pk_sub]; omega)]
        have e1 : ((56 : Int32) * nI n) + nI i = nI (56 * n + i) := by
          have e0 : (56 : Int32) = nI 56 := rfl
          rw [e0, pk_mul, nI_add]
        rw [e1, nI_clamp (by omega), nI_clamp (by omega), vpn (by omega), vpn (by omega), nI_1]
        refine ⟨by omega, by omega, ih (i + 1) _ (by omega) (fun j hj => ?_) (fun j hj => ?_)⟩
        · by_cases he : j = i
          · subst he; rw [upd_at]
          · rw [upd_ne _ _ (by omega)]; exact h1 j (by omega)
        · rw [upd_ne _ _ (by omega)]; exact h2 j hj
    exact ⟨57, key 56 0 mp0 (by omega) (fun j hj => absurd hj (Nat.not_lt_zero _)) (fun _ _ => rfl)⟩
  unfold wX6_keeps
  by_cases h8 : Ds.length = 8
  · rw [ifT (by rw [h8]; rfl)]
    have shift : ∀ (K39 : (Nat → Int32) → Prop), (∀ mp', (∀ i, i < 392 → mp' i = mp (i + 56)) → K39 mp') → ∃ f, wX6_keeps_L11 K39 f (nI 0) mp := by
      intro K39 hK
      have key : ∀ r i mp1, i + r = 392 → (∀ j, j < i → mp1 j = mp (j + 56)) → (∀ j, i ≤ j → mp1 j = mp j) → wX6_keeps_L11 K39 (r + 1) (nI i) mp1 := by
        intro r
        induction r with
        | zero =>
          intro i mp1 hi h1 h2
          have hi : i = 392 := by omega
          subst hi
          unfold wX6_keeps_L11
          exact ifp (by decide) (hK mp1 h1)
        | succ r ih =>
          intro i mp1 hi h1 h2
          unfold wX6_keeps_L11
          rw [ifF (by simp (disch := omega) only [zl_0, zl_1, zl_2, zl_3, zl_4, zl_5, zl_6, zl_7, zl_8, zl_9, zl_10, zl_14, zl_16, zl_20, zl_24, zl_32, zl_40, zl_42, zl_44, zl_48, zl_56, zl_57, zl_59, zl_60, zl_61, zl_64, zl_99, zl_100, zl_110, zl_126, zl_128, zl_200, zl_392, zl_999, zl_9999, nI_add, pk_mul, nI_leI, nI_ltI, nI_eq, nI_clamp, vpn, pk_sub]; omega)]
          have e1 : nI i + (56 : Int32) = nI (i + 56) := nI_add i 56
          rw [e1, nI_clamp (by omega), nI_clamp (by omega), vpn (by omega), vpn (by omega), nI_1]
          refine ⟨by omega, by omega, ih (i + 1) _ (by omega) (fun j hj => ?_) (fun j hj => ?_)⟩
          · by_cases he : j = i
            · subst he; rw [upd_at]; exact h2 _ (by omega)
            · rw [upd_ne _ _ he]; exact h1 j (by omega)
          · rw [upd_ne _ _ (by omega)]; exact h2 j (by omega)
      exact ⟨393, key 392 0 mp (by omega) (fun j hj => absurd hj (Nat.not_lt_zero _)) (fun _ _ => rfl)⟩
    refine shift _ (fun mp1 g1 => ?_)
    have e7 : nI Ds.length - 1 = nI 7 := by rw [h8]; rfl
    rw [e7]
    refine put 7 mp1 (by omega) (fun mp2 g2 g3 => ?_)
    have hp : pushD 8 Ds D = Ds.drop 1 ++ [D] := by unfold pushD; rw [if_neg (by omega)]
    have hl2 : (pushD 8 Ds D).length = 8 := by rw [hp]; simp; omega
    have hq := hQ mp2 (fun j E hE => ?_)
    · rw [hl2] at hq
      exact hq
    · rw [hp] at hE
      have hld : (Ds.drop 1).length = 7 := by simp; omega
      by_cases hj : j < 7
      · rw [List.getElem?_append_left (by omega), List.getElem?_drop] at hE
        refine rfD_eq hm hk (h (1 + j) E hE) (fun i hi => ?_)
        show mp2 (56 * j + i) = mp (56 * (1 + j) + i)
        rw [g3 _ (by omega), g1 _ (by omega)]
        congr 1
        omega
      · rw [List.getElem?_append_right (by omega)] at hE
        have hj2 : j = 7 := by
          have := (List.getElem?_eq_some_iff.mp hE).1
          simp at this
          omega
        subst hj2
        rw [hld, Nat.sub_self] at hE
        cases hE
        exact rfD_eq hm hk hD (fun i hi => g2 i hi)
  · rw [ifF (by simp (disch := omega) only [zl_0, zl_1, zl_2, zl_3, zl_4, zl_5, zl_6, zl_7, zl_8, zl_9, zl_10, zl_14, zl_16, zl_20, zl_24, zl_32, zl_40, zl_42, zl_44, zl_48, zl_56, zl_57, zl_59, zl_60, zl_61, zl_64, zl_99, zl_100, zl_110, zl_126, zl_128, zl_200, zl_392, zl_999, zl_9999, nI_add, pk_mul, nI_leI, nI_ltI, nI_eq, nI_clamp, vpn, pk_sub]; exact h8)]
    refine put Ds.length mp (by omega) (fun mp2 g2 g3 => ?_)
    have hp : pushD 8 Ds D = Ds ++ [D] := by unfold pushD; rw [if_pos (by omega)]
    have hl2 : (pushD 8 Ds D).length = Ds.length + 1 := by rw [hp]; simp
    have hq := hQ mp2 (fun j E hE => ?_)
    · rw [hl2] at hq
      exact hq
    · rw [hp] at hE
      by_cases hj : j < Ds.length
      · rw [List.getElem?_append_left hj] at hE
        refine rfD_eq hm hk (h j E hE) (fun i hi => ?_)
        exact g3 _ (by omega)
      · rw [List.getElem?_append_right (by omega)] at hE
        have hj2 : j = Ds.length := by
          have := (List.getElem?_eq_some_iff.mp hE).1
          simp at this
          omega
        subst hj2
        rw [Nat.sub_self] at hE
        cases hE
        exact rfD_eq hm hk hD (fun i hi => g2 i hi)
