/-! offices: the reference tries all -/
def n9 (m x : Nat) : Nat := if x = 9 then m else x
def mM (tk : Nat → Nat) (r i T c : Nat) : Nat := mxc (okf tk i T) (fun c => 1 + mst tk r (i + 1) (T ||| 2 ^ c)) (mst tk r (i + 1) T) (7 - c) c
def mC (tk : Nat → Nat) (r i T c : Nat) : Nat := chc (okf tk i T) (fun c => 1 + mst tk r (i + 1) (T ||| 2 ^ c)) (mM tk r i T c) (7 - c) c
def asg (tk : Nat → Nat) (m r i T : Nat) (q : Nat → Nat) (c j : Nat) : Nat := if j < i then q j else if j = i then n9 m (mC tk r i T c) else n9 m (grd tk r (i + 1) (if mC tk r i T c = 9 then T else T ||| 2 ^ mC tk r i T c) j)
def bq (b : Nat) : Int32 := nI b + (-1)
theorem bq_le : ∀ g, g < 8 → ∀ b, b < 9 → (nI g ≤ bq b ↔ g < b) := by decide +kernel
theorem bq_s : ∀ g, g < 8 → nI g = bq (g + 1) := by decide +kernel
theorem okf_iff {tk : Nat → Nat} {i T c : Nat} (hc : c < 7) : okf tk i T c = true ↔ (tk i).testBit c = true ∧ T.testBit c = false := by
  have h : ∀ c, c < 7 → (127 : Nat).testBit c = true := by decide
  unfold okf
  rw [Nat.testBit_and, Nat.testBit_xor, h c hc]
  cases (tk i).testBit c <;> cases T.testBit c <;> simp
section SIM
variable {m k : Nat} {K H : Nat → Nat} {D : Dy} {mo ms : Nat → Int32}
theorem tkD_bit {n c : Nat} : (tkD m D n).testBit c = true ↔ (¬ dA D n = 9 ∧ c < m ∧ dB D n c ≤ 4) := by
  unfold tkD
  by_cases h9 : dA D n = 9
  · rw [if_pos h9]
    simp [h9]
  · rw [if_neg h9, ds_bit]
    simp [h9]
theorem okf_none {i T c : Nat} (hc : m ≤ c) : okf (tkD m D) i T c = false := by
  unfold okf
  rw [Nat.testBit_and]
  have : (tkD m D i).testBit c = false := by
    by_cases g : (tkD m D i).testBit c = true
    · have := tkD_bit.mp g
      omega
    · simpa using g
  rw [this]
  rfl
theorem flag0 {x1 : Int32} {i c : Nat} {mr : Nat → Int32} {K : Int32 → Prop} (hi : i < 7) (hK : K 0) : ∀ r j, j + r = i → wX6_given_L110 x1 (nI i) (nI c) mr K (r + 1) 0 (nI j) := by
  intro r
  induction r with
  | zero =>
    intro j hj
    have hj : j = i := by omega
    subst hj
    unfold wX6_given_L110
    exact ifp (Int32.le_refl _) hK
  | succ r ih =>
    intro j hj
    unfold wX6_given_L110
    rw [ifF (by simp (disch := omega) only [zl_0, zl_1, zl_2, zl_3, zl_4, zl_5, zl_6, zl_7, zl_8, zl_9, zl_10, zl_14, zl_16, zl_20, zl_24, zl_32, zl_40, zl_42, zl_44, zl_48, zl_56, zl_57, zl_59, zl_60, zl_61, zl_64, zl_99, zl_100, zl_110, zl_126, zl_128, zl_200, zl_392, zl_999, zl_9999, nI_add, pk_mul, nI_leI, nI_ltI, nI_eq, nI_clamp, vpn, pk_sub]; omega), ifT rfl, nI_1]
    exact ih (j + 1) (by omega)
theorem flag1 {m i c : Nat} {mr : Nat → Int32} {K : Int32 → Prop} (hi : i < 6) (hm : m ≤ 7) (hcm : c ≤ m) (hK : K 1) (h : c = m ∨ ∀ j, j < i → ¬ mr j = nI c) : ∀ r j, j + r = i → wX6_given_L110 (nI m) (nI i) (nI c) mr K (r + 1) 1 (nI j) := by
  intro r
  induction r with
  | zero =>
    intro j hj
    have hj : j = i := by omega
    subst hj
    unfold wX6_given_L110
    exact ifp (Int32.le_refl _) hK
  | succ r ih =>
    intro j hj
    unfold wX6_given_L110
    rw [ifF (by simp (disch := omega) only [zl_0, zl_1, zl_2, zl_3, zl_4, zl_5, zl_6, zl_7, zl_8, zl_9, zl_10, zl_14, zl_16, zl_20, zl_24, zl_32, zl_40, zl_42, zl_44, zl_48, zl_56, zl_57, zl_59, zl_60, zl_61, zl_64, zl_99, zl_100, zl_110, zl_126, zl_128, zl_200, zl_392, zl_999, zl_9999, nI_add, pk_mul, nI_leI, nI_ltI, nI_eq, nI_clamp, vpn, pk_sub]; omega), ifF (by decide), nI_1, nI_clamp (by omega), vpn (by omega)]
    by_cases hc : c = m
    · exact ifp (by rw [hc]) (ih (j + 1) (by omega))
    · refine ifn (by simp (disch := omega) only [zl_0, zl_1, zl_2, zl_3, zl_4, zl_5, zl_6, zl_7, zl_8, zl_9, zl_10, zl_14, zl_16, zl_20, zl_24, zl_32, zl_40, zl_42, zl_44, zl_48, zl_56, zl_57, zl_59, zl_60, zl_61, zl_64, zl_99, zl_100, zl_110, zl_126, zl_128, zl_200, zl_392, zl_999, zl_9999, nI_add, pk_mul, nI_leI, nI_ltI, nI_eq, nI_clamp, vpn, pk_sub]; exact hc) ⟨by omega, ifn (h.resolve_left hc j (by omega)) (ih (j + 1) (by omega))⟩
theorem flagX {m i c : Nat} {mr : Nat → Int32} {K : Int32 → Prop} (hi : i < 6) (hm : m ≤ 7) (hcm : c < m) (hK : K 0) : ∀ r j, j + r = i → (∃ j', j ≤ j' ∧ j' < i ∧ mr j' = nI c) → wX6_given_L110 (nI m) (nI i) (nI c) mr K (r + 1) 1 (nI j) := by
  intro r
  induction r with
  | zero =>
    rintro j hj ⟨j', h1, h2, _⟩
    omega
  | succ r ih =>
    intro j hj h
    unfold wX6_given_L110
    rw [ifF (by simp (disch := omega) only [zl_0, zl_1, zl_2, zl_3, zl_4, zl_5, zl_6, zl_7, zl_8, zl_9, zl_10, zl_14, zl_16, zl_20, zl_24, zl_32, zl_40, zl_42, zl_44, zl_48, zl_56, zl_57, zl_59, zl_60, zl_61, zl_64, zl_99, zl_100, zl_110, zl_126, zl_128, zl_200, zl_392, zl_999, zl_9999, nI_add, pk_mul, nI_leI, nI_ltI, nI_eq, nI_clamp, vpn, pk_sub]; omega), ifF (by decide), nI_1, nI_clamp (by omega), vpn (by omega), ifF (by simp (disch := omega) only [zl_0, zl_1, zl_2, zl_3, zl_4, zl_5, zl_6, zl_7, zl_8, zl_9, zl_10, zl_14, zl_16, zl_20, zl_24, zl_32, zl_40, zl_42, zl_44, zl_48, zl_56, zl_57, zl_59, zl_60, zl_61, zl_64, zl_99, zl_100, zl_110, zl_126, zl_128, zl_200, zl_392, zl_999, zl_9999, nI_add, pk_mul, nI_leI, nI_ltI, nI_eq, nI_clamp, vpn, pk_sub]; omega)]
    refine ⟨by omega, ?_⟩
    by_cases g : mr j = nI c
    · exact ifp g (flag0 (by omega) hK r (j + 1) (by omega))
    · refine ifn g (ih (j + 1) (by omega) ?_)
      obtain ⟨j', h1, h2, h3⟩ := h
      refine ⟨j', ?_, h2, h3⟩
      by_cases e : j' = j
      · rw [e] at h3; exact absurd h3 g
      · omega
def PS (m k : Nat) (ms : Nat → Int32) (Q : Int32 → (Nat → Int32) → (Nat → Int32) → Prop) (x3 x4 : Int32) (mr mx : Nat → Int32) : Prop := ∃ f, wX6_given_L26 (nI m) (nI k) ms Q f x3 x4 mr mx
theorem r_leaf {i b g : Nat} {q : Nat → Nat} {mr mx : Nat → Int32} {K : Int32 → (Nat → Int32) → Prop} (hk : k ≤ 6) (hm : m ≤ 7) (hb : b ≤ 7) (hq : ∀ j, j < k → mr j = nI (q j) ∧ q j ≤ m) (hg : g = rsum (fun j => if q j = m then 0 else 1) k)
    (h1 : b ≤ g → ∀ mx', (∀ j, j < k → mx' j = nI (q j)) → (∀ j, k ≤ j → mx' j = mx j) → K (bq (g + 1)) mx') (h2 : ¬ b ≤ g → K (bq b) mx) : ∃ f, wX6_given_L172 (nI m) (nI k) mr (fun x7 => ∃ f, wX6_given_L208 (nI k) (bq b) x7 mr (fun x3 mx => K x3 mx) f 0 mx) f 0 0 := by
  have hgk : ∀ i, rsum (fun j => if q j = m then 0 else 1) i ≤ i := fun i => by
    have := rsum_le (f := fun j => if q j = m then 0 else 1) (b := 1) (j := i) (fun j _ => by show (if q j = m then 0 else 1) ≤ 1; split <;> omega)
    omega
  have fin : ∃ f, wX6_given_L208 (nI k) (bq b) (nI g) mr (fun x3 mx => K x3 mx) f 0 mx := by
    have hg2 := hgk k
    by_cases hbg : b ≤ g
    · have hn : ¬ nI g ≤ bq b := fun h => by
        have := (bq_le g (by omega) b (by omega)).mp h
        omega
      have key : ∀ r j mx1, j + r = k → (∀ l, l < j → mx1 l = nI (q l)) → (∀ l, k ≤ l → mx1 l = mx l) → wX6_given_L208 (nI k) (bq b) (nI g) mr (fun x3 mx => K x3 mx) (r + 1) (nI j) mx1 := by
        intro r
        induction r with
        | zero =>
          intro j mx1 hj hl hl3
          have hj : j = k := by omega
          subst hj
          unfold wX6_given_L208
          rw [ifT (Int32.le_refl _), ifF hn, bq_s g (by omega)]
          exact h1 hbg _ hl hl3
        | succ r ih =>
          intro j mx1 hj hl hl3
          unfold wX6_given_L208
          rw [ifF (by simp (disch := omega) only [zl_0, zl_1, zl_2, zl_3, zl_4, zl_5, zl_6, zl_7, zl_8, zl_9, zl_10, zl_14, zl_16, zl_20, zl_24, zl_32, zl_40, zl_42, zl_44, zl_48, zl_56, zl_57, zl_59, zl_60, zl_61, zl_64, zl_99, zl_100, zl_110, zl_126, zl_128, zl_200, zl_392, zl_999, zl_9999, nI_add, pk_mul, nI_leI, nI_ltI, nI_eq, nI_clamp, vpn, pk_sub]; omega), ifF hn, nI_clamp (by omega), vpn (by omega), nI_1]
          refine ⟨by omega, by omega, ih (j + 1) _ (by omega) (fun l hl2 => ?_) (fun l hl2 => by rw [upd_ne _ _ (by omega)]; exact hl3 l hl2)⟩
          by_cases e : l = j
          · rw [e, upd_at]; exact (hq j (by omega)).1
          · rw [upd_ne _ _ e]; exact hl l (by omega)
      exact ⟨k + 1, key k 0 mx (by omega) (fun l hl => absurd hl (Nat.not_lt_zero _)) (fun _ _ => rfl)⟩
    · have hy : nI g ≤ bq b := (bq_le g (by omega) b (by omega)).mpr (by omega)
      refine ⟨1, ?_⟩
      unfold wX6_given_L208
      have h2 := h2 hbg
      refine ⟨fun _ => ifp hy h2, fun _ => ifp hy (ifp hy h2)⟩
  have key : ∀ r j, j + r = k → wX6_given_L172 (nI m) (nI k) mr (fun x7 => ∃ f, wX6_given_L208 (nI k) (bq b) x7 mr (fun x3 mx => K x3 mx) f 0 mx) (r + 1) (nI (rsum (fun j => if q j = m then 0 else 1) j)) (nI j) := by
    intro r
    induction r with
    | zero =>
      intro j hj
      have hj : j = k := by omega
      subst hj
      unfold wX6_given_L172
      rw [← hg]
      exact ifp (Int32.le_refl _) fin
    | succ r ih =>
      intro j hj
      have h3 := ih (j + 1) (by omega)
      have hqj := hq j (by omega)
      have e : rsum (fun j => if q j = m then 0 else 1) (j + 1) = rsum (fun j => if q j = m then 0 else 1) j + (if q j = m then 0 else 1) := rfl
      rw [e] at h3
      unfold wX6_given_L172
      rw [ifF (by simp (disch := omega) only [zl_0, zl_1, zl_2, zl_3, zl_4, zl_5, zl_6, zl_7, zl_8, zl_9, zl_10, zl_14, zl_16, zl_20, zl_24, zl_32, zl_40, zl_42, zl_44, zl_48, zl_56, zl_57, zl_59, zl_60, zl_61, zl_64, zl_99, zl_100, zl_110, zl_126, zl_128, zl_200, zl_392, zl_999, zl_9999, nI_add, pk_mul, nI_leI, nI_ltI, nI_eq, nI_clamp, vpn, pk_sub]; omega), nI_clamp (by omega), vpn (by omega), hqj.1, nI_1, nmx, nmx]
      refine ⟨by omega, ?_⟩
      by_cases hm2 : q j = m
      · rw [if_pos hm2] at h3
        rw [Nat.add_zero] at h3
        rw [Int32.add_zero]
        exact ifp (by rw [hm2]) h3
      · rw [if_neg hm2] at h3
        refine ifn (by simp (disch := omega) only [zl_0, zl_1, zl_2, zl_3, zl_4, zl_5, zl_6, zl_7, zl_8, zl_9, zl_10, zl_14, zl_16, zl_20, zl_24, zl_32, zl_40, zl_42, zl_44, zl_48, zl_56, zl_57, zl_59, zl_60, zl_61, zl_64, zl_99, zl_100, zl_110, zl_126, zl_128, zl_200, zl_392, zl_999, zl_9999, nI_add, pk_mul, nI_leI, nI_ltI, nI_eq, nI_clamp, vpn, pk_sub]; exact hm2) ?_
        rw [nI_1]
        exact h3
  exact ⟨k + 1, key k 0 (by omega)⟩
/-- one try at place i -/
theorem r_try {i c : Nat} {x3 : Int32} {mr mx : Nat → Int32} {Q : Int32 → (Nat → Int32) → (Nat → Int32) → Prop} {f : Nat} (ok : okD m k K H D) (hr : rfD m k D ms) (hi : i < k) (hcm : c ≤ m) (hmi : mr i + 1 = nI c)
    (h : ∀ s, s < 2 → (s = 1 ↔ c = m ∨ (tkD m D i).testBit c = true) → wX6_given_J105 (nI m) (nI k) x3 (nI i) (nI c) (nI s) (upd mr i (nI c)) mx (fun a b c d => wX6_given_L26 (nI m) (nI k) ms Q f a b c d)) : wX6_given_L26 (nI m) (nI k) ms Q (f + 1) x3 (nI i) mr mx := by
  have hm7 := ok.1.2.1
  have hk6 := ok.2.2.1
  have e8 : (8 : Int32) + nI i = nI (8 + i) := nI_add 8 i
  unfold wX6_given_L26
  rw [ifF (nI_pos (by omega)), nI_clamp (by omega), vpn (by omega), hmi]
  refine ⟨by omega, by omega, by omega, ?_⟩
  rw [upd_at, ifT (by simp (disch := omega) only [zl_0, zl_1, zl_2, zl_3, zl_4, zl_5, zl_6, zl_7, zl_8, zl_9, zl_10, zl_14, zl_16, zl_20, zl_24, zl_32, zl_40, zl_42, zl_44, zl_48, zl_56, zl_57, zl_59, zl_60, zl_61, zl_64, zl_99, zl_100, zl_110, zl_126, zl_128, zl_200, zl_392, zl_999, zl_9999, nI_add, pk_mul, nI_leI, nI_ltI, nI_eq, nI_clamp, vpn, pk_sub]; exact hcm), nmx]
  refine ⟨by omega, ?_⟩
  have v1 : (1 : Int32) = nI 1 := rfl
  have v0 : (0 : Int32) = nI 0 := rfl
  by_cases hc : c = m
  · exact ifp (by rw [hc]) (h 1 (by omega) ⟨fun _ => Or.inl hc, fun _ => rfl⟩)
  · refine ifn (by simp (disch := omega) only [zl_0, zl_1, zl_2, zl_3, zl_4, zl_5, zl_6, zl_7, zl_8, zl_9, zl_10, zl_14, zl_16, zl_20, zl_24, zl_32, zl_40, zl_42, zl_44, zl_48, zl_56, zl_57, zl_59, zl_60, zl_61, zl_64, zl_99, zl_100, zl_110, zl_126, zl_128, zl_200, zl_392, zl_999, zl_9999, nI_add, pk_mul, nI_leI, nI_ltI, nI_eq, nI_clamp, vpn, pk_sub]; exact hc) ?_
    rw [e8, nI_clamp (by omega), vpn (by omega), (hr.2.2.1 i hi).1]
    refine ⟨by omega, ?_⟩
    have ha := ok.A hi
    by_cases h9 : dA D i = 9
    · refine ifp (by rw [h9]; rfl) (h 0 (by omega) ⟨fun g => absurd g (by omega), fun g => ?_⟩)
      rcases g with g | g
      · exact absurd g hc
      · exact absurd h9 (tkD_bit.mp g).1
    · rw [ifF (show ¬ nI (dA D i) = (9 : Int32) by simp (disch := omega) only [zl_0, zl_1, zl_2, zl_3, zl_4, zl_5, zl_6, zl_7, zl_8, zl_9, zl_10, zl_14, zl_16, zl_20, zl_24, zl_32, zl_40, zl_42, zl_44, zl_48, zl_56, zl_57, zl_59, zl_60, zl_61, zl_64, zl_99, zl_100, zl_110, zl_126, zl_128, zl_200, zl_392, zl_999, zl_9999, nI_add, pk_mul, nI_leI, nI_ltI, nI_eq, nI_clamp, vpn, pk_sub]; exact h9), r_doubts (by omega) hm7 (hr.2.2.1 i hi) (by omega) (ok.B hi (by omega))]
      by_cases hb : dB D i c ≤ 4
      · rw [if_pos hb]
        exact ifn (by decide) (h 1 (by omega) ⟨fun _ => Or.inr (tkD_bit.mpr ⟨h9, by omega, hb⟩), fun _ => rfl⟩)
      · rw [if_neg hb]
        refine ifp rfl (h 0 (by omega) ⟨fun g => absurd g (by omega), fun g => ?_⟩)
        rcases g with g | g
        · exact absurd g hc
        · exact absurd (tkD_bit.mp g).2.2 hb
theorem PS_bad {i c : Nat} {x3 : Int32} {mr mx : Nat → Int32} {Q : Int32 → (Nat → Int32) → (Nat → Int32) → Prop} (ok : okD m k K H D) (hr : rfD m k D ms) (hi : i < k) (hcm : c < m) (hmi : mr i + 1 = nI c) (hb : ¬ (tkD m D i).testBit c = true ∨ ∃ j, j < i ∧ mr j = nI c) (h : PS m k ms Q x3 (nI i) (upd mr i (nI c)) mx) : PS m k ms Q x3 (nI i) mr mx := by
  have hm7 := ok.1.2.1
  have hk6 := ok.2.2.1
  obtain ⟨f, h⟩ := h
  refine ⟨f + 1, r_try ok hr hi (by omega) hmi (fun s hs hs2 => ?_)⟩
  unfold wX6_given_J105
  have fin : (fun x6_144 : Int32 => ((x6_144 = 0 → ((x6_144 = 0 → (wX6_given_L26 (nI m) (nI k) ms Q f x3 (nI i) (upd mr i (nI c)) mx)) ∧ (¬ x6_144 = 0 → (vp_in (nI i + (1 : Int32)) 6 ∧ (wX6_given_L26 (nI m) (nI k) ms Q f x3 (nI i + (1 : Int32)) (upd (upd mr i (nI c)) ((nI i + (1 : Int32)).toNatClampNeg) (-1 : Int32)) mx))))) ∧ (¬ x6_144 = 0 → ((nI i = (nI k - (1 : Int32)) → (∃ n_169 : Nat, wX6_given_L172 (nI m) (nI k) (upd mr i (nI c)) (fun x7_157 => (∃ n_168 : Nat, wX6_given_L208 (nI k) x3 x7_157 (upd mr i (nI c)) (fun x3_166 mx_167 => (wX6_given_L26 (nI m) (nI k) ms Q f x3_166 (nI i) (upd mr i (nI c)) mx_167)) n_168 (0 : Int32) mx)) n_169 (0 : Int32) (0 : Int32))) ∧ (¬ nI i = (nI k - (1 : Int32)) → ((x6_144 = 0 → (wX6_given_L26 (nI m) (nI k) ms Q f x3 (nI i) (upd mr i (nI c)) mx)) ∧ (¬ x6_144 = 0 → (vp_in (nI i + (1 : Int32)) 6 ∧ (wX6_given_L26 (nI m) (nI k) ms Q f x3 (nI i + (1 : Int32)) (upd (upd mr i (nI c)) ((nI i + (1 : Int32)).toNatClampNeg) (-1 : Int32)) mx))))))))) 0 := ifp rfl (ifp rfl h)
  by_cases h0 : s = 0
  · subst h0
    exact ⟨i + 1, flag0 (by omega) fin i 0 (by omega)⟩
  · have h1 : s = 1 := by omega
    subst h1
    rcases hb with g | ⟨j, j1, j2⟩
    · rcases hs2.mp rfl with g2 | g2
      · omega
      · exact absurd g2 g
    · exact ⟨i + 1, flagX (by omega) hm7 hcm fin i 0 (by omega) ⟨j, by omega, j1, by rw [upd_ne _ _ (by omega)]; exact j2⟩⟩
theorem PS_down {i c : Nat} {x3 : Int32} {mr mx : Nat → Int32} {Q : Int32 → (Nat → Int32) → (Nat → Int32) → Prop} (ok : okD m k K H D) (hr : rfD m k D ms) (hi : i + 1 < k) (hcm : c ≤ m) (hmi : mr i + 1 = nI c) (hb : c = m ∨ ((tkD m D i).testBit c = true ∧ ∀ j, j < i → ¬ mr j = nI c)) (h : PS m k ms Q x3 (nI (i + 1)) (upd (upd mr i (nI c)) (i + 1) (-1)) mx) : PS m k ms Q x3 (nI i) mr mx := by
  have hm7 := ok.1.2.1
  have hk6 := ok.2.2.1
  obtain ⟨f, h⟩ := h
  refine ⟨f + 1, r_try ok hr (by omega) hcm hmi (fun s hs hs2 => ?_)⟩
  have h1 : s = 1 := hs2.mpr (hb.imp id (fun g => g.1))
  subst h1
  unfold wX6_given_J105
  refine ⟨i + 1, flag1 (by omega) hm7 hcm ?_ (hb.imp id (fun g j hj => by rw [upd_ne _ _ (by omega)]; exact g.2 j hj)) i 0 (by omega)⟩
  have e1 : nI k - 1 = nI (k - 1) := pk_sub (a := k) (b := 1) (by omega)
  refine ifn (by decide) (ifn (by rw [e1]; simp (disch := omega) only [zl_0, zl_1, zl_2, zl_3, zl_4, zl_5, zl_6, zl_7, zl_8, zl_9, zl_10, zl_14, zl_16, zl_20, zl_24, zl_32, zl_40, zl_42, zl_44, zl_48, zl_56, zl_57, zl_59, zl_60, zl_61, zl_64, zl_99, zl_100, zl_110, zl_126, zl_128, zl_200, zl_392, zl_999, zl_9999, nI_add, pk_mul, nI_leI, nI_ltI, nI_eq, nI_clamp, vpn, pk_sub]; omega) (ifn (by decide) ?_))
  rw [nI_1, nI_clamp (by omega), vpn (by omega)]
  exact ⟨by omega, h⟩
theorem PS_leaf {i c b g : Nat} {q : Nat → Nat} {mr mx : Nat → Int32} {Q : Int32 → (Nat → Int32) → (Nat → Int32) → Prop} (ok : okD m k K H D) (hr : rfD m k D ms) (hi : i + 1 = k) (hcm : c ≤ m) (hbb : b ≤ 7) (hmi : mr i + 1 = nI c) (hb : c = m ∨ ((tkD m D i).testBit c = true ∧ ∀ j, j < i → ¬ mr j = nI c)) (hq : ∀ j, j < k → upd mr i (nI c) j = nI (q j) ∧ q j ≤ m) (hg : g = rsum (fun j => if q j = m then 0 else 1) k)
    (h1 : b ≤ g → ∀ mx', (∀ j, j < k → mx' j = nI (q j)) → PS m k ms Q (bq (g + 1)) (nI i) (upd mr i (nI c)) mx') (h2 : ¬ b ≤ g → PS m k ms Q (bq b) (nI i) (upd mr i (nI c)) mx) : PS m k ms Q (bq b) (nI i) mr mx := by
  have hm7 := ok.1.2.1
  have hk6 := ok.2.2.1
  have e1 : nI k - 1 = nI (k - 1) := pk_sub (a := k) (b := 1) (by omega)
  have go : ∀ f, (b ≤ g → ∀ mx', (∀ j, j < k → mx' j = nI (q j)) → (∀ j, k ≤ j → mx' j = mx j) → wX6_given_L26 (nI m) (nI k) ms Q f (bq (g + 1)) (nI i) (upd mr i (nI c)) mx') → (¬ b ≤ g → wX6_given_L26 (nI m) (nI k) ms Q f (bq b) (nI i) (upd mr i (nI c)) mx) → wX6_given_L26 (nI m) (nI k) ms Q (f + 1) (bq b) (nI i) mr mx := by
    intro f f1 f2
    refine r_try ok hr (by omega) hcm hmi (fun s hs hs2 => ?_)
    have h1 : s = 1 := hs2.mpr (hb.imp id (fun g => g.1))
    subst h1
    unfold wX6_given_J105
    refine ⟨i + 1, flag1 (by omega) hm7 hcm ?_ (hb.imp id (fun g j hj => by rw [upd_ne _ _ (by omega)]; exact g.2 j hj)) i 0 (by omega)⟩
    refine ifn (by decide) (ifp (by rw [e1]; simp (disch := omega) only [zl_0, zl_1, zl_2, zl_3, zl_4, zl_5, zl_6, zl_7, zl_8, zl_9, zl_10, zl_14, zl_16, zl_20, zl_24, zl_32, zl_40, zl_42, zl_44, zl_48, zl_56, zl_57, zl_59, zl_60, zl_61, zl_64, zl_99, zl_100, zl_110, zl_126, zl_128, zl_200, zl_392, zl_999, zl_9999, nI_add, pk_mul, nI_leI, nI_ltI, nI_eq, nI_clamp, vpn, pk_sub]; omega) ?_)
    exact r_leaf (K := fun x3 mx => wX6_given_L26 (nI m) (nI k) ms Q f x3 (nI i) (upd mr i (nI c)) mx) (i := i) hk6 hm7 hbb hq hg f1 f2
  by_cases hbg : b ≤ g
  · -- the copy that the loop makes is one definite row; its fuel is asked for at that row
    have hrow : ∃ f, ∀ mx', (∀ j, j < k → mx' j = nI (q j)) → (∀ j, k ≤ j → mx' j = mx j) → wX6_given_L26 (nI m) (nI k) ms Q f (bq (g + 1)) (nI i) (upd mr i (nI c)) mx' := by
      obtain ⟨f, hf⟩ := h1 hbg (fun j => if j < k then nI (q j) else mx j) (fun j hj => if_pos hj)
      refine ⟨f, fun mx' g1 g2 => ?_⟩
      have : mx' = fun j => if j < k then nI (q j) else mx j := by
        funext j
        by_cases hj : j < k
        · rw [if_pos hj]; exact g1 j hj
        · rw [if_neg hj]; exact g2 j (by omega)
      rw [this]
      exact hf
    obtain ⟨f, hf⟩ := hrow
    exact ⟨f + 1, go f (fun _ mx' g1 g2 => hf mx' g1 g2) (fun g => absurd hbg g)⟩
  · obtain ⟨f, hf⟩ := h2 hbg
    exact ⟨f + 1, go f (fun g => absurd g hbg) (fun _ => hf)⟩
theorem PS_up {i : Nat} {x3 : Int32} {mr mx : Nat → Int32} {Q : Int32 → (Nat → Int32) → (Nat → Int32) → Prop} (ok : okD m k K H D) (hi : i < k) (hmi : mr i + 1 = nI (m + 1)) (h : PS m k ms Q x3 (nI i + (-1)) (upd mr i (nI (m + 1))) mx) : PS m k ms Q x3 (nI i) mr mx := by
  have hm7 := ok.1.2.1
  have hk6 := ok.2.2.1
  obtain ⟨f, h⟩ := h
  refine ⟨f + 1, ?_⟩
  unfold wX6_given_L26
  rw [ifF (nI_pos (by omega)), nI_clamp (by omega), vpn (by omega), hmi, upd_at]
  exact ⟨by omega, by omega, by omega, ifn (by simp (disch := omega) only [zl_0, zl_1, zl_2, zl_3, zl_4, zl_5, zl_6, zl_7, zl_8, zl_9, zl_10, zl_14, zl_16, zl_20, zl_24, zl_32, zl_40, zl_42, zl_44, zl_48, zl_56, zl_57, zl_59, zl_60, zl_61, zl_64, zl_99, zl_100, zl_110, zl_126, zl_128, zl_200, zl_392, zl_999, zl_9999, nI_add, pk_mul, nI_leI, nI_ltI, nI_eq, nI_clamp, vpn, pk_sub]; omega) h⟩
end SIM
