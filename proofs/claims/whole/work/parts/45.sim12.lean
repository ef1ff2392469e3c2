/-! which news was seen -/
def agl (Z : List (Nat × Nat)) (t a : Nat) : Nat → Nat → Bool
  | 0, _ => true
  | r + 1, i => if (Z.getD i (0, 0)).2 = t ∧ ¬ (Z.getD i (0, 0)).1 = a then false else agl Z t a r (i + 1)
theorem agl_k {Z : List (Nat × Nat)} {t a r i : Nat} (h : ¬ ((Z.getD i (0, 0)).2 = t ∧ ¬ (Z.getD i (0, 0)).1 = a)) : agl Z t a (r + 1) i = agl Z t a r (i + 1) := if_neg h
theorem agl_f {Z : List (Nat × Nat)} {t a r i : Nat} (h : (Z.getD i (0, 0)).2 = t ∧ ¬ (Z.getD i (0, 0)).1 = a) : agl Z t a (r + 1) i = false := if_pos h
def agr (Z : List (Nat × Nat)) (t a : Nat) : Bool := agl Z t a Z.length 0
def wb (m : Nat) (K H P S : Nat → Nat) (Z : List (Nat × Nat)) : Nat → Nat → Nat × (Nat → Nat) → Bool
  | 0, t, x => agr Z t x.1
  | r + 1, t, x => agr Z t x.1 && wb m K H P S Z r (t + 1) (stp m K H P S x)
theorem getD_of {Z : List (Nat × Nat)} {i : Nat} (h : i < Z.length) : Z[i]? = some (Z.getD i (0, 0)) := by
  rw [List.getD_eq_getElem?_getD, List.getElem?_eq_getElem h]
  rfl
theorem s_agrees {m : Nat} {Z : List (Nat × Nat)} {sw sn : Nat → Int32} {su : Int32} {t a : Nat} {Q : Int32 → Prop} (hm : m ≤ 7) (hz : okZ m Z) (hc : ctZ Z sw sn su) (ht : t < 100) (ha : a < 100) (hQ : Q (if agr Z t a then 1 else 0)) : wX3_agrees (nI t) (nI a) sw sn su Q := by
  have hl := hz.1
  unfold wX3_agrees
  have key : ∀ r i, i + r = Z.length → Q (if agl Z t a r i then 1 else 0) → wX3_agrees_L2 (nI t) (nI a) sw sn su Q (r + 1) (nI i) := by
    intro r
    induction r with
    | zero =>
      intro i hi hq
      have hi : i = Z.length := by omega
      subst hi
      unfold wX3_agrees_L2
      rw [hc.1]
      exact ifp (Int32.le_refl _) hq
    | succ r ih =>
      intro i hi hq
      have hg := getD_of (Z := Z) (i := i) (by omega)
      have h1 := hc.2 i _ hg
      have h2 := hz.2 _ (List.mem_of_getElem? hg)
      unfold wX3_agrees_L2
      rw [ifF (by rw [hc.1]; simp (disch := omega) only [zl_0, zl_1, zl_2, zl_3, zl_4, zl_5, zl_6, zl_7, zl_8, zl_9, zl_10, zl_14, zl_16, zl_20, zl_24, zl_32, zl_40, zl_42, zl_44, zl_48, zl_56, zl_57, zl_59, zl_60, zl_61, zl_64, zl_99, zl_100, zl_110, zl_126, zl_128, zl_200, zl_392, zl_999, zl_9999, nI_add, pk_mul, nI_leI, nI_ltI, nI_eq, nI_clamp, vpn, pk_sub]; omega), e_of (by omega) (by decide), h1.2, e_of (by omega) (by decide), h1.1, nI_1]
      by_cases g1 : (Z.getD i (0, 0)).2 = t
      · refine ifp (by rw [g1]) ?_
        by_cases g2 : (Z.getD i (0, 0)).1 = a
        · rw [agl_k (fun g => g.2 g2)] at hq
          exact ifp (by rw [g2]) (ih (i + 1) (by omega) hq)
        · rw [agl_f ⟨g1, g2⟩] at hq
          exact ifn (fun g => g2 ((nI_eq (by omega) (by omega)).mp g)) hq
      · rw [agl_k (fun g => g1 g.1)] at hq
        exact ifn (fun g => g1 ((nI_eq (by omega) (by omega)).mp g)) (ih (i + 1) (by omega) hq)
  exact ⟨Z.length + 1, key Z.length 0 (by omega) hQ⟩
theorem s_would {m n : Nat} {x : Nat × (Nat → Nat)} {K H P S : Nat → Nat} {kd hd pl st ho be sw sn : Nat → Int32} {su : Int32} {Z : List (Nat × Nat)} {Q : Int32 → (Nat → Int32) → (Nat → Int32) → Prop} (ok : okT m K H P S) (hs : ctS m K H P S kd hd pl st) (hn : n < 6) (hz : okZ m Z) (hcz : ctZ Z sw sn su) (hx : okN m x.1 x.2) (hN : ctN m n x.1 x.2 ho be)
    (hQ : ∀ ho' be', frH n ho ho' → frB m n be be' → Q (if wb m K H P S Z 20 0 x then 1 else 0) ho' be') : wX3_wouldBeSo (nI n) sw sn su kd hd pl st ho be (nI m) Q := by
  have hm := ok.2.1
  have v20 : (20 : Int32) = nI 20 := rfl
  have key : ∀ r t x ho1 be1, t + r = 20 → okN m x.1 x.2 → ctN m n x.1 x.2 ho1 be1 → (∀ ho' be', frH n ho1 ho' → frB m n be1 be' → Q (if wb m K H P S Z r t x then 1 else 0) ho' be') → wX3_wouldBeSo_L2 (nI n) sw sn su kd hd pl st (nI m) Q (r + 2) (nI t) ho1 be1 := by
    intro r
    induction r with
    | zero =>
      intro t x ho1 be1 ht hx hN hq
      have ht : t = 20 := by omega
      subst ht
      have ha := hx.lt hm
      unfold wX3_wouldBeSo_L2
      rw [v20, ifF Int32.lt_irrefl, e_of (by omega) (by decide), hN.1]
      refine s_agrees hm hz hcz (by omega) (by omega) ?_
      unfold wb at hq
      by_cases g : agr Z 20 x.1 = true
      · rw [if_pos g] at hq ⊢
        refine ifn (by decide) ?_
        refine s_liveFor (d := 1) ok hs hn (by omega) hx hN (fun ho' be' g1 g2 g3 => ?_)
        unfold wX3_wouldBeSo_L2
        rw [v20, nI_1]
        exact ifp (by simp (disch := omega) only [zl_0, zl_1, zl_2, zl_3, zl_4, zl_5, zl_6, zl_7, zl_8, zl_9, zl_10, zl_14, zl_16, zl_20, zl_24, zl_32, zl_40, zl_42, zl_44, zl_48, zl_56, zl_57, zl_59, zl_60, zl_61, zl_64, zl_99, zl_100, zl_110, zl_126, zl_128, zl_200, zl_392, zl_999, zl_9999, nI_add, pk_mul, nI_leI, nI_ltI, nI_eq, nI_clamp, vpn, pk_sub]; omega) (hq ho' be' g2 g3)
      · rw [if_neg g] at hq ⊢
        exact ifp rfl (hq ho1 be1 (fun _ _ => rfl) (fun _ _ => rfl))
    | succ r ih =>
      intro t x ho1 be1 ht hx hN hq
      have ha := hx.lt hm
      unfold wX3_wouldBeSo_L2
      rw [v20, ifF (by simp (disch := omega) only [zl_0, zl_1, zl_2, zl_3, zl_4, zl_5, zl_6, zl_7, zl_8, zl_9, zl_10, zl_14, zl_16, zl_20, zl_24, zl_32, zl_40, zl_42, zl_44, zl_48, zl_56, zl_57, zl_59, zl_60, zl_61, zl_64, zl_99, zl_100, zl_110, zl_126, zl_128, zl_200, zl_392, zl_999, zl_9999, nI_add, pk_mul, nI_leI, nI_ltI, nI_eq, nI_clamp, vpn, pk_sub]; omega), e_of (by omega) (by decide), hN.1]
      refine s_agrees hm hz hcz (by omega) (by omega) ?_
      unfold wb at hq
      by_cases g : agr Z t x.1 = true
      · rw [if_pos g]
        refine ifn (by decide) ?_
        refine s_liveFor (d := 1) ok hs hn (by omega) hx hN (fun ho' be' g1 g2 g3 => ?_)
        rw [nI_1]
        refine ih (t + 1) (stp m K H P S x) ho' be' (by omega) (stp_ok ok hx) g1 (fun ho2 be2 g4 g5 => ?_)
        have h := hq ho2 be2 (frH_tr g2 g4) (frB_tr g3 g5)
        rw [g, Bool.true_and] at h
        exact h
      · have g0 : agr Z t x.1 = false := by simpa using g
        rw [if_neg g]
        have h := hq ho1 be1 (fun _ _ => rfl) (fun _ _ => rfl)
        rw [g0, Bool.false_and] at h
        exact ifp rfl h
  exact ⟨22, key 20 0 x ho be (by omega) hx hN hQ⟩
/-! masks from which is struck -/
def clr (s n : Nat) : Nat := s &&& (127 ^^^ 2 ^ n)
theorem clr_fin : ∀ s, s < 128 → ∀ n, n < 7 → nI s &&& (((1 : Int32) <<< (nI n &&& 31)) ^^^ (-1)) = nI (clr s n) := by decide +kernel
theorem m1and_fin : ∀ s, s < 128 → nI s &&& (-1 : Int32) = nI s := by decide +kernel
theorem clr_bit {s n j : Nat} (hj : j < 7) : (clr s n).testBit j = (s.testBit j && !decide (n = j)) := by
  have h : ∀ c, c < 7 → (127 : Nat).testBit c = true := by decide
  unfold clr
  rw [Nat.testBit_and, Nat.testBit_xor, h j hj, Nat.testBit_two_pow]
  cases decide (n = j) <;> simp
theorem clr_le {s n : Nat} : clr s n ≤ s := Nat.and_le_left
theorem mks_bit (p : Nat → Bool) (c : Nat) : ∀ j, (mks p j).testBit c = (decide (c < j) && p c)
  | 0 => by unfold mks; simp
  | j + 1 => by
    unfold mks
    by_cases hp : p j = true
    · rw [if_pos hp, Nat.testBit_or, mks_bit p c j, Nat.testBit_two_pow]
      by_cases e : c = j
      · subst e; simp [hp]
      · have h1 : ¬ j = c := fun g => e g.symm
        by_cases h2 : c < j
        · have h3 : c < j + 1 := by omega
          simp [h1, h2, h3]
        · have h3 : ¬ c < j + 1 := by omega
          simp [h1, h2, h3]
    · rw [if_neg hp, mks_bit p c j]
      by_cases e : c = j
      · subst e; simp [hp]
      · by_cases h2 : c < j
        · have h3 : c < j + 1 := by omega
          simp [h2, h3]
        · have h3 : ¬ c < j + 1 := by omega
          simp [h2, h3]
theorem mask_eq {s k : Nat} {p : Nat → Bool} (hs : s < 2 ^ k) (h : ∀ n, n < k → s.testBit n = p n) : s = mks p k := by
  refine Nat.eq_of_testBit_eq (fun j => ?_)
  rw [mks_bit]
  by_cases hj : j < k
  · rw [h j hj]; simp [hj]
  · rw [Nat.testBit_lt_two_pow (Nat.lt_of_lt_of_le hs (Nat.pow_le_pow_right (by decide) (by omega)))]
    simp [hj]
section SIM
variable {m k : Nat} {K H : Nat → Nat} {D : Dy} {kd hd pl st ho be : Nat → Int32} {nc nn dy : Int32} {kt ht pt tt ot bt : Nat → Int32} {ct ut yt : Int32} {mo ms mh mg mn sw sn : Nat → Int32} {su mz : Int32} {Z : List (Nat × Nat)}
theorem r_seen {t n s a : Nat} {K25 : Int32 → Int32 → Prop} (hm : m ≤ 7) (hz : okZ m Z) (hrz : rfZ Z mn mz) (hs : s < 128) (hn : n < 6) (ht : t < 100) (ha : a < 100) (hms : ms (8 + n) = nI a) (hK : K25 (nI (if agr Z t a then s else clr s n)) (nI (n + 1))) : ∃ f, wX6_whichNow_L38 (nI t) (nI n) ms mn mz K25 f (nI s) 0 := by
  have hl := hz.1
  have e8 : (8 : Int32) + nI n = nI (8 + n) := nI_add 8 n
  have key : ∀ r i s1, i + r = Z.length → (s1 = s ∨ s1 = clr s n) → (∀ s', s' = (if agl Z t a r i then s1 else clr s n) → K25 (nI s') (nI (n + 1))) → wX6_whichNow_L38 (nI t) (nI n) ms mn mz K25 (r + 1) (nI s1) (nI i) := by
    intro r
    induction r with
    | zero =>
      intro i s1 hi h1 hq
      have hi : i = Z.length := by omega
      subst hi
      unfold wX6_whichNow_L38
      rw [hrz.1, nI_1]
      exact ifp (Int32.le_refl _) (hq s1 rfl)
    | succ r ih =>
      intro i s1 hi h1 hq
      have hg := getD_of (Z := Z) (i := i) (by omega)
      have h2 := hrz.2 i _ hg
      have h3 := hz.2 _ (List.mem_of_getElem? hg)
      have hs1 : s1 < 128 := by rcases h1 with g | g <;> (have := clr_le (s := s) (n := n); omega)
      have e1 : (2 : Int32) * nI i = nI (2 * i) := pk_mul 2 i
      unfold wX6_whichNow_L38
      rw [ifF (by rw [hrz.1]; simp (disch := omega) only [zl_0, zl_1, zl_2, zl_3, zl_4, zl_5, zl_6, zl_7, zl_8, zl_9, zl_10, zl_14, zl_16, zl_20, zl_24, zl_32, zl_40, zl_42, zl_44, zl_48, zl_56, zl_57, zl_59, zl_60, zl_61, zl_64, zl_99, zl_100, zl_110, zl_126, zl_128, zl_200, zl_392, zl_999, zl_9999, nI_add, pk_mul, nI_leI, nI_ltI, nI_eq, nI_clamp, vpn, pk_sub]; omega), e1, nI_1, nI_clamp (by omega), vpn (by omega), h2.2, e8, nI_clamp (by omega), vpn (by omega), hms, nI_clamp (by omega), vpn (by omega), h2.1, nI_1]
      simp only [nmx]
      rw [m1and_fin s1 hs1, clr_fin s1 hs1 n (by omega)]
      refine ⟨by omega, ?_⟩
      by_cases g1 : (Z.getD i (0, 0)).2 = t
      · refine ifp (by rw [g1]) ⟨by omega, by omega, ?_⟩
        by_cases g2 : (Z.getD i (0, 0)).1 = a
        · rw [agl_k (fun g => g.2 g2)] at hq
          exact ifp (by rw [g2]) (ih (i + 1) s1 (by omega) h1 hq)
        · rw [agl_f ⟨g1, g2⟩] at hq
          refine ifn (fun g => g2 ((nI_eq (by omega) (by omega)).mp g).symm) (ih (i + 1) (clr s1 n) (by omega) (Or.inr ?_) (fun s' hs' => hq s' ?_))
          · rcases h1 with g | g
            · rw [g]
            · rw [g]; unfold clr; rw [Nat.and_assoc, Nat.and_self]
          · have : clr s1 n = clr s n := by
              rcases h1 with g | g
              · rw [g]
              · rw [g]; unfold clr; rw [Nat.and_assoc, Nat.and_self]
            rw [this] at hs'
            rw [hs']
            split <;> simp
      · rw [agl_k (fun g => g1 g.1)] at hq
        exact ifn (fun g => g1 ((nI_eq (by omega) (by omega)).mp g)) (ih (i + 1) s1 (by omega) h1 hq)
  exact ⟨Z.length + 1, key Z.length 0 s (by omega) (Or.inl rfl) (fun s' hs' => by rw [hs']; exact hK)⟩
theorem r_which {Q : Int32 → (Nat → Int32) → (Nat → Int32) → (Nat → Int32) → Prop} (ok : okD m k K H D) (hd9 : dd D ≤ 999) (hm : rfM m k K H mo) (hr : rfD m k D ms) (hz : okZ m Z) (hrz : rfZ Z mn mz)
    (hQ : ∀ ms' mh' mg', rfD m k D ms' → Q (nI (mks (fun n => wb m K H (dP D) (dS D) Z 20 0 (nx D n)) k)) ms' mh' mg') : wX6_whichNow mo ms mn mz mh mg Q := by
  have hm7 := ok.1.2.1
  have hk6 := ok.2.2.1
  have v20 : (20 : Int32) = nI 20 := rfl
  have hp : 2 ^ k ≤ 2 ^ 6 := Nat.pow_le_pow_right (by decide) hk6
  have hp1 : 1 ≤ 2 ^ k := Nat.one_le_two_pow
  unfold wX6_whichNow
  refine ref_holds (fun mg' hg1 => ?_)
  have e1 : nI (2 ^ k) - 1 = nI (2 ^ k - 1) := pk_sub (a := 2 ^ k) (b := 1) hp1
  rw [nmx, hm.2.1, shl_fin k (by omega), e1]
  have day : ∀ (t : Nat) (D : Dy) (ms mh : Nat → Int32) (K17 : Int32 → Int32 → (Nat → Int32) → (Nat → Int32) → Prop), t ≤ 20 → okD m k K H D → rfD m k D ms → ∀ s, s < 2 ^ k → (∀ s' ms' mh', s' < 2 ^ k → (∀ n, n < k → s'.testBit n = (s.testBit n && agr Z t (dA D n))) → rfD m k (dyD m K H D) ms' → K17 (nI s') (nI (t + 1)) ms' mh') → ∃ f, wX6_whichNow_L25 (nI t) mo ms mn mz mh K17 f (nI s) 0 := by
    intro t D ms mh K17 ht ok hr s hs hK
    have key : ∀ r i s1, i + r = k → s1 < 2 ^ k → (∀ n, n < k → s1.testBit n = (s.testBit n && (decide (i ≤ n) || agr Z t (dA D n)))) → wX6_whichNow_L25 (nI t) mo ms mn mz mh K17 (r + 1) (nI s1) (nI i) := by
      intro r
      induction r with
      | zero =>
        intro i s1 hi hs1 hb
        have hi : i = k := by omega
        subst hi
        unfold wX6_whichNow_L25
        rw [hm.2.1]
        refine ifp (Int32.le_refl _) ?_
        refine ref_passes ok hm hr (fun ms2 mh2 g2 => ?_)
        rw [nI_1]
        refine hK s1 ms2 mh2 hs1 (fun n hn => ?_) g2
        rw [hb n hn]
        have : ¬ i ≤ n := by omega
        simp [this]
      | succ r ih =>
        intro i s1 hi hs1 hb
        have hik : i < k := by omega
        have ha := ok.A hik
        unfold wX6_whichNow_L25
        rw [hm.2.1, ifF (by simp (disch := omega) only [zl_0, zl_1, zl_2, zl_3, zl_4, zl_5, zl_6, zl_7, zl_8, zl_9, zl_10, zl_14, zl_16, zl_20, zl_24, zl_32, zl_40, zl_42, zl_44, zl_48, zl_56, zl_57, zl_59, zl_60, zl_61, zl_64, zl_99, zl_100, zl_110, zl_126, zl_128, zl_200, zl_392, zl_999, zl_9999, nI_add, pk_mul, nI_leI, nI_ltI, nI_eq, nI_clamp, vpn, pk_sub]; omega)]
        refine r_seen hm7 hz hrz (by omega) (by omega) (by omega) (by omega) (hr.2.2.1 i hik).1 ?_
        have hle := clr_le (s := s1) (n := i)
        by_cases g : agr Z t (dA D i) = true
        · rw [if_pos g]
          refine ih (i + 1) s1 (by omega) hs1 (fun n hn => ?_)
          rw [hb n hn]
          by_cases e : n = i
          · subst e; simp [g]
          · by_cases h1 : i ≤ n
            · have h2 : i + 1 ≤ n := by omega
              simp [h1, h2]
            · have h2 : ¬ i + 1 ≤ n := by omega
              simp [h1, h2]
        · have g0 : agr Z t (dA D i) = false := by simpa using g
          rw [if_neg g]
          refine ih (i + 1) (clr s1 i) (by omega) (by omega) (fun n hn => ?_)
          rw [clr_bit (by omega), hb n hn]
          by_cases e : n = i
          · subst e
            have h2 : ¬ n + 1 ≤ n := by omega
            simp [g0]
          · have h3 : ¬ i = n := fun g => e g.symm
            by_cases h1 : i ≤ n
            · have h2 : i + 1 ≤ n := by omega
              simp [h1, h2, h3]
            · have h2 : ¬ i + 1 ≤ n := by omega
              simp [h1, h2, h3]
    exact ⟨k + 1, key k 0 s (by omega) hs (fun n hn => by simp)⟩
  have key : ∀ r t E s ms1 mh1, t + r = 20 → okD m k K H E → dd E + r < 4000 → rfD m k E ms1 → s < 2 ^ k → (∀ s', s' < 2 ^ k → (∀ n, n < k → s'.testBit n = (s.testBit n && wb m K H (dP E) (dS E) Z r t (nx E n))) → ∀ ms2 mh2, rfD m k D ms2 → Q (nI s') ms2 mh2 mg') → wX6_whichNow_L17 mo mn mz mg' Q (r + 2) (nI s) (nI t) ms1 mh1 := by
    intro r
    induction r with
    | zero =>
      intro t E s ms1 mh1 ht hE hdE hrE hs hq
      have ht : t = 20 := by omega
      subst ht
      unfold wX6_whichNow_L17
      rw [v20, ifF Int32.lt_irrefl]
      refine day 20 E ms1 mh1 _ (by omega) hE hrE s hs (fun s' ms2 mh2 h1 h2 h3 => ?_)
      unfold wX6_whichNow_L17
      rw [v20]
      refine ifp (by simp (disch := omega) only [zl_0, zl_1, zl_2, zl_3, zl_4, zl_5, zl_6, zl_7, zl_8, zl_9, zl_10, zl_14, zl_16, zl_20, zl_24, zl_32, zl_40, zl_42, zl_44, zl_48, zl_56, zl_57, zl_59, zl_60, zl_61, zl_64, zl_99, zl_100, zl_110, zl_126, zl_128, zl_200, zl_392, zl_999, zl_9999, nI_add, pk_mul, nI_leI, nI_ltI, nI_eq, nI_clamp, vpn, pk_sub]; omega) (ref_lets (fun ms3 g3 => hq s' h1 (fun n hn => ?_) _ _ (rfD_holds hm7 hk6 hr hg1 g3)))
      rw [h2 n hn]
      rfl
    | succ r ih =>
      intro t E s ms1 mh1 ht hE hdE hrE hs hq
      unfold wX6_whichNow_L17
      rw [v20, ifF (by simp (disch := omega) only [zl_0, zl_1, zl_2, zl_3, zl_4, zl_5, zl_6, zl_7, zl_8, zl_9, zl_10, zl_14, zl_16, zl_20, zl_24, zl_32, zl_40, zl_42, zl_44, zl_48, zl_56, zl_57, zl_59, zl_60, zl_61, zl_64, zl_99, zl_100, zl_110, zl_126, zl_128, zl_200, zl_392, zl_999, zl_9999, nI_add, pk_mul, nI_leI, nI_ltI, nI_eq, nI_clamp, vpn, pk_sub]; omega)]
      refine day t E ms1 mh1 _ (by omega) hE hrE s hs (fun s' ms2 mh2 h1 h2 h3 => ?_)
      refine ih (t + 1) (dyD m K H E) s' ms2 mh2 (by omega) (dyD_ok hE (by omega)) (by show dd E + 1 + r < 4000; omega) h3 h1 (fun s2 g1 g2 ms3 mh3 g3 => hq s2 g1 (fun n hn => ?_) ms3 mh3 g3)
      rw [g2 n hn, h2 n hn, Bool.and_assoc]
      rfl
  refine ⟨22, key 20 0 D (2 ^ k - 1) ms mh (by omega) ok (by omega) hr (by omega) (fun s' h1 h2 ms2 mh2 g3 => ?_)⟩
  have := mask_eq (p := fun n => wb m K H (dP D) (dS D) Z 20 0 (nx D n)) h1 (fun n hn => by
    rw [h2 n hn, Nat.testBit_two_pow_sub_one]
    simp [hn])
  rw [this]
  exact hQ _ _ _ g3
theorem sim_which (ok : okD m k K H D) (hd9 : dd D ≤ 999) (hc : ctC m k K H D kd hd pl st ho be nc nn dy) (hm : rfM m k K H mo) (hr : rfD m k D ms) (hz : okZ m Z) (hcz : ctZ Z sw sn su) (hrz : rfZ Z mn mz) :
    ∃ r : Int32, (∀ Q : Int32 → (Nat → Int32) → (Nat → Int32) → (Nat → Int32) → (Nat → Int32) → (Nat → Int32) → (Nat → Int32) → Int32 → Int32 → Int32 → Prop, (∀ a b c d e f g h i, Q r a b c d e f g h i) → wX5_which kd hd pl st ho be nc nn dy kt ht pt tt ot bt sw sn su Q) ∧
      (∀ Q : Int32 → (Nat → Int32) → (Nat → Int32) → (Nat → Int32) → Prop, (∀ ms' mh' mg', rfD m k D ms' → Q r ms' mh' mg') → wX6_which mo ms mn mz mh mg Q) := by
  have hm7 := ok.1.2.1
  have hk6 := ok.2.2.1
  let p : Nat → Bool := fun n => wb m K H (dP D) (dS D) Z 20 0 (nx D n)
  refine ⟨nI (mks p k), fun Q hQ => ?_, fun Q hQ => ?_⟩
  · unfold wX5_which
    refine s_copy hm7 hk6 hc (fun kd' hd' pl' st' ho' be' hc2 => ?_)
    have key : ∀ r i ho1 be1, i + r = k → (∀ n, i ≤ n → n < k → ctN m n (dA D n) (dB D n) ho1 be1) → wX5_which_L15 nn kd' hd' pl' st' nc nn dy sw sn su Q (r + 1) (nI (mks p i)) (nI i) ho1 be1 := by
      intro r
      induction r with
      | zero =>
        intro i ho1 be1 hi hN
        have hi : i = k := by omega
        subst hi
        unfold wX5_which_L15
        rw [hc.2.1]
        exact ifp (Int32.le_refl _) (hQ _ _ _ _ _ _ _ _ _)
      | succ r ih =>
        intro i ho1 be1 hi hN
        have hik : i < k := by omega
        unfold wX5_which_L15
        rw [hc.2.1, ifF (by simp (disch := omega) only [zl_0, zl_1, zl_2, zl_3, zl_4, zl_5, zl_6, zl_7, zl_8, zl_9, zl_10, zl_14, zl_16, zl_20, zl_24, zl_32, zl_40, zl_42, zl_44, zl_48, zl_56, zl_57, zl_59, zl_60, zl_61, zl_64, zl_99, zl_100, zl_110, zl_126, zl_128, zl_200, zl_392, zl_999, zl_9999, nI_add, pk_mul, nI_leI, nI_ltI, nI_eq, nI_clamp, vpn, pk_sub]; omega), hc.1]
        refine s_would (x := nx D i) ok.1 hc2.2.2.2.1 (by omega) hz hcz (ok.2.2.2.1 i hik) (hN i (by omega) hik) (fun ho2 be2 f1 f2 => ?_)
        have hN2 : ∀ n, i + 1 ≤ n → n < k → ctN m n (dA D n) (dB D n) ho2 be2 := by
          intro n g1 g2
          have g := hN n (by omega) g2
          refine ⟨by rw [f1 n (by omega)]; exact g.1, fun c hc3 => ?_⟩
          rw [f2 _ (fun c' hc' => by omega)]
          exact g.2 c hc3
        have h3 := ih (i + 1) ho2 be2 (by omega) hN2
        rw [hc.1, hc.2.1] at h3
        rw [nmx, nI_1]
        by_cases g : p i = true
        · have g' : wb m K H (dP D) (dS D) Z 20 0 (nx D i) = true := g
          rw [if_pos g']
          refine ifn (by decide) ?_
          rw [mk_or (by omega) g]
          exact h3
        · have g0 : p i = false := by simpa using g
          have g' : wb m K H (dP D) (dS D) Z 20 0 (nx D i) = false := g0
          rw [if_neg (by rw [g']; decide)]
          rw [mk_no g0] at h3
          exact ifp rfl h3
    exact ⟨k + 1, key k 0 ho' be' (by omega) (fun n _ g => hc2.2.2.2.2 n g)⟩
  · unfold wX6_which
    exact r_which ok hd9 hm hr hz hrz hQ
theorem sim_kinds (x y : Int32) (ok : okD m k K H D) (hd9 : dd D ≤ 999) (hc : ctC m k K H D kd hd pl st ho be nc nn dy) (hm : rfM m k K H mo) (hr : rfD m k D ms) (hz : okZ m Z) (hcz : ctZ Z sw sn su) (hrz : rfZ Z mn mz) :
    ∃ r : Int32, (∀ Q : Int32 → (Nat → Int32) → (Nat → Int32) → (Nat → Int32) → (Nat → Int32) → (Nat → Int32) → (Nat → Int32) → Int32 → Int32 → Int32 → Prop, (∀ a b c d e f g h i, Q r a b c d e f g h i) → wX5_kinds x y kd hd pl st ho be nc nn dy kt ht pt tt ot bt ct ut yt sw sn su Q) ∧
      (∀ Q : Int32 → (Nat → Int32) → (Nat → Int32) → (Nat → Int32) → (Nat → Int32) → Prop, (∀ mo' ms' mh' mg', rfM m k K H mo' → rfD m k D ms' → Q r mo' ms' mh' mg') → wX6_kinds x y mo ms mn mz mh mg Q) := by
  have hm7 := ok.1.2.1
  have hk6 := ok.2.2.1
  by_cases hx : ix x m
  · obtain ⟨c, c1, rfl⟩ := hx
    by_cases hy : ix y k
    · obtain ⟨n, n1, rfl⟩ := hy
      let KK : Nat → Nat → Nat := fun κ c' => if c' = c then κ else K c'
      let p : Nat → Bool := fun κ => wb m (KK κ) H (dP D) (dS D) Z 20 0 (nx D n)
      have okK : ∀ κ, κ ≤ 3 → okD m k (KK κ) H D := fun κ h3 => ⟨⟨ok.1.1, ok.1.2.1, fun c' hc' => ⟨by show (if c' = c then κ else K c') ≤ 3; split; exact h3; exact (ok.1.2.2 c' hc').1, (ok.1.2.2 c' hc').2⟩⟩, ok.2⟩
      have e2 : (2 : Int32) + nI c = nI (2 + c) := nI_add 2 c
      have v3 : (3 : Int32) = nI 3 := rfl
      refine ⟨nI (mks p 4), fun Q hQ => ?_, fun Q hQ => ?_⟩
      · unfold wX5_kinds
        rw [hc.1, e_isC_T c1 (by omega), ifF (by decide), hc.2.1, e_isN_T n1 (by omega), ifF (by decide), ← hc.1, ← hc.2.1]
        have key : ∀ r κ kt ht pt tt ot bt ct ut yt, κ + r = 4 → wX5_kinds_L29 (nI c) (nI n) kd hd pl st ho be nc nn dy sw sn su Q (r + 1) (nI (mks p κ)) (nI κ) kt ht pt tt ot bt ct ut yt := by
          intro r
          induction r with
          | zero =>
            intro κ kt ht pt tt ot bt ct ut yt hκ
            have hκ : κ = 4 := by omega
            subst hκ
            unfold wX5_kinds_L29
            exact ifp (by decide) (hQ _ _ _ _ _ _ _ _ _)
          | succ r ih =>
            intro κ kt ht pt tt ot bt ct ut yt hκ
            unfold wX5_kinds_L29
            rw [v3, ifF (by simp (disch := omega) only [zl_0, zl_1, zl_2, zl_3, zl_4, zl_5, zl_6, zl_7, zl_8, zl_9, zl_10, zl_14, zl_16, zl_20, zl_24, zl_32, zl_40, zl_42, zl_44, zl_48, zl_56, zl_57, zl_59, zl_60, zl_61, zl_64, zl_99, zl_100, zl_110, zl_126, zl_128, zl_200, zl_392, zl_999, zl_9999, nI_add, pk_mul, nI_leI, nI_ltI, nI_eq, nI_clamp, vpn, pk_sub]; omega)]
            refine s_copy hm7 hk6 hc (fun kd' hd' pl' st' ho' be' hc2 => ?_)
            rw [e_put (by omega) (by decide), hc.1]
            have hs : ctS m (KK κ) H (dP D) (dS D) (upd kd' c (nI κ)) hd' pl' st' := by
              intro c' hc'
              refine ⟨?_, (hc2.2.2.2.1 c' hc').2⟩
              show upd kd' c (nI κ) c' = nI (if c' = c then κ else K c')
              by_cases e : c' = c
              · rw [e, upd_at, if_pos rfl]
              · rw [upd_ne _ _ e, if_neg e]; exact (hc2.2.2.2.1 c' hc').1
            refine s_would (x := nx D n) (okK κ (by omega)).1 hs (by omega) hz hcz (ok.2.2.2.1 n n1) (hc2.2.2.2.2 n n1) (fun ho2 be2 _ _ => ?_)
            rw [nmx, nI_1]
            by_cases g : p κ = true
            · have g' : wb m (KK κ) H (dP D) (dS D) Z 20 0 (nx D n) = true := g
              rw [if_pos g', mk_or (by omega) g, ← hc.1]
              exact ifn (by decide) (ih (κ + 1) _ _ _ _ _ _ _ _ _ (by omega))
            · have g0 : p κ = false := by simpa using g
              have g' : wb m (KK κ) H (dP D) (dS D) Z 20 0 (nx D n) = false := g0
              rw [if_neg (by rw [g']; decide), ← mk_no g0, ← hc.1]
              exact ifp rfl (ih (κ + 1) _ _ _ _ _ _ _ _ _ (by omega))
        exact ⟨5, key 4 0 _ _ _ _ _ _ _ _ _ (by omega)⟩
      · unfold wX6_kinds
        rw [r_isC_T hm.1 c1 (by omega), ifF (by decide), r_isN_T hm.2.1 n1 (by omega), ifF (by decide), e2, nI_clamp (by omega), vpn (by omega), nmx]
        refine ⟨by omega, ?_⟩
        have key : ∀ r κ mo1 ms1 mh1 mg1, κ + r = 4 → (∀ j, j ≠ 2 + c → mo1 j = mo j) → rfD m k D ms1 → wX6_kinds_L33 (nI c) (nI n) (mo (2 + c)) mn mz Q (r + 1) (nI (mks p κ)) (nI κ) mo1 ms1 mh1 mg1 := by
          intro r
          induction r with
          | zero =>
            intro κ mo1 ms1 mh1 mg1 hκ h1 hr1
            have hκ : κ = 4 := by omega
            subst hκ
            unfold wX6_kinds_L33
            rw [e2, nI_clamp (by omega), vpn (by omega)]
            refine ifp (by decide) ⟨by omega, hQ _ _ _ _ ?_ hr1⟩
            have : upd mo1 (2 + c) (mo (2 + c)) = mo := by
              funext j
              by_cases e : j = 2 + c
              · rw [e, upd_at]
              · rw [upd_ne _ _ e, h1 j e]
            rw [this]
            exact hm
          | succ r ih =>
            intro κ mo1 ms1 mh1 mg1 hκ h1 hr1
            unfold wX6_kinds_L33
            rw [v3, ifF (by simp (disch := omega) only [zl_0, zl_1, zl_2, zl_3, zl_4, zl_5, zl_6, zl_7, zl_8, zl_9, zl_10, zl_14, zl_16, zl_20, zl_24, zl_32, zl_40, zl_42, zl_44, zl_48, zl_56, zl_57, zl_59, zl_60, zl_61, zl_64, zl_99, zl_100, zl_110, zl_126, zl_128, zl_200, zl_392, zl_999, zl_9999, nI_add, pk_mul, nI_leI, nI_ltI, nI_eq, nI_clamp, vpn, pk_sub]; omega), e2, nI_clamp (by omega), vpn (by omega)]
            refine ⟨by omega, ?_⟩
            have hm2 : rfM m k (KK κ) H (upd mo1 (2 + c) (nI κ)) := by
              refine ⟨by rw [upd_ne _ _ (by omega), h1 _ (by omega)]; exact hm.1, by rw [upd_ne _ _ (by omega), h1 _ (by omega)]; exact hm.2.1, fun c' hc' => ⟨?_, ?_⟩⟩
              · show upd mo1 (2 + c) (nI κ) (2 + c') = nI (if c' = c then κ else K c')
                by_cases e : c' = c
                · rw [e, upd_at, if_pos rfl]
                · rw [upd_ne _ _ (by omega), h1 _ (by omega), if_neg e]; exact (hm.2.2 c' hc').1
              · rw [upd_ne _ _ (by omega), h1 _ (by omega)]; exact (hm.2.2 c' hc').2
            refine r_which (okK κ (by omega)) hd9 hm2 hr1 hz hrz (fun ms2 mh2 mg2 hr2 => ?_)
            have hlt := mks_lt7 (fun n => wb m (KK κ) H (dP D) (dS D) Z 20 0 (nx D n)) (m := k) (by omega)
            have hltp := mks_lt7 p (m := κ) (by omega)
            rw [nmx, bit1_fin _ hlt n (by omega), nI_1, mks_bit]
            have hup : ∀ j, j ≠ 2 + c → upd mo1 (2 + c) (nI κ) j = mo j := fun j hj => by rw [upd_ne _ _ hj]; exact h1 j hj
            have h3 := ih (κ + 1) (upd mo1 (2 + c) (nI κ)) ms2 mh2 mg2 (by omega) hup hr2
            by_cases g : p κ = true
            · have g' : wb m (KK κ) H (dP D) (dS D) Z 20 0 (nx D n) = true := g
              rw [if_pos (by rw [g']; simp [n1])]
              have e4 : nI 1 <<< (nI κ &&& 31) = (1 : Int32) <<< (nI κ &&& 31) := rfl
              rw [e4, mk_or (by omega) g]
              exact h3
            · have g0 : p κ = false := by simpa using g
              have g' : wb m (KK κ) H (dP D) (dS D) Z 20 0 (nx D n) = false := g0
              rw [if_neg (by rw [g']; simp)]
              have e4 : ∀ κ, κ < 5 → nI 0 <<< (nI κ &&& 31) = (0 : Int32) := by decide
              rw [e4 κ (by omega), or0_fin _ hltp, ← mk_no g0]
              exact h3
        exact ⟨5, key 4 0 mo ms mh mg (by omega) (fun _ _ => rfl) hr⟩
    · refine ⟨-1, fun Q hQ => ?_, fun Q hQ => ?_⟩
      · unfold wX5_kinds
        rw [hc.1, e_isC_T c1 (by omega), ifF (by decide), hc.2.1, e_isN_F hy (by omega), ifT rfl]
        exact hQ _ _ _ _ _ _ _ _ _
      · unfold wX6_kinds
        rw [r_isC_T hm.1 c1 (by omega), ifF (by decide), r_isN_F hm.2.1 hy ok.2.1 (by omega), ifT rfl]
        exact hQ _ _ _ _ hm hr
  · refine ⟨-1, fun Q hQ => ?_, fun Q hQ => ?_⟩
    · unfold wX5_kinds
      rw [hc.1, e_isC_F hx (by omega), ifT rfl]
      exact hQ _ _ _ _ _ _ _ _ _
    · unfold wX6_kinds
      rw [r_isC_F hm.1 hx ok.1.1 (by omega), ifT rfl]
      exact hQ _ _ _ _ hm hr
end SIM
