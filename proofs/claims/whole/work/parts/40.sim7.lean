/-! whom to convince -/
def cnt (s : Nat) : Nat := rsum (fun c => if s.testBit c then 1 else 0) 7
theorem bit1_fin : ∀ s, s < 128 → ∀ c, c < 7 → (nI s >>> (nI c &&& 31)) &&& (1 : Int32) = nI (if s.testBit c then 1 else 0) := by decide +kernel
theorem shl_fin : ∀ m, m < 8 → (1 : Int32) <<< (nI m &&& 31) = nI (2 ^ m) := by decide +kernel
theorem bc_fin : ∀ s, s < 128 → ∀ Q : Int32 → Prop, wJ6_bitCount_0f7a4 (nI s) Q = Q (nI (cnt s)) := by
  have h : ∀ s, s < 128 → (∀ Q : Int32 → Prop, wJ6_bitCount_0f7a4 (nI s) Q = Q (nI (cnt s))) := by
    intro s hs Q
    unfold wJ6_bitCount_0f7a4
    simp only [nmx]
    congr 1
    revert s
    decide +kernel
  exact h
theorem cnt_le (s : Nat) : cnt s ≤ 7 := by
  have := rsum_le (f := fun c => if s.testBit c then 1 else 0) (b := 1) (j := 7) (fun i _ => by show (if s.testBit i then 1 else 0) ≤ 1; split <;> omega)
  unfold cnt
  omega
theorem r_ones {s : Nat} {Q : Int32 → Prop} (hs : s < 128) (hQ : Q (nI (cnt s))) : wX6_ones (nI s) Q := by
  let g : Nat → Nat := fun c => if s.testBit c then 1 else 0
  have key : ∀ r i, i + r = 7 → wX6_ones_L4 (nI s) Q (r + 1) (nI (rsum g i)) (nI i) := by
    intro r
    induction r with
    | zero =>
      intro i hi
      have hi : i = 7 := by omega
      subst hi
      unfold wX6_ones_L4
      exact ifp (by decide) hQ
    | succ r ih =>
      intro i hi
      unfold wX6_ones_L4
      rw [ifF (by simp (disch := omega) only [zl_0, zl_1, zl_2, zl_3, zl_4, zl_5, zl_6, zl_7, zl_8, zl_9, zl_10, zl_14, zl_16, zl_20, zl_24, zl_32, zl_40, zl_42, zl_44, zl_48, zl_56, zl_57, zl_59, zl_60, zl_61, zl_64, zl_99, zl_100, zl_110, zl_126, zl_128, zl_200, zl_392, zl_999, zl_9999, nI_add, pk_mul, nI_leI, nI_ltI, nI_eq, nI_clamp, vpn, pk_sub]; omega), nmx, bit1_fin s hs i (by omega), nI_add, nI_1]
      exact ih (i + 1) (by omega)
  exact ⟨8, key 7 0 (by omega)⟩
/-- the courtiers of s before i made to believe v of news n -/
def cvD (D : Dy) (n v s i : Nat) : Dy := (dP D, dS D, dA D, fun n' c => if n' = n ∧ c < i ∧ s.testBit c = true then v else dB D n' c, dd D)
theorem cvD_0 (D : Dy) (n v s : Nat) : cvD D n v s 0 = D := by
  unfold cvD
  have : (fun n' c => if n' = n ∧ c < 0 ∧ s.testBit c = true then v else dB D n' c) = dB D := by
    funext n' c
    rw [if_neg (by omega)]
  rw [this]
theorem cvD_T {D : Dy} {n v s i : Nat} (h : s.testBit i = true) : cvD D n v s (i + 1) = setB (cvD D n v s i) n i v := by
  unfold cvD setB
  have : (fun n' c => if n' = n ∧ c < i + 1 ∧ s.testBit c = true then v else dB D n' c) = (fun n' c => if n' = n ∧ c = i then v else if n' = n ∧ c < i ∧ s.testBit c = true then v else dB D n' c) := by
    funext n' c
    by_cases h1 : n' = n ∧ c = i
    · rw [if_pos h1, if_pos ⟨h1.1, by omega, by rw [h1.2]; exact h⟩]
    · rw [if_neg h1]
      by_cases h2 : n' = n ∧ c < i ∧ s.testBit c = true
      · rw [if_pos h2, if_pos ⟨h2.1, by omega, h2.2.2⟩]
      · rw [if_neg h2, if_neg]
        intro ⟨g1, g2, g3⟩
        by_cases g4 : c = i
        · exact h1 ⟨g1, g4⟩
        · exact h2 ⟨g1, by omega, g3⟩
  rw [this]
theorem cvD_F {D : Dy} {n v s i : Nat} (h : s.testBit i = false) : cvD D n v s (i + 1) = cvD D n v s i := by
  unfold cvD
  have : (fun n' c => if n' = n ∧ c < i + 1 ∧ s.testBit c = true then v else dB D n' c) = (fun n' c => if n' = n ∧ c < i ∧ s.testBit c = true then v else dB D n' c) := by
    funext n' c
    by_cases h2 : n' = n ∧ c < i ∧ s.testBit c = true
    · rw [if_pos h2, if_pos ⟨h2.1, by omega, h2.2.2⟩]
    · rw [if_neg h2, if_neg]
      intro ⟨g1, g2, g3⟩
      by_cases g4 : c = i
      · rw [g4, h] at g3
        exact absurd g3 (by decide)
      · exact h2 ⟨g1, by omega, g3⟩
  rw [this]
theorem cvD_ok {m k : Nat} {K H : Nat → Nat} {D : Dy} {n v s i : Nat} (h : okD m k K H D) (hv : v ≤ 9) : okD m k K H (cvD D n v s i) := by
  refine ⟨h.1, h.2.1, h.2.2.1, fun n' hn' => ⟨(h.2.2.2.1 n' hn').1, fun c' hc' => ?_⟩, h.2.2.2.2⟩
  show (if n' = n ∧ c' < i ∧ s.testBit c' = true then v else dB D n' c') ≤ 9
  split
  · exact hv
  · exact h.B hn' hc'
/-- what comes of convincing s -/
def cvR (m : Nat) (K H : Nat → Nat) (D : Dy) (n v d s : Nat) : Nat := if dA (dyN m K H d (cvD D n v s m)) n = 9 then 1 else 0
def fwb (g : Nat → Nat) (w : Nat) : Nat → Nat → Nat → Nat
  | 0, _, b => b
  | r + 1, i, b => if g i = w ∧ (b = 999 ∨ cnt i < cnt b) then fwb g w r (i + 1) i else fwb g w r (i + 1) b
theorem fwb_s (g : Nat → Nat) (w r i b : Nat) : fwb g w (r + 1) i b = if g i = w ∧ (b = 999 ∨ cnt i < cnt b) then fwb g w r (i + 1) i else fwb g w r (i + 1) b := rfl
theorem fwb_ok {g : Nat → Nat} {w N : Nat} : ∀ r i b, i + r ≤ N → (b < N ∨ b = 999) → fwb g w r i b < N ∨ fwb g w r i b = 999
  | 0, _, b, _, h => h
  | r + 1, i, b, hi, h => by
    unfold fwb
    split
    · exact fwb_ok r (i + 1) i (by omega) (Or.inl (by omega))
    · exact fwb_ok r (i + 1) b (by omega) h
def bI (b : Nat) : Int32 := if b = 999 then -4 else nI b
def fI (b : Nat) : Nat := if b = 999 then 8 else cnt b
section SIM
variable {m k : Nat} {K H : Nat → Nat} {D : Dy} {kd hd pl st ho be : Nat → Int32} {nc nn dy : Int32} {kt ht pt tt ot bt : Nat → Int32} {ct ut yt : Int32} {mo ms mh mg : Nat → Int32}
theorem s_conv {n v d s : Nat} {Q : Int32 → (Nat → Int32) → (Nat → Int32) → (Nat → Int32) → (Nat → Int32) → (Nat → Int32) → (Nat → Int32) → Int32 → Int32 → Int32 → Prop} (ok : okD m k K H D) (hd9 : dd D ≤ 999) (hc : ctC m k K H D kd hd pl st ho be nc nn dy) (hn : n < k) (hv : v ≤ 9) (hd2 : d ≤ 20) (hs : s < 128) (hQ : ∀ a b c e f g h i j, Q (nI (cvR m K H D n v d s)) a b c e f g h i j) : wX5_isKnownIfConvinced (nI n) (nI d) (nI s) (nI v) kd hd pl st ho be nc nn dy kt ht pt tt ot bt Q := by
  have hm7 := ok.1.2.1
  have hk6 := ok.2.2.1
  unfold wX5_isKnownIfConvinced
  refine s_copy hm7 hk6 hc (fun kd' hd' pl' st' ho' be' hc2 => ?_)
  have key : ∀ r i be1, i + r = m → ctC m k K H (cvD D n v s i) kd' hd' pl' st' ho' be1 nc nn dy → wX5_isKnownIfConvinced_L14 (nI n) (nI d) (nI s) (nI v) nc kd' hd' pl' st' ho' nc nn dy Q (r + 1) (nI i) be1 := by
    intro r
    induction r with
    | zero =>
      intro i be1 hi hc3
      have hi : i = m := by omega
      subst hi
      unfold wX5_isKnownIfConvinced_L14
      rw [hc.1]
      refine ifp (Int32.le_refl _) ?_
      have okc : okD i k K H (cvD D n v s i) := cvD_ok ok hv
      refine s_liveFor ok.1 hc3.2.2.2.1 (by omega) (by omega) (x := nx (cvD D n v s i) n) (okc.2.2.2.1 n hn) (hc3.2.2.2.2 n hn) (fun ho2 be2 g1 _ _ => ?_)
      have g0 := dyN_nx i K H n d (cvD D n v s i)
      have g0 : nx (dyN i K H d (cvD D n v s i)) n = itr i K H (dP D) (dS D) d (nx (cvD D n v s i) n) := g0
      rw [← g0] at g1
      have okd := (dyN_ok d _ okc (by have := ok.2.2.2.2; show dd D + d < 5000; omega)).A hn
      rw [e_isKnown (by omega) g1.1 okd]
      have hq := hQ
      unfold cvR at hq
      show if dA (dyN i K H d (cvD D n v s i)) n = 9 then _ else _
      by_cases h9 : dA (dyN i K H d (cvD D n v s i)) n = 9
      · rw [if_pos h9] at hq ⊢
        exact hq _ _ _ _ _ _ _ _ _
      · rw [if_neg h9] at hq ⊢
        exact hq _ _ _ _ _ _ _ _ _
    | succ r ih =>
      intro i be1 hi hc3
      unfold wX5_isKnownIfConvinced_L14
      rw [ifF (by rw [hc.1]; simp (disch := omega) only [zl_0, zl_1, zl_2, zl_3, zl_4, zl_5, zl_6, zl_7, zl_8, zl_9, zl_10, zl_14, zl_16, zl_20, zl_24, zl_32, zl_40, zl_42, zl_44, zl_48, zl_56, zl_57, zl_59, zl_60, zl_61, zl_64, zl_99, zl_100, zl_110, zl_126, zl_128, zl_200, zl_392, zl_999, zl_9999, nI_add, pk_mul, nI_leI, nI_ltI, nI_eq, nI_clamp, vpn, pk_sub]; omega), nI_1]
      by_cases hb : s.testBit i = true
      · rw [e_hasBitT hs (by omega) hb, ifF (by decide), e_setBelief (by omega) (by omega)]
        refine ih (i + 1) _ (by omega) ?_
        rw [cvD_T hb]
        exact setB_ct hm7 hn (by omega) hc3
      · have hb : s.testBit i = false := by simpa using hb
        rw [e_hasBitF hs (by omega) hb, ifT rfl]
        refine ih (i + 1) _ (by omega) ?_
        rw [cvD_F hb]
        exact hc3
  exact ⟨m + 1, key m 0 be' (by omega) (by rw [cvD_0]; exact hc2)⟩
theorem bI_ne {b : Nat} (h : b < 128) : ¬ bI b = -4 := by
  unfold bI
  rw [if_neg (by omega)]
  have : ∀ b, b < 128 → ¬ nI b = (-4) := by decide +kernel
  exact this b h
theorem s_fewest {n v d w N : Nat} {what : Int32} {Q : Int32 → (Nat → Int32) → (Nat → Int32) → (Nat → Int32) → (Nat → Int32) → (Nat → Int32) → (Nat → Int32) → Int32 → Int32 → Int32 → Prop} (ok : okD m k K H D) (hd9 : dd D ≤ 999) (hc : ctC m k K H D kd hd pl st ho be nc nn dy) (hn : n < k) (hv : v ≤ 9) (hd2 : d ≤ 20) (hw : w < 2) (hQ : ∀ r, r = (if what = 0 then (if fwb (cvR m K H D n v d) w (2 ^ m) 0 999 = 999 then -4 else nI (cnt (fwb (cvR m K H D n v d) w (2 ^ m) 0 999))) else bI (fwb (cvR m K H D n v d) w (2 ^ m) 0 999)) → ∀ a b c e f g h i j, Q r a b c e f g h i j) : wX5_convinced_J56 (nI n) (nI d) what (nI v) (nI w) kd hd pl st ho be nc nn dy kt ht pt tt ot bt ct ut yt Q := by
  have hm7 := ok.1.2.1
  have hp : 2 ^ m ≤ 2 ^ 7 := Nat.pow_le_pow_right (by decide) hm7
  unfold wX5_convinced_J56
  have key : ∀ r i b kt ht pt tt ot bt ct ut yt, i + r = 2 ^ m → (b < i ∨ b = 999) → fwb (cvR m K H D n v d) w r i b = fwb (cvR m K H D n v d) w (2 ^ m) 0 999 → wX5_convinced_L69 (nI n) (nI d) what (nI v) (nI w) kd hd pl st ho be nc nn dy Q (r + 1) (bI b) (nI (fI b)) (nI i) kt ht pt tt ot bt ct ut yt := by
    intro r
    induction r with
    | zero =>
      intro i b kt ht pt tt ot bt ct ut yt hi hb he
      have hi : i = 2 ^ m := by omega
      have he : b = fwb (cvR m K H D n v d) w (2 ^ m) 0 999 := he
      rw [← he] at hQ
      unfold wX5_convinced_L69
      rw [hc.1, shl_fin m (by omega), ifT (by rw [hi]; exact Int32.le_refl _)]
      by_cases h0 : what = 0
      · rw [ifT h0]
        by_cases h9 : b = 999
        · rw [ifT (show bI b = -4 by unfold bI; rw [if_pos h9])]
          exact hQ _ (by rw [if_pos h0, if_pos h9]; unfold bI; rw [if_pos h9]) _ _ _ _ _ _ _ _ _
        · rw [ifF (bI_ne (by omega))]
          exact hQ _ (by rw [if_pos h0, if_neg h9]; unfold fI; rw [if_neg h9]) _ _ _ _ _ _ _ _ _
      · rw [ifF h0]
        exact hQ _ (by rw [if_neg h0]) _ _ _ _ _ _ _ _ _
    | succ r ih =>
      intro i b kt ht pt tt ot bt ct ut yt hi hb he
      have hcb := cnt_le b
      have hci := cnt_le i
      have hfI : fI b ≤ 8 := by unfold fI; split <;> omega
      rw [fwb_s] at he
      unfold wX5_convinced_L69
      rw [hc.1, shl_fin m (by omega), ifF (by simp (disch := omega) only [zl_0, zl_1, zl_2, zl_3, zl_4, zl_5, zl_6, zl_7, zl_8, zl_9, zl_10, zl_14, zl_16, zl_20, zl_24, zl_32, zl_40, zl_42, zl_44, zl_48, zl_56, zl_57, zl_59, zl_60, zl_61, zl_64, zl_99, zl_100, zl_110, zl_126, zl_128, zl_200, zl_392, zl_999, zl_9999, nI_add, pk_mul, nI_leI, nI_ltI, nI_eq, nI_clamp, vpn, pk_sub]; omega), bc_fin i (by omega), nI_1, ← hc.1]
      by_cases hle : fI b ≤ cnt i
      · rw [ifT (by simp (disch := omega) only [zl_0, zl_1, zl_2, zl_3, zl_4, zl_5, zl_6, zl_7, zl_8, zl_9, zl_10, zl_14, zl_16, zl_20, zl_24, zl_32, zl_40, zl_42, zl_44, zl_48, zl_56, zl_57, zl_59, zl_60, zl_61, zl_64, zl_99, zl_100, zl_110, zl_126, zl_128, zl_200, zl_392, zl_999, zl_9999, nI_add, pk_mul, nI_leI, nI_ltI, nI_eq, nI_clamp, vpn, pk_sub]; exact hle)]
        refine ih (i + 1) b _ _ _ _ _ _ _ _ _ (by omega) (by omega) ?_
        rw [if_neg (by
          rintro ⟨_, g⟩
          unfold fI at hle
          by_cases g9 : b = 999
          · rw [if_pos g9] at hle; omega
          · rw [if_neg g9] at hle
            rcases g with g | g
            · exact g9 g
            · omega)] at he
        exact he
      · rw [ifF (by simp (disch := omega) only [zl_0, zl_1, zl_2, zl_3, zl_4, zl_5, zl_6, zl_7, zl_8, zl_9, zl_10, zl_14, zl_16, zl_20, zl_24, zl_32, zl_40, zl_42, zl_44, zl_48, zl_56, zl_57, zl_59, zl_60, zl_61, zl_64, zl_99, zl_100, zl_110, zl_126, zl_128, zl_200, zl_392, zl_999, zl_9999, nI_add, pk_mul, nI_leI, nI_ltI, nI_eq, nI_clamp, vpn, pk_sub]; exact hle)]
        refine s_conv ok hd9 hc hn hv hd2 (by omega) (fun a2 b2 c2 e2 f2 g2 h2 i2 j2 => ?_)
        have hcv : cvR m K H D n v d i < 2 := by unfold cvR; split <;> omega
        by_cases hg : cvR m K H D n v d i = w
        · rw [ifT (by rw [hg])]
          rw [if_pos ⟨hg, by
            by_cases h9 : b = 999
            · exact Or.inl h9
            · right; unfold fI at hle; rw [if_neg h9] at hle; omega⟩] at he
          have g := ih (i + 1) i a2 b2 c2 e2 f2 g2 h2 i2 j2 (by omega) (by omega) he
          unfold bI fI at g
          rw [if_neg (by omega), if_neg (by omega)] at g
          exact g
        · rw [ifF (by simp (disch := omega) only [zl_0, zl_1, zl_2, zl_3, zl_4, zl_5, zl_6, zl_7, zl_8, zl_9, zl_10, zl_14, zl_16, zl_20, zl_24, zl_32, zl_40, zl_42, zl_44, zl_48, zl_56, zl_57, zl_59, zl_60, zl_61, zl_64, zl_99, zl_100, zl_110, zl_126, zl_128, zl_200, zl_392, zl_999, zl_9999, nI_add, pk_mul, nI_leI, nI_ltI, nI_eq, nI_clamp, vpn, pk_sub]; exact hg)]
          rw [if_neg (fun g => hg g.1)] at he
          exact ih (i + 1) b _ _ _ _ _ _ _ _ _ (by omega) (by omega) he
  exact ⟨2 ^ m + 1, key (2 ^ m) 0 999 _ _ _ _ _ _ _ _ _ (by omega) (Or.inr rfl) rfl⟩
theorem r_fewest {n v d w : Nat} {Q : Int32 → (Nat → Int32) → (Nat → Int32) → (Nat → Int32) → Prop} (ok : okD m k K H D) (hd9 : dd D ≤ 999) (hm : rfM m k K H mo) (hr : rfD m k D ms) (hn : n < k) (hv : v ≤ 9) (hd2 : d ≤ 20) (hw : w < 2) (hQ : ∀ ms' mh' mg', rfD m k D ms' → Q (bI (fwb (cvR m K H D n v d) w (2 ^ m) 0 999)) ms' mh' mg') : wX6_fewest (nI n) (nI d) (nI v) (nI w) mo ms mh mg Q := by
  have hm7 := ok.1.2.1
  have hk6 := ok.2.2.1
  have hp : 2 ^ m ≤ 2 ^ 7 := Nat.pow_le_pow_right (by decide) hm7
  have e8 : (8 : Int32) + nI n = nI (8 + n) := nI_add 8 n
  unfold wX6_fewest
  refine ref_holds (fun mg' hg1 => ?_)
  have setl : ∀ s, s < 128 → ∀ (ms : Nat → Int32) (K85 : (Nat → Int32) → Prop), rfD m k D ms → (∀ ms', rfD m k (cvD D n v s m) ms' → K85 ms') → ∃ f, wX6_fewest_L27 (nI n) (nI v) (nI s) mo K85 f 0 ms := by
    intro s hs ms K85 hr hK
    have key : ∀ r i ms1, i + r = m → rfD m k (cvD D n v s i) ms1 → wX6_fewest_L27 (nI n) (nI v) (nI s) mo K85 (r + 1) (nI i) ms1 := by
      intro r
      induction r with
      | zero =>
        intro i ms1 hi h1
        have hi : i = m := by omega
        subst hi
        unfold wX6_fewest_L27
        rw [hm.1]
        exact ifp (Int32.le_refl _) (hK _ h1)
      | succ r ih =>
        intro i ms1 hi h1
        have e1 : ((14 : Int32) + ((7 : Int32) * nI n)) + nI i = nI (14 + 7 * n + i) := by simp (disch := omega) only [zl_0, zl_1, zl_2, zl_3, zl_4, zl_5, zl_6, zl_7, zl_8, zl_9, zl_10, zl_14, zl_16, zl_20, zl_24, zl_32, zl_40, zl_42, zl_44, zl_48, zl_56, zl_57, zl_59, zl_60, zl_61, zl_64, zl_99, zl_100, zl_110, zl_126, zl_128, zl_200, zl_392, zl_999, zl_9999, nI_add, pk_mul, nI_leI, nI_ltI, nI_eq, nI_clamp, vpn, pk_sub]
        unfold wX6_fewest_L27
        rw [hm.1, ifF (by simp (disch := omega) only [zl_0, zl_1, zl_2, zl_3, zl_4, zl_5, zl_6, zl_7, zl_8, zl_9, zl_10, zl_14, zl_16, zl_20, zl_24, zl_32, zl_40, zl_42, zl_44, zl_48, zl_56, zl_57, zl_59, zl_60, zl_61, zl_64, zl_99, zl_100, zl_110, zl_126, zl_128, zl_200, zl_392, zl_999, zl_9999, nI_add, pk_mul, nI_leI, nI_ltI, nI_eq, nI_clamp, vpn, pk_sub]; omega), nmx, e1, bit1_fin s hs i (by omega), nI_clamp (by omega), vpn (by omega), nI_1]
        by_cases hb : s.testBit i = true
        · rw [if_pos hb, ifT (show nI 1 = (1 : Int32) from rfl)]
          refine ⟨by omega, ih (i + 1) _ (by omega) ?_⟩
          rw [cvD_T hb]
          exact setB_rf hm7 hk6 hn (by omega) h1
        · rw [if_neg hb, ifF (show ¬ nI 0 = (1 : Int32) by decide), upd_self]
          have hb : s.testBit i = false := by simpa using hb
          refine ⟨by omega, by omega, ih (i + 1) _ (by omega) ?_⟩
          rw [cvD_F hb]
          exact h1
    exact ⟨m + 1, key m 0 ms (by omega) (by rw [cvD_0]; exact hr)⟩
  have loop : ∀ (E : Dy) (ms mh : Nat → Int32) (K56 : (Nat → Int32) → (Nat → Int32) → Prop), okD m k K H E → dd E ≤ 999 → rfD m k E ms → (∀ ms' mh', rfD m k (dyN m K H d E) ms' → K56 ms' mh') → ∃ f, wX6_fewest_L88 (nI d) mo K56 f 0 ms mh := by
    intro D0 ms mh K56 ok0 hd0 hr0 hK
    have key : ∀ r i E ms1 mh1, i + r = d → okD m k K H E → dd E + r < 4000 → rfD m k E ms1 → dyN m K H r E = dyN m K H d D0 → wX6_fewest_L88 (nI d) mo K56 (r + 1) (nI i) ms1 mh1 := by
      intro r
      induction r with
      | zero =>
        intro i E ms1 mh1 hi hE hdE hrE he
        have hi : i = d := by omega
        subst hi
        unfold wX6_fewest_L88
        have he : E = dyN m K H i D0 := he
        subst he
        exact ifp (Int32.le_refl _) (hK _ _ hrE)
      | succ r ih =>
        intro i E ms1 mh1 hi hE hdE hrE he
        unfold wX6_fewest_L88
        rw [ifF (by simp (disch := omega) only [zl_0, zl_1, zl_2, zl_3, zl_4, zl_5, zl_6, zl_7, zl_8, zl_9, zl_10, zl_14, zl_16, zl_20, zl_24, zl_32, zl_40, zl_42, zl_44, zl_48, zl_56, zl_57, zl_59, zl_60, zl_61, zl_64, zl_99, zl_100, zl_110, zl_126, zl_128, zl_200, zl_392, zl_999, zl_9999, nI_add, pk_mul, nI_leI, nI_ltI, nI_eq, nI_clamp, vpn, pk_sub]; omega)]
        refine ref_passes hE hm hrE (fun ms2 mh2 g => ?_)
        rw [nI_1]
        exact ih (i + 1) (dyD m K H E) ms2 mh2 (by omega) (dyD_ok hE (by omega)) (by show dd E + 1 + r < 4000; omega) g he
    exact ⟨d + 1, key d 0 D0 ms mh (by omega) ok0 (by omega) hr0 rfl⟩
  have key : ∀ r i b ms1 mh1, i + r = 2 ^ m → (b < i ∨ b = 999) → rfD m k D ms1 → fwb (cvR m K H D n v d) w r i b = fwb (cvR m K H D n v d) w (2 ^ m) 0 999 → wX6_fewest_L11 (nI n) (nI d) (nI v) (nI w) mo mg' Q (r + 1) (bI b) (nI i) ms1 mh1 := by
    intro r
    induction r with
    | zero =>
      intro i b ms1 mh1 hi hb h1 he
      have hi : i = 2 ^ m := by omega
      have he : b = fwb (cvR m K H D n v d) w (2 ^ m) 0 999 := he
      unfold wX6_fewest_L11
      rw [hm.1, shl_fin m (by omega)]
      refine ifp (by rw [hi]; exact Int32.le_refl _) ?_
      rw [← he] at hQ
      exact hQ _ _ _ h1
    | succ r ih =>
      intro i b ms1 mh1 hi hb h1 he
      have hcb := cnt_le b
      have hci := cnt_le i
      rw [fwb_s] at he
      unfold wX6_fewest_L11
      rw [hm.1, shl_fin m (by omega), ifF (by simp (disch := omega) only [zl_0, zl_1, zl_2, zl_3, zl_4, zl_5, zl_6, zl_7, zl_8, zl_9, zl_10, zl_14, zl_16, zl_20, zl_24, zl_32, zl_40, zl_42, zl_44, zl_48, zl_56, zl_57, zl_59, zl_60, zl_61, zl_64, zl_99, zl_100, zl_110, zl_126, zl_128, zl_200, zl_392, zl_999, zl_9999, nI_add, pk_mul, nI_leI, nI_ltI, nI_eq, nI_clamp, vpn, pk_sub]; omega), nI_1]
      refine setl i (by omega) ms1 _ h1 (fun ms2 h2 => ?_)
      have okc : okD m k K H (cvD D n v i m) := cvD_ok ok hv
      refine loop _ ms2 mh1 _ okc hd9 h2 (fun ms3 mh3 h3 => ?_)
      have okd := dyN_ok d _ okc (by show dd D + d < 5000; omega)
      have ha := okd.A hn
      rw [e8, nI_clamp (by omega), vpn (by omega), (h3.2.2.1 n hn).1]
      refine ⟨by omega, ?_⟩
      have hno : ∀ ms2, rfD m k D ms2 → ¬ cvR m K H D n v d i = w → wX6_fewest_L11 (nI n) (nI d) (nI v) (nI w) mo mg' Q (r + 1) (bI b) (nI (i + 1)) ms2 mh3 := by
        intro ms2 g1 g2
        rw [if_neg (fun g => g2 g.1)] at he
        exact ih (i + 1) b ms2 mh3 (by omega) (by omega) g1 he
      have hyes : ∀ ms2, rfD m k D ms2 → cvR m K H D n v d i = w → ((bI b = (-4 : Int32) → (wX6_fewest_L11 (nI n) (nI d) (nI v) (nI w) mo mg' Q (r + 1) (nI i) (nI (i + 1)) ms2 mh3)) ∧ (¬ bI b = (-4 : Int32) → (wX6_ones (nI i) (fun r_63 => (wX6_ones (bI b) (fun r_64 => ((r_64 ≤ r_63 → (wX6_fewest_L11 (nI n) (nI d) (nI v) (nI w) mo mg' Q (r + 1) (bI b) (nI (i + 1)) ms2 mh3)) ∧ (¬ r_64 ≤ r_63 → (wX6_fewest_L11 (nI n) (nI d) (nI v) (nI w) mo mg' Q (r + 1) (nI i) (nI (i + 1)) ms2 mh3))))))))) := by
        intro ms2 g1 g2
        have hbi : bI i = nI i := by unfold bI; rw [if_neg (by omega)]
        by_cases h9 : b = 999
        · rw [if_pos ⟨g2, Or.inl h9⟩] at he
          rw [ifT (show bI b = -4 by unfold bI; rw [if_pos h9]), ← hbi]
          exact ih (i + 1) i ms2 mh3 (by omega) (by omega) g1 he
        · rw [ifF (bI_ne (by omega))]
          refine r_ones (by omega) ?_
          have hbb : bI b = nI b := by unfold bI; rw [if_neg h9]
          rw [hbb]
          refine r_ones (by omega) ?_
          by_cases hle : cnt b ≤ cnt i
          · rw [ifT (by simp (disch := omega) only [zl_0, zl_1, zl_2, zl_3, zl_4, zl_5, zl_6, zl_7, zl_8, zl_9, zl_10, zl_14, zl_16, zl_20, zl_24, zl_32, zl_40, zl_42, zl_44, zl_48, zl_56, zl_57, zl_59, zl_60, zl_61, zl_64, zl_99, zl_100, zl_110, zl_126, zl_128, zl_200, zl_392, zl_999, zl_9999, nI_add, pk_mul, nI_leI, nI_ltI, nI_eq, nI_clamp, vpn, pk_sub]; exact hle), ← hbb]
            rw [if_neg (by omega)] at he
            exact ih (i + 1) b ms2 mh3 (by omega) (by omega) g1 he
          · rw [ifF (by simp (disch := omega) only [zl_0, zl_1, zl_2, zl_3, zl_4, zl_5, zl_6, zl_7, zl_8, zl_9, zl_10, zl_14, zl_16, zl_20, zl_24, zl_32, zl_40, zl_42, zl_44, zl_48, zl_56, zl_57, zl_59, zl_60, zl_61, zl_64, zl_99, zl_100, zl_110, zl_126, zl_128, zl_200, zl_392, zl_999, zl_9999, nI_add, pk_mul, nI_leI, nI_ltI, nI_eq, nI_clamp, vpn, pk_sub]; exact hle), ← hbi]
            rw [if_pos ⟨g2, Or.inr (by omega)⟩] at he
            exact ih (i + 1) i ms2 mh3 (by omega) (by omega) g1 he
      have v0 : (0 : Int32) = nI 0 := rfl
      have v1 : (1 : Int32) = nI 1 := rfl
      by_cases h9 : dA (dyN m K H d (cvD D n v i m)) n = 9
      · have hcr : cvR m K H D n v d i = 1 := by unfold cvR; rw [if_pos h9]
        rw [ifT (show nI (dA (dyN m K H d (cvD D n v i m)) n) = (9 : Int32) by rw [h9]; rfl)]
        by_cases hw1 : w = 1
        · refine ifp (by rw [hw1]; rfl) ?_
          exact ref_lets (fun ms4 g4 => hyes ms4 (rfD_holds hm7 hk6 hr hg1 g4) (by rw [hcr, hw1]))
        · refine ifn (by intro g; exact hw1 ((nI_eq (a := 1) (b := w) (by omega) (by omega)).mp g).symm) ?_
          exact ref_lets (fun ms4 g4 => hno ms4 (rfD_holds hm7 hk6 hr hg1 g4) (by rw [hcr]; omega))
      · have hcr : cvR m K H D n v d i = 0 := by unfold cvR; rw [if_neg h9]
        rw [ifF (show ¬ nI (dA (dyN m K H d (cvD D n v i m)) n) = (9 : Int32) by simp (disch := omega) only [zl_0, zl_1, zl_2, zl_3, zl_4, zl_5, zl_6, zl_7, zl_8, zl_9, zl_10, zl_14, zl_16, zl_20, zl_24, zl_32, zl_40, zl_42, zl_44, zl_48, zl_56, zl_57, zl_59, zl_60, zl_61, zl_64, zl_99, zl_100, zl_110, zl_126, zl_128, zl_200, zl_392, zl_999, zl_9999, nI_add, pk_mul, nI_leI, nI_ltI, nI_eq, nI_clamp, vpn, pk_sub]; exact h9)]
        by_cases hw1 : w = 0
        · refine ifp (by rw [hw1]; rfl) ?_
          exact ref_lets (fun ms4 g4 => hyes ms4 (rfD_holds hm7 hk6 hr hg1 g4) (by rw [hcr, hw1]))
        · refine ifn (by intro g; exact hw1 ((nI_eq (a := 0) (b := w) (by omega) (by omega)).mp g).symm) ?_
          exact ref_lets (fun ms4 g4 => hno ms4 (rfD_holds hm7 hk6 hr hg1 g4) (by rw [hcr]; omega))
  exact ⟨2 ^ m + 1, key (2 ^ m) 0 999 ms mh (by omega) (Or.inr rfl) hr rfl⟩
theorem sim_conv (x y z : Int32) (v w : Nat) (hv : v ≤ 9) (hw : w = if v = 0 then 1 else 0) (ok : okD m k K H D) (hd9 : dd D ≤ 999) (hc : ctC m k K H D kd hd pl st ho be nc nn dy) (hm : rfM m k K H mo) (hr : rfD m k D ms) :
    ∃ r : Int32, (∀ Q : Int32 → (Nat → Int32) → (Nat → Int32) → (Nat → Int32) → (Nat → Int32) → (Nat → Int32) → (Nat → Int32) → Int32 → Int32 → Int32 → Prop, (∀ a b c d e f g h i, Q r a b c d e f g h i) → wX5_convinced x y z (nI v) kd hd pl st ho be nc nn dy kt ht pt tt ot bt ct ut yt Q) ∧
      (∀ Q : Int32 → (Nat → Int32) → (Nat → Int32) → (Nat → Int32) → Prop, (∀ ms' mh' mg', rfD m k D ms' → Q r ms' mh' mg') → wX6_likewise x y z (nI v) (nI w) mo ms mh mg Q) := by
  have hm7 := ok.1.2.1
  have hk6 := ok.2.2.1
  have hp : 2 ^ m ≤ 2 ^ 7 := Nat.pow_le_pow_right (by decide) hm7
  by_cases hx : ix x k
  · obtain ⟨n, n1, rfl⟩ := hx
    by_cases hy : rg y 1 20
    · obtain ⟨d, d0, d1, rfl⟩ := hy
      have h5 : ∀ Q2 : Int32 → Prop, wX5_isIn (nI d) 1 20 Q2 = Q2 1 := fun Q2 => e_isInT (lo := 1) (hi := 20) d0 d1 (by omega)
      have h6 : ∀ Q2 : Int32 → Prop, wX6_in (nI d) 1 20 Q2 = Q2 1 := fun Q2 => r_inT (lo := 1) (hi := 20) d0 d1 (by omega)
      by_cases hz : rg z 0 1
      · have h7 : ∀ Q2 : Int32 → Prop, wX5_isIn z 0 1 Q2 = Q2 1 := fun Q2 => by
          obtain ⟨j, j0, j1, rfl⟩ := hz
          exact e_isInT (lo := 0) (hi := 1) j0 j1 (by omega)
        have h8 : ∀ Q2 : Int32 → Prop, wX6_in z 0 1 Q2 = Q2 1 := fun Q2 => by
          obtain ⟨j, j0, j1, rfl⟩ := hz
          exact r_inT (lo := 0) (hi := 1) j0 j1 (by omega)
        have e8 : (8 : Int32) + nI n = nI (8 + n) := nI_add 8 n
        have ha := ok.A n1
        by_cases h9 : dA D n = 9
        · refine ⟨-2, fun Q hQ => ?_, fun Q hQ => ?_⟩
          · unfold wX5_convinced
            rw [hc.2.1, e_isN_T n1 (by omega), ifF (by decide), h5, ifF (by decide), h7, ifF (by decide), e_isKnown (by omega) (hc.2.2.2.2 n n1).1 ha, if_pos h9, ifF (by decide)]
            exact hQ _ _ _ _ _ _ _ _ _
          · unfold wX6_likewise
            rw [r_isN_T hm.2.1 n1 (by omega), ifF (by decide), h6, ifF (by decide), h8, ifF (by decide), e8, nI_clamp (by omega), vpn (by omega), (hr.2.2.1 n n1).1, ifT (show nI (dA D n) = (9 : Int32) by rw [h9]; rfl)]
            exact ⟨by omega, hQ _ _ _ hr⟩
        · have hb := fwb_ok (g := cvR m K H D n v d) (w := w) (N := 2 ^ m) (2 ^ m) 0 999 (by omega) (Or.inr rfl)
          refine ⟨if z = 0 then (if fwb (cvR m K H D n v d) w (2 ^ m) 0 999 = 999 then -4 else nI (cnt (fwb (cvR m K H D n v d) w (2 ^ m) 0 999))) else bI (fwb (cvR m K H D n v d) w (2 ^ m) 0 999), fun Q hQ => ?_, fun Q hQ => ?_⟩
          · have hj : wX5_convinced_J56 (nI n) (nI d) z (nI v) (nI w) kd hd pl st ho be nc nn dy kt ht pt tt ot bt ct ut yt Q := s_fewest (N := 0) ok hd9 hc n1 hv d1 (by rw [hw]; split <;> omega) (fun r hr2 a b c e f g h i j => by rw [hr2]; exact hQ _ _ _ _ _ _ _ _ _)
            unfold wX5_convinced
            rw [hc.2.1, e_isN_T n1 (by omega), ifF (by decide), h5, ifF (by decide), h7, ifF (by decide), e_isKnown (by omega) (hc.2.2.2.2 n n1).1 ha, if_neg h9, ifT rfl, ← hc.2.1]
            by_cases hv0 : v = 0
            · rw [if_pos hv0] at hw
              rw [hw] at hj
              exact ifp (by rw [hv0]; rfl) hj
            · rw [if_neg hv0] at hw
              rw [hw] at hj
              exact ifn (by simp (disch := omega) only [zl_0, zl_1, zl_2, zl_3, zl_4, zl_5, zl_6, zl_7, zl_8, zl_9, zl_10, zl_14, zl_16, zl_20, zl_24, zl_32, zl_40, zl_42, zl_44, zl_48, zl_56, zl_57, zl_59, zl_60, zl_61, zl_64, zl_99, zl_100, zl_110, zl_126, zl_128, zl_200, zl_392, zl_999, zl_9999, nI_add, pk_mul, nI_leI, nI_ltI, nI_eq, nI_clamp, vpn, pk_sub]; exact hv0) hj
          · unfold wX6_likewise
            rw [r_isN_T hm.2.1 n1 (by omega), ifF (by decide), h6, ifF (by decide), h8, ifF (by decide), e8, nI_clamp (by omega), vpn (by omega), (hr.2.2.1 n n1).1, ifF (show ¬ nI (dA D n) = (9 : Int32) by simp (disch := omega) only [zl_0, zl_1, zl_2, zl_3, zl_4, zl_5, zl_6, zl_7, zl_8, zl_9, zl_10, zl_14, zl_16, zl_20, zl_24, zl_32, zl_40, zl_42, zl_44, zl_48, zl_56, zl_57, zl_59, zl_60, zl_61, zl_64, zl_99, zl_100, zl_110, zl_126, zl_128, zl_200, zl_392, zl_999, zl_9999, nI_add, pk_mul, nI_leI, nI_ltI, nI_eq, nI_clamp, vpn, pk_sub]; exact h9)]
            refine ⟨by omega, r_fewest ok hd9 hm hr n1 hv d1 (by rw [hw]; split <;> omega) (fun ms' mh' mg' h1 => ?_)⟩
            by_cases hf : fwb (cvR m K H D n v d) w (2 ^ m) 0 999 = 999
            · have e4 : bI (fwb (cvR m K H D n v d) w (2 ^ m) 0 999) = -4 := by unfold bI; rw [if_pos hf]
              rw [e4, ifT rfl]
              have g := hQ ms' mh' mg' h1
              rw [if_pos hf, e4] at g
              rw [show (if z = 0 then (-4 : Int32) else -4) = -4 by split <;> rfl] at g
              exact g
            · rw [ifF (bI_ne (by omega))]
              have g := hQ ms' mh' mg' h1
              rw [if_neg hf] at g
              obtain ⟨j, j0, j1, rfl⟩ := hz
              by_cases hj0 : j = 0
              · subst hj0
                rw [if_pos (show nI 0 = (0 : Int32) from rfl)] at g
                rw [ifF (show ¬ nI 0 = (1 : Int32) by decide)]
                have hbb : bI (fwb (cvR m K H D n v d) w (2 ^ m) 0 999) = nI (fwb (cvR m K H D n v d) w (2 ^ m) 0 999) := by unfold bI; rw [if_neg hf]
                rw [hbb]
                exact r_ones (by omega) g
              · have hj1 : j = 1 := by omega
                subst hj1
                rw [if_neg (show ¬ nI 1 = (0 : Int32) by decide)] at g
                rw [ifT (show nI 1 = (1 : Int32) from rfl)]
                exact g
      · have h7 : ∀ Q2 : Int32 → Prop, wX5_isIn z 0 1 Q2 = Q2 0 := fun Q2 => e_isInF (lo := 0) (hi := 1) hz (by omega) (by omega)
        have h8 : ∀ Q2 : Int32 → Prop, wX6_in z 0 1 Q2 = Q2 0 := fun Q2 => r_inF (lo := 0) (hi := 1) hz (by omega) (by omega)
        refine ⟨-1, fun Q hQ => ?_, fun Q hQ => ?_⟩
        · unfold wX5_convinced
          rw [hc.2.1, e_isN_T n1 (by omega), ifF (by decide), h5, ifF (by decide), h7, ifT rfl]
          exact hQ _ _ _ _ _ _ _ _ _
        · unfold wX6_likewise
          rw [r_isN_T hm.2.1 n1 (by omega), ifF (by decide), h6, ifF (by decide), h8, ifT rfl]
          exact hQ _ _ _ hr
    · have h5 : ∀ Q2 : Int32 → Prop, wX5_isIn y 1 20 Q2 = Q2 0 := fun Q2 => e_isInF (lo := 1) (hi := 20) hy (by omega) (by omega)
      have h6 : ∀ Q2 : Int32 → Prop, wX6_in y 1 20 Q2 = Q2 0 := fun Q2 => r_inF (lo := 1) (hi := 20) hy (by omega) (by omega)
      refine ⟨-1, fun Q hQ => ?_, fun Q hQ => ?_⟩
      · unfold wX5_convinced
        rw [hc.2.1, e_isN_T n1 (by omega), ifF (by decide), h5, ifT rfl]
        exact hQ _ _ _ _ _ _ _ _ _
      · unfold wX6_likewise
        rw [r_isN_T hm.2.1 n1 (by omega), ifF (by decide), h6, ifT rfl]
        exact hQ _ _ _ hr
  · refine ⟨-1, fun Q hQ => ?_, fun Q hQ => ?_⟩
    · unfold wX5_convinced
      rw [hc.2.1, e_isN_F hx (by omega), ifT rfl]
      exact hQ _ _ _ _ _ _ _ _ _
    · unfold wX6_likewise
      rw [r_isN_F hm.2.1 hx ok.2.1 (by omega), ifT rfl]
      exact hQ _ _ _ hr
theorem sim_hush (x y z : Int32) (ok : okD m k K H D) (hd9 : dd D ≤ 999) (hc : ctC m k K H D kd hd pl st ho be nc nn dy) (hm : rfM m k K H mo) (hr : rfD m k D ms) :
    ∃ r : Int32, (∀ Q : Int32 → (Nat → Int32) → (Nat → Int32) → (Nat → Int32) → (Nat → Int32) → (Nat → Int32) → (Nat → Int32) → Int32 → Int32 → Int32 → Prop, (∀ a b c d e f g h i, Q r a b c d e f g h i) → wX5_hush x y z kd hd pl st ho be nc nn dy kt ht pt tt ot bt ct ut yt Q) ∧
      (∀ Q : Int32 → (Nat → Int32) → (Nat → Int32) → (Nat → Int32) → Prop, (∀ ms' mh' mg', rfD m k D ms' → Q r ms' mh' mg') → wX6_hush x y z mo ms mh mg Q) := sim_conv x y z 9 0 (by omega) (by decide) ok hd9 hc hm hr
theorem sim_loose (x y z : Int32) (ok : okD m k K H D) (hd9 : dd D ≤ 999) (hc : ctC m k K H D kd hd pl st ho be nc nn dy) (hm : rfM m k K H mo) (hr : rfD m k D ms) :
    ∃ r : Int32, (∀ Q : Int32 → (Nat → Int32) → (Nat → Int32) → (Nat → Int32) → (Nat → Int32) → (Nat → Int32) → (Nat → Int32) → Int32 → Int32 → Int32 → Prop, (∀ a b c d e f g h i, Q r a b c d e f g h i) → wX5_loose x y z kd hd pl st ho be nc nn dy kt ht pt tt ot bt ct ut yt Q) ∧
      (∀ Q : Int32 → (Nat → Int32) → (Nat → Int32) → (Nat → Int32) → Prop, (∀ ms' mh' mg', rfD m k D ms' → Q r ms' mh' mg') → wX6_loose x y z mo ms mh mg Q) := sim_conv x y z 0 1 (by omega) (by decide) ok hd9 hc hm hr
end SIM
