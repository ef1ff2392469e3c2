/-! what comes -/
/-- the first day at which news is known, up to r days from i on; 99: none -/
def cmf (m : Nat) (K H P S : Nat → Nat) : Nat → Nat → Nat × (Nat → Nat) → Nat
  | 0, i, x => if x.1 = 9 then i else 99
  | r + 1, i, x => if x.1 = 9 then i else cmf m K H P S r (i + 1) (stp m K H P S x)
theorem cmf_ge (m : Nat) (K H P S : Nat → Nat) : ∀ r i x, i < 99 → i ≤ cmf m K H P S r i x
  | 0, i, x, h => by unfold cmf; split <;> omega
  | r + 1, i, x, h => by
    unfold cmf
    split
    · exact Nat.le_refl _
    · by_cases h2 : i + 1 < 99
      · exact Nat.le_trans (Nat.le_succ i) (cmf_ge m K H P S r (i + 1) _ h2)
      · have h3 : i + 1 = 99 := by omega
        cases r with
        | zero => unfold cmf; split <;> omega
        | succ r => 
          have : ∀ r j x, 99 ≤ j → 99 ≤ cmf m K H P S r j x := by
            intro r
            induction r with
            | zero => intro j x hj; unfold cmf; split <;> omega
            | succ r ih => intro j x hj; unfold cmf; split
                           · exact hj
                           · exact ih _ _ (by omega)
          have := this (r + 1) (i + 1) (stp m K H P S x) (by omega)
          omega
theorem cmf_lim (m : Nat) (K H P S : Nat → Nat) : ∀ r r' i x, r' ≤ r → i + r < 99 → cmf m K H P S r' i x = if cmf m K H P S r i x ≤ i + r' then cmf m K H P S r i x else 99
  | 0, r', i, x, h, hi => by
    have : r' = 0 := by omega
    subst this
    unfold cmf
    split
    · rw [if_pos (by omega)]
    · rw [if_neg (by omega)]
  | r + 1, r', i, x, h, hi => by
    cases r' with
    | zero =>
      unfold cmf
      split
      · rw [if_pos (by omega)]
      · have := cmf_ge m K H P S r (i + 1) (stp m K H P S x) (by omega)
        rw [if_neg (by omega)]
    | succ r' =>
      unfold cmf
      split
      · rw [if_pos (by omega)]
      · rw [cmf_lim m K H P S r r' (i + 1) _ (by omega) (by omega)]
        have e : i + 1 + r' = i + (r' + 1) := by omega
        rw [e]
theorem cmf_le (m : Nat) (K H P S : Nat → Nat) : ∀ r i x, i + r < 99 → cmf m K H P S r i x ≤ i + r ∨ cmf m K H P S r i x = 99
  | 0, i, x, h => by unfold cmf; split <;> omega
  | r + 1, i, x, h => by
    unfold cmf
    split
    · exact Or.inl (by omega)
    · have := cmf_le m K H P S r (i + 1) (stp m K H P S x) (by omega)
      omega
def cmI (v : Nat) : Int32 := if v = 99 then -4 else nI v
theorem frH_tr {n : Nat} {a b c : Nat → Int32} (h : frH n a b) (g : frH n b c) : frH n a c := fun j hj => (g j hj).trans (h j hj)
theorem frB_tr {m n : Nat} {a b c : Nat → Int32} (h : frB m n a b) (g : frB m n b c) : frB m n a c := fun j hj => (g j hj).trans (h j hj)
theorem s_until {m n L : Nat} {x : Nat × (Nat → Nat)} {K H P S : Nat → Nat} {kd hd pl st ho be : Nat → Int32} {Q : Int32 → (Nat → Int32) → (Nat → Int32) → Prop} (ok : okT m K H P S) (hs : ctS m K H P S kd hd pl st) (hn : n < 6) (hL : L ≤ 60) (hx : okN m x.1 x.2) (hN : ctN m n x.1 x.2 ho be)
    (hQ : ∀ ho' be', frH n ho ho' → frB m n be be' → Q (cmI (cmf m K H P S L 0 x)) ho' be') : wX0_untilKnown (nI n) (nI L) kd hd pl st ho be (nI m) Q := by
  have hm := ok.2.1
  have key : ∀ r i x ho1 be1, i + r = L → okN m x.1 x.2 → ctN m n x.1 x.2 ho1 be1 → (∀ ho' be', frH n ho1 ho' → frB m n be1 be' → Q (cmI (cmf m K H P S r i x)) ho' be') → wX0_untilKnown_L2 (nI n) (nI L) kd hd pl st (nI m) Q (r + 2) (nI i) ho1 be1 := by
    intro r
    induction r with
    | zero =>
      intro i x ho1 be1 hi hx hN hQ2
      have hi : i = L := by omega
      subst hi
      unfold wX0_untilKnown_L2
      rw [ifF Int32.lt_irrefl, e_isKnown hn hN.1 (hx.lt hm)]
      unfold cmf at hQ2
      by_cases h9 : x.1 = 9
      · rw [if_pos h9, ifF (by decide)]
        have g := hQ2 ho1 be1 (fun _ _ => rfl) (fun _ _ => rfl)
        rw [if_pos h9] at g
        unfold cmI at g
        rw [if_neg (by omega)] at g
        exact g
      · rw [if_neg h9, ifT rfl]
        refine s_liveFor (d := 1) ok hs hn (by omega) hx hN (fun ho' be' g1 g2 g3 => ?_)
        unfold wX0_untilKnown_L2
        rw [nI_1, ifT (by simp (disch := omega) only [zl_0, zl_1, zl_2, zl_3, zl_4, zl_5, zl_6, zl_7, zl_8, zl_9, zl_10, zl_14, zl_16, zl_20, zl_24, zl_32, zl_40, zl_42, zl_44, zl_48, zl_56, zl_57, zl_59, zl_60, zl_61, zl_64, zl_99, zl_100, zl_110, zl_126, zl_128, zl_200, zl_392, zl_999, zl_9999, nI_add, pk_mul, nI_leI, nI_ltI, nI_eq, nI_clamp, vpn, pk_sub]; omega)]
        have g := hQ2 ho' be' g2 g3
        rw [if_neg h9] at g
        exact g
    | succ r ih =>
      intro i x ho1 be1 hi hx hN hQ2
      unfold wX0_untilKnown_L2
      rw [ifF (by simp (disch := omega) only [zl_0, zl_1, zl_2, zl_3, zl_4, zl_5, zl_6, zl_7, zl_8, zl_9, zl_10, zl_14, zl_16, zl_20, zl_24, zl_32, zl_40, zl_42, zl_44, zl_48, zl_56, zl_57, zl_59, zl_60, zl_61, zl_64, zl_99, zl_100, zl_110, zl_126, zl_128, zl_200, zl_392, zl_999, zl_9999, nI_add, pk_mul, nI_leI, nI_ltI, nI_eq, nI_clamp, vpn, pk_sub]; omega), e_isKnown hn hN.1 (hx.lt hm)]
      unfold cmf at hQ2
      by_cases h9 : x.1 = 9
      · rw [if_pos h9, ifF (by decide)]
        have g := hQ2 ho1 be1 (fun _ _ => rfl) (fun _ _ => rfl)
        rw [if_pos h9] at g
        unfold cmI at g
        rw [if_neg (by omega)] at g
        exact g
      · rw [if_neg h9, ifT rfl]
        refine s_liveFor (d := 1) ok hs hn (by omega) hx hN (fun ho' be' g1 g2 g3 => ?_)
        rw [nI_1]
        refine ih (i + 1) (stp m K H P S x) ho' be' (by omega) (stp_ok ok hx) g1 (fun ho2 be2 g4 g5 => ?_)
        have g := hQ2 ho2 be2 (frH_tr g2 g4) (frB_tr g3 g5)
        rw [if_neg h9] at g
        exact g
  exact ⟨L + 2, key L 0 x ho be (by omega) hx hN hQ⟩
/-- one news through the days of all -/
def nx (D : Dy) (n : Nat) : Nat × (Nat → Nat) := (dA D n, dB D n)
theorem dyN_nx (m : Nat) (K H : Nat → Nat) (n : Nat) : ∀ (j : Nat) (D : Dy), nx (dyN m K H j D) n = itr m K H (dP D) (dS D) j (nx D n)
  | 0, _ => rfl
  | j + 1, D => dyN_nx m K H n j (dyD m K H D)
section SIM
variable {m k : Nat} {K H : Nat → Nat} {D : Dy} {kd hd pl st ho be : Nat → Int32} {nc nn dy : Int32} {kt ht pt tt ot bt : Nat → Int32} {ct ut yt : Int32} {mo ms mh mg : Nat → Int32}
theorem s_copy {Q : (Nat → Int32) → (Nat → Int32) → (Nat → Int32) → (Nat → Int32) → (Nat → Int32) → (Nat → Int32) → Int32 → Int32 → Int32 → Prop} (hm : m ≤ 7) (hk : k ≤ 6) (hc : ctC m k K H D kd hd pl st ho be nc nn dy) (hQ : ∀ kd' hd' pl' st' ho' be', ctC m k K H D kd' hd' pl' st' ho' be' nc nn dy → Q kd' hd' pl' st' ho' be' nc nn dy) : wX0_copyFrom kt ht pt tt ot bt kd hd pl st ho be nc nn dy Q := by
  unfold wX0_copyFrom
  exact hQ _ _ _ _ _ _ (ctV_cpy (v := (kd, hd, pl, st, ho, be, nc, nn, dy)) (w := (kt, ht, pt, tt, ot, bt, nc, nn, dy)) hm hk hc)
theorem rfD_holds {mg' : Nat → Int32} (hm : m ≤ 7) (hk : k ≤ 6) (hr : rfD m k D ms) (h1 : ∀ i, i < 56 → mg' i = ms i) {ms' : Nat → Int32} (h2 : ∀ i, i < 56 → ms' i = mg' i) : rfD m k D ms' := rfD_eq hm hk hr (fun i hi => (h2 i hi).trans (h1 i hi))
theorem r_knownIn {n : Nat} {Q : Int32 → (Nat → Int32) → (Nat → Int32) → Prop} (ok : okD m k K H D) (hd9 : dd D ≤ 999) (hm : rfM m k K H mo) (hr : rfD m k D ms) (hn : n < k)
    (hQ : ∀ ms' mh', Q (cmI (cmf m K H (dP D) (dS D) 60 0 (nx D n))) ms' mh') : wX6_knownIn (nI n) mo ms mh Q := by
  have hm7 := ok.1.2.1
  have hk6 := ok.2.2.1
  have e1 : (8 : Int32) + nI n = nI (8 + n) := nI_add 8 n
  have v60 : (60 : Int32) = nI 60 := rfl
  have key : ∀ r i D ms1 mh1, i + r = 60 → okD m k K H D → dd D + r < 4000 → rfD m k D ms1 → (∀ ms' mh', Q (cmI (cmf m K H (dP D) (dS D) r i (nx D n))) ms' mh') → wX6_knownIn_L2 (nI n) mo Q (r + 2) (nI i) ms1 mh1 := by
    intro r
    induction r with
    | zero =>
      intro i D ms1 mh1 hi ok hdd hr hQ2
      have hi : i = 60 := by omega
      subst hi
      have ha := ok.A hn
      unfold wX6_knownIn_L2
      rw [v60, ifF Int32.lt_irrefl, e1, nI_clamp (by omega), vpn (by omega), (hr.2.2.1 n hn).1]
      refine ⟨by omega, ?_⟩
      unfold cmf at hQ2
      by_cases h9 : dA D n = 9
      · rw [ifT (show nI (dA D n) = (9 : Int32) by rw [h9]; rfl)]
        refine ifp (by simp (disch := omega) only [zl_0, zl_1, zl_2, zl_3, zl_4, zl_5, zl_6, zl_7, zl_8, zl_9, zl_10, zl_14, zl_16, zl_20, zl_24, zl_32, zl_40, zl_42, zl_44, zl_48, zl_56, zl_57, zl_59, zl_60, zl_61, zl_64, zl_99, zl_100, zl_110, zl_126, zl_128, zl_200, zl_392, zl_999, zl_9999, nI_add, pk_mul, nI_leI, nI_ltI, nI_eq, nI_clamp, vpn, pk_sub]; omega) ?_
        have g := hQ2 ms1 mh1
        rw [if_pos (show (nx D n).1 = 9 from h9)] at g
        exact g
      · rw [ifF (show ¬ nI (dA D n) = (9 : Int32) by simp (disch := omega) only [zl_0, zl_1, zl_2, zl_3, zl_4, zl_5, zl_6, zl_7, zl_8, zl_9, zl_10, zl_14, zl_16, zl_20, zl_24, zl_32, zl_40, zl_42, zl_44, zl_48, zl_56, zl_57, zl_59, zl_60, zl_61, zl_64, zl_99, zl_100, zl_110, zl_126, zl_128, zl_200, zl_392, zl_999, zl_9999, nI_add, pk_mul, nI_leI, nI_ltI, nI_eq, nI_clamp, vpn, pk_sub]; exact h9)]
        refine ref_passes ok hm hr (fun ms2 mh2 g2 => ?_)
        unfold wX6_knownIn_L2
        rw [v60, nI_1, ifT (by simp (disch := omega) only [zl_0, zl_1, zl_2, zl_3, zl_4, zl_5, zl_6, zl_7, zl_8, zl_9, zl_10, zl_14, zl_16, zl_20, zl_24, zl_32, zl_40, zl_42, zl_44, zl_48, zl_56, zl_57, zl_59, zl_60, zl_61, zl_64, zl_99, zl_100, zl_110, zl_126, zl_128, zl_200, zl_392, zl_999, zl_9999, nI_add, pk_mul, nI_leI, nI_ltI, nI_eq, nI_clamp, vpn, pk_sub]; omega), ifF (by simp (disch := omega) only [zl_0, zl_1, zl_2, zl_3, zl_4, zl_5, zl_6, zl_7, zl_8, zl_9, zl_10, zl_14, zl_16, zl_20, zl_24, zl_32, zl_40, zl_42, zl_44, zl_48, zl_56, zl_57, zl_59, zl_60, zl_61, zl_64, zl_99, zl_100, zl_110, zl_126, zl_128, zl_200, zl_392, zl_999, zl_9999, nI_add, pk_mul, nI_leI, nI_ltI, nI_eq, nI_clamp, vpn, pk_sub]; omega)]
        have g := hQ2 ms2 mh2
        rw [if_neg (show ¬ (nx D n).1 = 9 from h9)] at g
        exact g
    | succ r ih =>
      intro i D ms1 mh1 hi ok hdd hr hQ2
      have ha := ok.A hn
      unfold wX6_knownIn_L2
      rw [v60, ifF (by simp (disch := omega) only [zl_0, zl_1, zl_2, zl_3, zl_4, zl_5, zl_6, zl_7, zl_8, zl_9, zl_10, zl_14, zl_16, zl_20, zl_24, zl_32, zl_40, zl_42, zl_44, zl_48, zl_56, zl_57, zl_59, zl_60, zl_61, zl_64, zl_99, zl_100, zl_110, zl_126, zl_128, zl_200, zl_392, zl_999, zl_9999, nI_add, pk_mul, nI_leI, nI_ltI, nI_eq, nI_clamp, vpn, pk_sub]; omega), e1, nI_clamp (by omega), vpn (by omega), (hr.2.2.1 n hn).1]
      refine ⟨by omega, ?_⟩
      unfold cmf at hQ2
      by_cases h9 : dA D n = 9
      · rw [ifT (show nI (dA D n) = (9 : Int32) by rw [h9]; rfl)]
        refine ifp (by simp (disch := omega) only [zl_0, zl_1, zl_2, zl_3, zl_4, zl_5, zl_6, zl_7, zl_8, zl_9, zl_10, zl_14, zl_16, zl_20, zl_24, zl_32, zl_40, zl_42, zl_44, zl_48, zl_56, zl_57, zl_59, zl_60, zl_61, zl_64, zl_99, zl_100, zl_110, zl_126, zl_128, zl_200, zl_392, zl_999, zl_9999, nI_add, pk_mul, nI_leI, nI_ltI, nI_eq, nI_clamp, vpn, pk_sub]; omega) ?_
        have g := hQ2 ms1 mh1
        rw [if_pos (show (nx D n).1 = 9 from h9)] at g
        unfold cmI at g
        rw [if_neg (by omega)] at g
        exact g
      · rw [ifF (show ¬ nI (dA D n) = (9 : Int32) by simp (disch := omega) only [zl_0, zl_1, zl_2, zl_3, zl_4, zl_5, zl_6, zl_7, zl_8, zl_9, zl_10, zl_14, zl_16, zl_20, zl_24, zl_32, zl_40, zl_42, zl_44, zl_48, zl_56, zl_57, zl_59, zl_60, zl_61, zl_64, zl_99, zl_100, zl_110, zl_126, zl_128, zl_200, zl_392, zl_999, zl_9999, nI_add, pk_mul, nI_leI, nI_ltI, nI_eq, nI_clamp, vpn, pk_sub]; exact h9)]
        refine ref_passes ok hm hr (fun ms2 mh2 g2 => ?_)
        rw [nI_1]
        refine ih (i + 1) (dyD m K H D) ms2 mh2 (by omega) (dyD_ok ok (by omega)) (by show dd D + 1 + r < 4000; omega) g2 (fun ms' mh' => ?_)
        have g := hQ2 ms' mh'
        rw [if_neg (show ¬ (nx D n).1 = 9 from h9)] at g
        exact g
  exact ⟨62, key 60 0 D ms mh (by omega) ok (by omega) hr hQ⟩
theorem r_comesIn {n : Nat} {Q : Int32 → (Nat → Int32) → (Nat → Int32) → (Nat → Int32) → Prop} (ok : okD m k K H D) (hd9 : dd D ≤ 999) (hm : rfM m k K H mo) (hr : rfD m k D ms) (hn : n < k)
    (hQ : ∀ ms' mh' mg', rfD m k D ms' → Q (cmI (cmf m K H (dP D) (dS D) 60 0 (nx D n))) ms' mh' mg') : wX6_comesIn (nI n) mo ms mh mg Q := by
  unfold wX6_comesIn
  refine ref_holds (fun mg' h1 => ?_)
  refine r_knownIn ok hd9 hm hr hn (fun ms' mh' => ?_)
  refine ref_lets (fun ms2 h2 => ?_)
  exact hQ _ _ _ (rfD_holds ok.1.2.1 ok.2.2.1 hr h1 h2)
theorem sim_comes (x : Int32) (ok : okD m k K H D) (hd9 : dd D ≤ 999) (hc : ctC m k K H D kd hd pl st ho be nc nn dy) (hm : rfM m k K H mo) (hr : rfD m k D ms) :
    ∃ r : Int32, (∀ Q : Int32 → (Nat → Int32) → (Nat → Int32) → (Nat → Int32) → (Nat → Int32) → (Nat → Int32) → (Nat → Int32) → Int32 → Int32 → Int32 → Prop, (∀ a b c d e f g h i, Q r a b c d e f g h i) → wX5_comes x kd hd pl st ho be nc nn dy kt ht pt tt ot bt ct ut yt Q) ∧
      (∀ Q : Int32 → (Nat → Int32) → (Nat → Int32) → (Nat → Int32) → Prop, (∀ ms' mh' mg', rfD m k D ms' → Q r ms' mh' mg') → wX6_comes x mo ms mh mg Q) := by
  have hm7 := ok.1.2.1
  have hk6 := ok.2.2.1
  by_cases hx : ix x k
  · obtain ⟨n, n1, rfl⟩ := hx
    refine ⟨cmI (cmf m K H (dP D) (dS D) 60 0 (nx D n)), fun Q hQ => ?_, fun Q hQ => ?_⟩
    · unfold wX5_comes
      rw [hc.2.1, e_isN_T n1 (by omega), ifF (by decide), ← hc.2.1]
      refine s_copy hm7 hk6 hc (fun kd' hd' pl' st' ho' be' hc2 => ?_)
      have v60 : (60 : Int32) = nI 60 := rfl
      rw [v60, hc.1]
      exact s_until ok.1 hc2.2.2.2.1 (by omega) (by omega) (ok.2.2.2.1 n n1) (hc2.2.2.2.2 n n1) (fun ho2 be2 _ _ => hQ _ _ _ _ _ _ _ _ _)
    · unfold wX6_comes
      rw [r_isN_T hm.2.1 n1 (by omega), ifF (by decide)]
      exact r_comesIn ok hd9 hm hr n1 hQ
  · refine ⟨-1, fun Q hQ => ?_, fun Q hQ => ?_⟩
    · unfold wX5_comes
      rw [hc.2.1, e_isN_F hx (by omega), ifT rfl]
      exact hQ _ _ _ _ _ _ _ _ _
    · unfold wX6_comes
      rw [r_isN_F hm.2.1 hx ok.2.1 (by omega), ifT rfl]
      exact hQ _ _ _ hr
/-- the soonest of those that come -/
def fbs (v : Nat → Nat) : Nat → Nat → Int32 → Nat → Int32
  | 0, _, b, _ => b
  | r + 1, i, b, l => if 1 ≤ v i ∧ v i ≤ l then fbs v r (i + 1) (nI i) (v i - 1) else fbs v r (i + 1) b l
theorem cmf_known {P S : Nat → Nat} {r i : Nat} {x : Nat × (Nat → Nat)} (h : x.1 = 9) : cmf m K H P S r i x = i := by
  cases r <;> (unfold cmf; rw [if_pos h])
theorem cmf_pos {P S : Nat → Nat} {r i : Nat} {x : Nat × (Nat → Nat)} (h : ¬ x.1 = 9) (hi : i + 1 < 99) : i + 1 ≤ cmf m K H P S r i x := by
  cases r with
  | zero => unfold cmf; rw [if_neg h]; omega
  | succ r => unfold cmf; rw [if_neg h]; exact cmf_ge m K H P S r (i + 1) _ hi
theorem sim_first (ok : okD m k K H D) (hd9 : dd D ≤ 999) (hc : ctC m k K H D kd hd pl st ho be nc nn dy) (hm : rfM m k K H mo) (hr : rfD m k D ms) :
    ∃ r : Int32, (∀ Q : Int32 → (Nat → Int32) → (Nat → Int32) → (Nat → Int32) → (Nat → Int32) → (Nat → Int32) → (Nat → Int32) → Int32 → Int32 → Int32 → Prop, (∀ a b c d e f g h i, Q r a b c d e f g h i) → wX5_first kd hd pl st ho be nc nn dy kt ht pt tt ot bt Q) ∧
      (∀ Q : Int32 → (Nat → Int32) → (Nat → Int32) → (Nat → Int32) → Prop, (∀ ms' mh' mg', rfD m k D ms' → Q r ms' mh' mg') → wX6_first mo ms mh mg Q) := by
  have hm7 := ok.1.2.1
  have hk6 := ok.2.2.1
  let v : Nat → Nat := fun n => cmf m K H (dP D) (dS D) 60 0 (nx D n)
  refine ⟨fbs v k 0 (-4) 60, fun Q hQ => ?_, fun Q hQ => ?_⟩
  · unfold wX5_first
    refine s_copy hm7 hk6 hc (fun kd' hd' pl' st' ho' be' hc2 => ?_)
    have key : ∀ r i b l ho1 be1, i + r = k → l ≤ 60 → (∀ n, i ≤ n → n < k → ctN m n (dA D n) (dB D n) ho1 be1) → (∀ a b2 c d e f g h i2, Q (fbs v r i b l) a b2 c d e f g h i2) → wX5_first_L19 ho nn kd' hd' pl' st' nc nn dy Q (r + 1) b (nI l) (nI i) ho1 be1 := by
      intro r
      induction r with
      | zero =>
        intro i b l ho1 be1 hi hl hN hQ2
        have hi : i = k := by omega
        subst hi
        unfold wX5_first_L19
        rw [hc.2.1]
        exact ifp (Int32.le_refl _) (hQ2 _ _ _ _ _ _ _ _ _)
      | succ r ih =>
        intro i b l ho1 be1 hi hl hN hQ2
        have hik : i < k := by omega
        unfold wX5_first_L19
        rw [hc.2.1, ifF (by simp (disch := omega) only [zl_0, zl_1, zl_2, zl_3, zl_4, zl_5, zl_6, zl_7, zl_8, zl_9, zl_10, zl_14, zl_16, zl_20, zl_24, zl_32, zl_40, zl_42, zl_44, zl_48, zl_56, zl_57, zl_59, zl_60, zl_61, zl_64, zl_99, zl_100, zl_110, zl_126, zl_128, zl_200, zl_392, zl_999, zl_9999, nI_add, pk_mul, nI_leI, nI_ltI, nI_eq, nI_clamp, vpn, pk_sub]; omega), e_isKnown (by omega) (hc.2.2.2.2 i hik).1 (ok.A hik), nI_1, ← hc.2.1]
        unfold fbs at hQ2
        by_cases h9 : dA D i = 9
        · rw [if_pos h9, ifF (by decide)]
          refine ih (i + 1) b l ho1 be1 (by omega) hl (fun n g1 g2 => hN n (by omega) g2) ?_
          have hv : v i = 0 := cmf_known (x := nx D i) h9
          rw [hv, if_neg (by omega)] at hQ2
          exact hQ2
        · rw [if_neg h9, ifT rfl, hc.1]
          refine s_until (x := nx D i) ok.1 hc2.2.2.2.1 (by omega) hl (ok.2.2.2.1 i hik) (hN i (by omega) hik) (fun ho2 be2 f1 f2 => ?_)
          have hv : 1 ≤ v i := cmf_pos (x := nx D i) (r := 60) (i := 0) h9 (by omega)
          have hlim := cmf_lim m K H (dP D) (dS D) 60 l 0 (nx D i) hl (by omega)
          rw [Nat.zero_add] at hlim
          have hN2 : ∀ n, i + 1 ≤ n → n < k → ctN m n (dA D n) (dB D n) ho2 be2 := by
            intro n g1 g2
            have g := hN n (by omega) g2
            refine ⟨by rw [f1 n (by omega)]; exact g.1, fun c hc3 => ?_⟩
            rw [f2 _ (fun c' hc' => by omega)]
            exact g.2 c hc3
          rw [hlim]
          by_cases hle : v i ≤ l
          · rw [if_pos ⟨hv, hle⟩] at hQ2
            rw [if_pos hle]
            have e4 : cmI (cmf m K H (dP D) (dS D) 60 0 (nx D i)) = nI (v i) := by
              unfold cmI
              rw [if_neg (by show ¬ v i = 99; omega)]
            rw [e4, ifF (nI_ne4 _ (by omega)), nmx]
            have e5 : nI (v i) - 1 = nI (v i - 1) := pk_sub (a := v i) (b := 1) hv
            rw [e5, ← hc.1]
            exact ih (i + 1) (nI i) (v i - 1) ho2 be2 (by omega) (by omega) hN2 hQ2
          · rw [if_neg (by omega)] at hQ2
            rw [if_neg hle]
            rw [ifT (show cmI 99 = -4 from rfl), ← hc.1]
            exact ih (i + 1) b l ho2 be2 (by omega) hl hN2 hQ2
    exact ⟨k + 1, key k 0 (-4) 60 ho' be' (by omega) (by omega) (fun n _ g => hc2.2.2.2.2 n g) hQ⟩
  · have key : ∀ r i b l ms1 mh1 mg1, i + r = k → l ≤ 60 → rfD m k D ms1 → (∀ ms' mh' mg', rfD m k D ms' → Q (fbs v r i b l) ms' mh' mg') → wX6_first_L8 mo Q (r + 1) b (nI (l + 1)) (nI i) ms1 mh1 mg1 := by
      intro r
      induction r with
      | zero =>
        intro i b l ms1 mh1 mg1 hi hl hr1 hQ2
        have hi : i = k := by omega
        subst hi
        unfold wX6_first_L8
        rw [hm.2.1]
        exact ifp (Int32.le_refl _) (hQ2 _ _ _ hr1)
      | succ r ih =>
        intro i b l ms1 mh1 mg1 hi hl hr1 hQ2
        have hik : i < k := by omega
        unfold wX6_first_L8
        rw [hm.2.1, ifF (by simp (disch := omega) only [zl_0, zl_1, zl_2, zl_3, zl_4, zl_5, zl_6, zl_7, zl_8, zl_9, zl_10, zl_14, zl_16, zl_20, zl_24, zl_32, zl_40, zl_42, zl_44, zl_48, zl_56, zl_57, zl_59, zl_60, zl_61, zl_64, zl_99, zl_100, zl_110, zl_126, zl_128, zl_200, zl_392, zl_999, zl_9999, nI_add, pk_mul, nI_leI, nI_ltI, nI_eq, nI_clamp, vpn, pk_sub]; omega)]
        refine r_comesIn ok hd9 hm hr1 hik (fun ms2 mh2 mg2 hr2 => ?_)
        rw [nI_1]
        unfold fbs at hQ2
        have hle := cmf_le m K H (dP D) (dS D) 60 0 (nx D i) (by omega)
        show (cmI (v i) ≤ 0 → _) ∧ (¬ cmI (v i) ≤ 0 → _)
        have hle : v i ≤ 0 + 60 ∨ v i = 99 := hle
        by_cases h0 : v i = 0 ∨ v i = 99
        · rw [ifT (by rcases h0 with g | g <;> (rw [g]; decide))]
          rw [if_neg (by omega)] at hQ2
          exact ih (i + 1) b l ms2 mh2 mg2 (by omega) hl hr2 hQ2
        · have e4 : cmI (v i) = nI (v i) := by
            unfold cmI
            rw [if_neg (by omega)]
          rw [e4, ifF (by simp (disch := omega) only [zl_0, zl_1, zl_2, zl_3, zl_4, zl_5, zl_6, zl_7, zl_8, zl_9, zl_10, zl_14, zl_16, zl_20, zl_24, zl_32, zl_40, zl_42, zl_44, zl_48, zl_56, zl_57, zl_59, zl_60, zl_61, zl_64, zl_99, zl_100, zl_110, zl_126, zl_128, zl_200, zl_392, zl_999, zl_9999, nI_add, pk_mul, nI_leI, nI_ltI, nI_eq, nI_clamp, vpn, pk_sub]; omega)]
          by_cases hl2 : v i ≤ l
          · rw [if_pos ⟨by omega, hl2⟩] at hQ2
            rw [ifF (by simp (disch := omega) only [zl_0, zl_1, zl_2, zl_3, zl_4, zl_5, zl_6, zl_7, zl_8, zl_9, zl_10, zl_14, zl_16, zl_20, zl_24, zl_32, zl_40, zl_42, zl_44, zl_48, zl_56, zl_57, zl_59, zl_60, zl_61, zl_64, zl_99, zl_100, zl_110, zl_126, zl_128, zl_200, zl_392, zl_999, zl_9999, nI_add, pk_mul, nI_leI, nI_ltI, nI_eq, nI_clamp, vpn, pk_sub]; omega)]
            have g := ih (i + 1) (nI i) (v i - 1) ms2 mh2 mg2 (by omega) (by omega) hr2 hQ2
            rw [show v i - 1 + 1 = v i by omega] at g
            exact g
          · rw [if_neg (by omega)] at hQ2
            rw [ifT (by simp (disch := omega) only [zl_0, zl_1, zl_2, zl_3, zl_4, zl_5, zl_6, zl_7, zl_8, zl_9, zl_10, zl_14, zl_16, zl_20, zl_24, zl_32, zl_40, zl_42, zl_44, zl_48, zl_56, zl_57, zl_59, zl_60, zl_61, zl_64, zl_99, zl_100, zl_110, zl_126, zl_128, zl_200, zl_392, zl_999, zl_9999, nI_add, pk_mul, nI_leI, nI_ltI, nI_eq, nI_clamp, vpn, pk_sub]; omega)]
            exact ih (i + 1) b l ms2 mh2 mg2 (by omega) hl hr2 hQ2
    exact ⟨k + 1, key k 0 (-4) 60 ms mh mg (by omega) (by omega) hr hQ⟩
theorem sim_behind (x y z : Int32) (ok : okD m k K H D) (hd9 : dd D ≤ 999) (hc : ctC m k K H D kd hd pl st ho be nc nn dy) (hm : rfM m k K H mo) (hr : rfD m k D ms) :
    ∃ r : Int32, (∀ Q : Int32 → (Nat → Int32) → (Nat → Int32) → (Nat → Int32) → (Nat → Int32) → (Nat → Int32) → (Nat → Int32) → Int32 → Int32 → Int32 → Prop, (∀ a b c d e f g h i, Q r a b c d e f g h i) → wX5_behind x y z kd hd pl st ho be nc nn dy kt ht pt tt ot bt ct ut yt Q) ∧
      (∀ Q : Int32 → (Nat → Int32) → (Nat → Int32) → (Nat → Int32) → Prop, (∀ ms' mh' mg', rfD m k D ms' → Q r ms' mh' mg') → wX6_behind x y z mo ms mh mg Q) := by
  have hm7 := ok.1.2.1
  have hk6 := ok.2.2.1
  by_cases hx : rg x 0 40
  · obtain ⟨d, d0, d1, rfl⟩ := hx
    have h5 : ∀ Q2 : Int32 → Prop, wX5_isIn (nI d) 0 40 Q2 = Q2 1 := fun Q2 => e_isInT (lo := 0) (hi := 40) d0 d1 (by omega)
    have h6 : ∀ Q2 : Int32 → Prop, wX6_in (nI d) 0 40 Q2 = Q2 1 := fun Q2 => r_inT (lo := 0) (hi := 40) d0 d1 (by omega)
    by_cases hy : ix y k
    · obtain ⟨n, n1, rfl⟩ := hy
      have e8 : (8 : Int32) + nI n = nI (8 + n) := nI_add 8 n
      have hnx : ∀ c, (nx (dyN m K H d D) n).1 = dA (dyN m K H d D) n ∧ (nx (dyN m K H d D) n).2 c = dB (dyN m K H d D) n c := fun c => ⟨rfl, rfl⟩
      have okd : okD m k K H (dyN m K H d D) := dyN_ok d D ok (by omega)
      have loop : ∀ (K56 : (Nat → Int32) → (Nat → Int32) → Prop), (∀ ms' mh', rfD m k (dyN m K H d D) ms' → K56 ms' mh') → ∃ f, wX6_behind_L40 (nI d) mo K56 f 0 ms mh := by
        intro K56 hK
        have key : ∀ r i E ms1 mh1, i + r = d → okD m k K H E → dd E + r < 4000 → rfD m k E ms1 → dyN m K H r E = dyN m K H d D → wX6_behind_L40 (nI d) mo K56 (r + 1) (nI i) ms1 mh1 := by
          intro r
          induction r with
          | zero =>
            intro i E ms1 mh1 hi hE hdE hrE he
            have hi : i = d := by omega
            subst hi
            unfold wX6_behind_L40
            have he : E = dyN m K H i D := he
            subst he
            exact ifp (Int32.le_refl _) (hK _ _ hrE)
          | succ r ih =>
            intro i E ms1 mh1 hi hE hdE hrE he
            unfold wX6_behind_L40
            rw [ifF (by simp (disch := omega) only [zl_0, zl_1, zl_2, zl_3, zl_4, zl_5, zl_6, zl_7, zl_8, zl_9, zl_10, zl_14, zl_16, zl_20, zl_24, zl_32, zl_40, zl_42, zl_44, zl_48, zl_56, zl_57, zl_59, zl_60, zl_61, zl_64, zl_99, zl_100, zl_110, zl_126, zl_128, zl_200, zl_392, zl_999, zl_9999, nI_add, pk_mul, nI_leI, nI_ltI, nI_eq, nI_clamp, vpn, pk_sub]; omega)]
            refine ref_passes hE hm hrE (fun ms2 mh2 g => ?_)
            rw [nI_1]
            exact ih (i + 1) (dyD m K H E) ms2 mh2 (by omega) (dyD_ok hE (by omega)) (by show dd E + 1 + r < 4000; omega) g he
        exact ⟨d + 1, key d 0 D ms mh (by omega) ok (by omega) hr rfl⟩
      have cls : ∀ (Q2 : (Nat → Int32) → (Nat → Int32) → (Nat → Int32) → (Nat → Int32) → (Nat → Int32) → (Nat → Int32) → Int32 → Int32 → Int32 → Prop), (∀ a b c e ho' be' g h i, ctN m n (dA (dyN m K H d D) n) (dB (dyN m K H d D) n) ho' be' → Q2 a b c e ho' be' g h i) → wX0_copyFrom kt ht pt tt ot bt kd hd pl st ho be nc nn dy (fun a b c e f g h i j => wX0_liveFor (nI n) (nI d) a b c e f g h (fun f2 g2 => Q2 a b c e f2 g2 h i j)) := by
        intro Q2 hQ2
        refine s_copy hm7 hk6 hc (fun kd' hd' pl' st' ho' be' hc2 => ?_)
        rw [hc.1]
        refine s_liveFor ok.1 hc2.2.2.2.1 (by omega) (by omega) (x := nx D n) (ok.2.2.2.1 n n1) (hc2.2.2.2.2 n n1) (fun ho2 be2 g1 _ _ => ?_)
        rw [← dyN_nx] at g1
        exact hQ2 _ _ _ _ _ _ _ _ _ g1
      by_cases hz : z = -1
      · subst hz
        refine ⟨nI (dA (dyN m K H d D) n), fun Q hQ => ?_, fun Q hQ => ?_⟩
        · unfold wX5_behind
          rw [h5, ifF (by decide), hc.2.1, e_isN_T n1 (by omega), ifF (by decide), ifT rfl, ← hc.2.1]
          refine cls (fun kd_8 hd_9 pl_10 st_11 ho_17 be_18 nc_14 nn_15 dy_16 => _) (fun a b c e ho' be' g h i hN => ?_)
          rw [ifT rfl, e_of (by omega) (by decide), hN.1]
          exact hQ _ _ _ _ _ _ _ _ _
        · unfold wX6_behind
          rw [h6, ifF (by decide), r_isN_T hm.2.1 n1 (by omega), ifF (by decide), ifT rfl]
          unfold wX6_behind_J33
          refine ref_holds (fun mg' g1 => loop _ (fun ms2 mh2 g2 => ?_))
          rw [ifT rfl, e8, nI_clamp (by omega), vpn (by omega), nmx, (g2.2.2.1 n n1).1]
          exact ⟨by omega, ref_lets (fun ms3 g3 => hQ _ _ _ (rfD_holds hm7 hk6 hr g1 g3))⟩
      · by_cases hzc : ix z m
        · obtain ⟨c, c1, rfl⟩ := hzc
          have e1 : ((14 : Int32) + ((7 : Int32) * nI n)) + nI c = nI (14 + 7 * n + c) := by simp (disch := omega) only [zl_0, zl_1, zl_2, zl_3, zl_4, zl_5, zl_6, zl_7, zl_8, zl_9, zl_10, zl_14, zl_16, zl_20, zl_24, zl_32, zl_40, zl_42, zl_44, zl_48, zl_56, zl_57, zl_59, zl_60, zl_61, zl_64, zl_99, zl_100, zl_110, zl_126, zl_128, zl_200, zl_392, zl_999, zl_9999, nI_add, pk_mul, nI_leI, nI_ltI, nI_eq, nI_clamp, vpn, pk_sub]
          refine ⟨nI (dB (dyN m K H d D) n c), fun Q hQ => ?_, fun Q hQ => ?_⟩
          · unfold wX5_behind
            rw [h5, ifF (by decide), hc.2.1, e_isN_T n1 (by omega), ifF (by decide), ifF hz, hc.1, e_isC_T c1 (by omega), ifF (by decide), ← hc.1, ← hc.2.1]
            refine cls (fun kd_8 hd_9 pl_10 st_11 ho_17 be_18 nc_14 nn_15 dy_16 => _) (fun a b c2 e ho' be' g h i hN => ?_)
            rw [ifF hz, e_believes (by omega) (by omega), hN.2 c c1]
            exact hQ _ _ _ _ _ _ _ _ _
          · unfold wX6_behind
            rw [h6, ifF (by decide), r_isN_T hm.2.1 n1 (by omega), ifF (by decide), ifF hz, r_isC_T hm.1 c1 (by omega), ifF (by decide)]
            unfold wX6_behind_J33
            refine ref_holds (fun mg' g1 => loop _ (fun ms2 mh2 g2 => ?_))
            rw [ifF hz, e1, nI_clamp (by omega), vpn (by omega), nmx, (g2.2.2.1 n n1).2 c c1]
            exact ⟨by omega, ref_lets (fun ms3 g3 => hQ _ _ _ (rfD_holds hm7 hk6 hr g1 g3))⟩
        · refine ⟨-1, fun Q hQ => ?_, fun Q hQ => ?_⟩
          · unfold wX5_behind
            rw [h5, ifF (by decide), hc.2.1, e_isN_T n1 (by omega), ifF (by decide), ifF hz, hc.1, e_isC_F hzc (by omega), ifT rfl]
            exact hQ _ _ _ _ _ _ _ _ _
          · unfold wX6_behind
            rw [h6, ifF (by decide), r_isN_T hm.2.1 n1 (by omega), ifF (by decide), ifF hz, r_isC_F hm.1 hzc ok.1.1 (by omega), ifT rfl]
            exact hQ _ _ _ hr
    · refine ⟨-1, fun Q hQ => ?_, fun Q hQ => ?_⟩
      · unfold wX5_behind
        rw [h5, ifF (by decide), hc.2.1, e_isN_F hy (by omega), ifT rfl]
        exact hQ _ _ _ _ _ _ _ _ _
      · unfold wX6_behind
        rw [h6, ifF (by decide), r_isN_F hm.2.1 hy ok.2.1 (by omega), ifT rfl]
        exact hQ _ _ _ hr
  · have h5 : ∀ Q2 : Int32 → Prop, wX5_isIn x 0 40 Q2 = Q2 0 := fun Q2 => e_isInF (lo := 0) (hi := 40) hx (by omega) (by omega)
    have h6 : ∀ Q2 : Int32 → Prop, wX6_in x 0 40 Q2 = Q2 0 := fun Q2 => r_inF (lo := 0) (hi := 40) hx (by omega) (by omega)
    refine ⟨-1, fun Q hQ => ?_, fun Q hQ => ?_⟩
    · unfold wX5_behind
      rw [h5, ifT rfl]
      exact hQ _ _ _ _ _ _ _ _ _
    · unfold wX6_behind
      rw [h6, ifT rfl]
      exact hQ _ _ _ hr
end SIM
