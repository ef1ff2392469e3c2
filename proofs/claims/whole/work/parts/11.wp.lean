/-! DoubtCourt.isIn -/
def wX5_isIn (x0 : Int32) (x1 : Int32) (x2 : Int32) (Q : Int32 → Prop) : Prop := ((x0 < x1 → (Q (0 : Int32))) ∧ (¬ x0 < x1 → ((x2 < x0 → (Q (0 : Int32))) ∧ (¬ x2 < x0 → (Q (1 : Int32))))))

/-! DoubtCourt.hasBit -/
def wX5_hasBit (x0 : Int32) (x1 : Int32) (Q : Int32 → Prop) : Prop := ((x1 < 0 → (Q (0 : Int32))) ∧ (¬ x1 < 0 → ((((x0 >>> (x1 &&& 31)) &&& (1 : Int32)) = 0 → (Q (0 : Int32))) ∧ (¬ ((x0 >>> (x1 &&& 31)) &&& (1 : Int32)) = 0 → (Q (1 : Int32))))))

/-! DoubtCourt.of -/
def wX5_of (x1 : Int32) (f : Nat → Int32) (n : Nat) (Q : Int32 → Prop) : Prop := ((x1 < 0 → (Q (0 : Int32))) ∧ (¬ x1 < 0 → (((nI n) ≤ x1 → (Q (0 : Int32))) ∧ (¬ (nI n) ≤ x1 → (vp_in x1 n ∧ (Q (f x1.toNatClampNeg)))))))

/-! DoubtCourt.put -/
def wX5_put (x1 : Int32) (x2 : Int32) (f : Nat → Int32) (n : Nat) (Q : (Nat → Int32) → Prop) : Prop := ((x1 < 0 → (Q f)) ∧ (¬ x1 < 0 → (((nI n) ≤ x1 → (Q f)) ∧ (¬ (nI n) ≤ x1 → (vp_in x1 n ∧ (Q (upd f x1.toNatClampNeg x2)))))))

/-! DoubtCourt.cutBelief -/
def wX5_cutBelief (x0 : Int32) (Q : Int32 → Prop) : Prop := (Q (if (0 : Int32) < (if x0 < (9 : Int32) then x0 else (9 : Int32)) then (if x0 < (9 : Int32) then x0 else (9 : Int32)) else (0 : Int32)))

/-! DoubtCourt.remainder -/
def wX5_remainder (x0 : Int32) (x1 : Int32) (Q : Int32 → Prop) : Prop := (((1 : Int32) ≤ x1 → (¬ x1 = 0 ∧ (Q (x0 - x0 / x1 * x1)))) ∧ (¬ (1 : Int32) ≤ x1 → (Q (0 : Int32))))

/-! DoubtCourt.commonDivisor -/
def wX5_commonDivisor_L2 (Q : Int32 → Prop) : Nat → Int32 → Int32 → Int32 → Prop
  | 0, _, _, _ => False
  | n_ + 1, x0, x1, x2 => (((100 : Int32) ≤ x2 → (Q x0)) ∧ (¬ (100 : Int32) ≤ x2 → ((x1 ≤ 0 → (Q x0)) ∧ (¬ x1 ≤ 0 → (¬ x1 = 0 ∧ (∀ v_6 : Int32, v_6 = (x0 - x0 / x1 * x1) → (wX5_commonDivisor_L2 Q n_ x1 v_6 (x2 + (1 : Int32)))))))))
def wX5_commonDivisor (x0 : Int32) (x1 : Int32) (Q : Int32 → Prop) : Prop := (∃ n_7 : Nat, wX5_commonDivisor_L2 Q n_7 x0 x1 (0 : Int32))

/-! DoubtCourt.draw -/
def wX5_draw (x0 : Int32) (x1 : Int32) (Q : Int32 → Prop) : Prop := (∀ v_1 : Int64, v_1 = ((((7919 : Int64) * ((x0).toInt64)) + ((6151 : Int64) * ((x1).toInt64))) + (1 : Int64)) → (Q ((((v_1 * v_1) - (v_1 * v_1) / (65521 : Int64) * (65521 : Int64))).toInt32)))

/-! java/lang/Integer.bitCount -/
def wJ6_bitCount_0f7a4 (x0 : Int32) (Q : Int32 → Prop) : Prop := (∀ v_1 : Int32, v_1 = (x0 - ((((x0).toUInt32 >>> (((1 : Int32)).toUInt32 &&& Int32.toUInt32 31)).toInt32) &&& (1431655765 : Int32))) → (∀ v_2 : Int32, v_2 = ((v_1 &&& (858993459 : Int32)) + ((((v_1).toUInt32 >>> (((2 : Int32)).toUInt32 &&& Int32.toUInt32 31)).toInt32) &&& (858993459 : Int32))) → (∀ v_3 : Int32, v_3 = ((v_2 + (((v_2).toUInt32 >>> (((4 : Int32)).toUInt32 &&& Int32.toUInt32 31)).toInt32)) &&& (252645135 : Int32)) → (∀ v_4 : Int32, v_4 = (v_3 + (((v_3).toUInt32 >>> (((8 : Int32)).toUInt32 &&& Int32.toUInt32 31)).toInt32)) → (∀ v_5 : Int32, v_5 = (v_4 + (((v_4).toUInt32 >>> (((16 : Int32)).toUInt32 &&& Int32.toUInt32 31)).toInt32)) → (Q (v_5 &&& (63 : Int32))))))))

/-! DoubtCourt$Court.isCourtier -/
def wX0_isCourtier (x1 : Int32) (nc : Int32) (Q : Int32 → Prop) : Prop := ((x1 < 0 → (Q (0 : Int32))) ∧ (¬ x1 < 0 → ((nc ≤ x1 → (Q (0 : Int32))) ∧ (¬ nc ≤ x1 → (Q (1 : Int32))))))

/-! DoubtCourt$Court.isNews -/
def wX0_isNews (x1 : Int32) (nn : Int32) (Q : Int32 → Prop) : Prop := ((x1 < 0 → (Q (0 : Int32))) ∧ (¬ x1 < 0 → ((nn ≤ x1 → (Q (0 : Int32))) ∧ (¬ nn ≤ x1 → (Q (1 : Int32))))))

/-! DoubtCourt$Court.isKnown -/
def wX0_isKnown (x1 : Int32) (ho : Nat → Int32) (Q : Int32 → Prop) : Prop := (wX5_of x1 ho 6 (fun r_1 => ((r_1 = (9 : Int32) → (Q (1 : Int32))) ∧ (¬ r_1 = (9 : Int32) → (Q (0 : Int32))))))

/-! DoubtCourt$Court.believes -/
def wX0_believes (x1 : Int32) (x2 : Int32) (be : Nat → Int32) (Q : Int32 → Prop) : Prop := (wX5_of ((x2 * (7 : Int32)) + x1) be 42 (fun r_1 => (Q r_1)))

/-! DoubtCourt$Court.setBelief -/
def wX0_setBelief (x1 : Int32) (x2 : Int32) (x3 : Int32) (be : Nat → Int32) (Q : (Nat → Int32) → Prop) : Prop := (wX5_put ((x2 * (7 : Int32)) + x1) x3 be 42 (fun be_1 => (Q be_1)))

/-! DoubtCourt$Court.clear -/
def wX0_clear_L2 (Q : (Nat → Int32) → Int32 → Int32 → Int32 → Prop) : Nat → Int32 → (Nat → Int32) → Prop
  | 0, _, _ => False
  | n_ + 1, x1, be => (((42 : Int32) ≤ x1 → (Q be (0 : Int32) (0 : Int32) (0 : Int32))) ∧ (¬ (42 : Int32) ≤ x1 → (vp_in x1 42 ∧ (wX0_clear_L2 Q n_ (x1 + (1 : Int32)) (upd be x1.toNatClampNeg (0 : Int32))))))
def wX0_clear (be : Nat → Int32) (Q : (Nat → Int32) → Int32 → Int32 → Int32 → Prop) : Prop := (∃ n_3 : Nat, wX0_clear_L2 Q n_3 (0 : Int32) be)

/-! DoubtCourt$Court.copyFrom -/
def wX0_copyFrom (kd : Nat → Int32) (hd : Nat → Int32) (pl : Nat → Int32) (st : Nat → Int32) (ho : Nat → Int32) (be : Nat → Int32) (kd_o : Nat → Int32) (hd_o : Nat → Int32) (pl_o : Nat → Int32) (st_o : Nat → Int32) (ho_o : Nat → Int32) (be_o : Nat → Int32) (nc_o : Int32) (nn_o : Int32) (dy_o : Int32) (Q : (Nat → Int32) → (Nat → Int32) → (Nat → Int32) → (Nat → Int32) → (Nat → Int32) → (Nat → Int32) → Int32 → Int32 → Int32 → Prop) : Prop := (Q (va_cpy kd_o kd 0 0 7) (va_cpy hd_o hd 0 0 7) (va_cpy pl_o pl 0 0 7) (va_cpy st_o st 0 0 7) (va_cpy ho_o ho 0 0 6) (va_cpy be_o be 0 0 42) nc_o nn_o dy_o)

/-! DoubtCourt$Court.addCourtier -/
def wX0_addCourtier (x1 : Int32) (x2 : Int32) (kd : Nat → Int32) (hd : Nat → Int32) (pl : Nat → Int32) (st : Nat → Int32) (nc : Int32) (Q : Int32 → (Nat → Int32) → (Nat → Int32) → (Nat → Int32) → (Nat → Int32) → Int32 → Prop) : Prop := ((nc < (7 : Int32) → (wX5_put nc x1 kd 7 (fun kd_2 => (wX5_put nc x2 hd 7 (fun hd_3 => (wX5_put nc nc pl 7 (fun pl_4 => (wX5_put nc nc st 7 (fun st_5 => (Q (1 : Int32) kd_2 hd_3 pl_4 st_5 (nc + (1 : Int32)))))))))))) ∧ (¬ nc < (7 : Int32) → (Q (0 : Int32) kd hd pl st nc)))

/-! DoubtCourt$Court.addNews -/
def wX0_addNews (x1 : Int32) (ho : Nat → Int32) (nc : Int32) (nn : Int32) (Q : Int32 → (Nat → Int32) → Int32 → Prop) : Prop := (((6 : Int32) ≤ nn → (Q (0 : Int32) ho nn)) ∧ (¬ (6 : Int32) ≤ nn → (wX0_isCourtier x1 nc (fun r_2 => ((r_2 = 0 → (Q (0 : Int32) ho nn)) ∧ (¬ r_2 = 0 → (wX5_put nn x1 ho 6 (fun ho_5 => (Q (1 : Int32) ho_5 (nn + (1 : Int32)))))))))))

/-! DoubtCourt$Court.settleHeeds -/
def wX0_settleHeeds_L2 (nc : Int32) (Q : (Nat → Int32) → Prop) : Nat → Int32 → (Nat → Int32) → Prop
  | 0, _, _ => False
  | n_ + 1, x1, hd => ((nc ≤ x1 → (Q hd)) ∧ (¬ nc ≤ x1 → (wX5_of x1 hd 7 (fun r_10 => ((r_10 = x1 → (wX5_put x1 (-4 : Int32) hd 7 (fun hd_12 => (wX0_settleHeeds_L2 nc Q n_ (x1 + (1 : Int32)) hd_12)))) ∧ (¬ r_10 = x1 → (wX0_isCourtier r_10 nc (fun r_13 => ((r_13 = 0 → (wX5_put x1 (-4 : Int32) hd 7 (fun hd_16 => (wX0_settleHeeds_L2 nc Q n_ (x1 + (1 : Int32)) hd_16)))) ∧ (¬ r_13 = 0 → (wX0_settleHeeds_L2 nc Q n_ (x1 + (1 : Int32)) hd)))))))))))
def wX0_settleHeeds (hd : Nat → Int32) (nc : Int32) (Q : (Nat → Int32) → Prop) : Prop := (∃ n_17 : Nat, wX0_settleHeeds_L2 nc Q n_17 (0 : Int32) hd)

/-! DoubtCourt$Court.doubters -/
def wX0_doubters_L4 (x1 : Int32) (be : Nat → Int32) (nc : Int32) (Q : Int32 → Prop) : Nat → Int32 → Int32 → Prop
  | 0, _, _ => False
  | n_ + 1, x2, x3 => ((nc ≤ x3 → (Q x2)) ∧ (¬ nc ≤ x3 → (wX0_believes x3 x1 be (fun r_6 => (((4 : Int32) < r_6 → (wX0_doubters_L4 x1 be nc Q n_ x2 (x3 + (1 : Int32)))) ∧ (¬ (4 : Int32) < r_6 → (∀ v_8 : Int32, v_8 = (x2 ||| ((1 : Int32) <<< (x3 &&& 31))) → (wX0_doubters_L4 x1 be nc Q n_ v_8 (x3 + (1 : Int32))))))))))
def wX0_doubters (x1 : Int32) (be : Nat → Int32) (nc : Int32) (Q : Int32 → Prop) : Prop := (∃ n_9 : Nat, wX0_doubters_L4 x1 be nc Q n_9 (0 : Int32) (0 : Int32))

/-! DoubtCourt$Court.newsDoubted -/
def wX0_newsDoubted_L4 (x1 : Int32) (be : Nat → Int32) (nn : Int32) (Q : Int32 → Prop) : Nat → Int32 → Int32 → Prop
  | 0, _, _ => False
  | n_ + 1, x2, x3 => ((nn ≤ x3 → (Q x2)) ∧ (¬ nn ≤ x3 → (wX0_believes x1 x3 be (fun r_6 => (((4 : Int32) < r_6 → (wX0_newsDoubted_L4 x1 be nn Q n_ x2 (x3 + (1 : Int32)))) ∧ (¬ (4 : Int32) < r_6 → (∀ v_8 : Int32, v_8 = (x2 ||| ((1 : Int32) <<< (x3 &&& 31))) → (wX0_newsDoubted_L4 x1 be nn Q n_ v_8 (x3 + (1 : Int32))))))))))
def wX0_newsDoubted (x1 : Int32) (be : Nat → Int32) (nn : Int32) (Q : Int32 → Prop) : Prop := (∃ n_9 : Nat, wX0_newsDoubted_L4 x1 be nn Q n_9 (0 : Int32) (0 : Int32))

/-! DoubtCourt$Court.newsHeld -/
def wX0_newsHeld_L4 (x1 : Int32) (ho : Nat → Int32) (nn : Int32) (Q : Int32 → Prop) : Nat → Int32 → Int32 → Prop
  | 0, _, _ => False
  | n_ + 1, x2, x3 => ((nn ≤ x3 → (Q x2)) ∧ (¬ nn ≤ x3 → (wX5_of x3 ho 6 (fun r_6 => ((r_6 = x1 → (∀ v_8 : Int32, v_8 = (x2 ||| ((1 : Int32) <<< (x3 &&& 31))) → (wX0_newsHeld_L4 x1 ho nn Q n_ v_8 (x3 + (1 : Int32))))) ∧ (¬ r_6 = x1 → (wX0_newsHeld_L4 x1 ho nn Q n_ x2 (x3 + (1 : Int32)))))))))
def wX0_newsHeld (x1 : Int32) (ho : Nat → Int32) (nn : Int32) (Q : Int32 → Prop) : Prop := (∃ n_9 : Nat, wX0_newsHeld_L4 x1 ho nn Q n_9 (0 : Int32) (0 : Int32))

/-! DoubtCourt$Court.knownInAll -/
def wX0_knownInAll_L4 (ho : Nat → Int32) (nn : Int32) (Q : Int32 → Prop) : Nat → Int32 → Int32 → Prop
  | 0, _, _ => False
  | n_ + 1, x1, x2 => ((nn ≤ x2 → (Q x1)) ∧ (¬ nn ≤ x2 → (wX0_isKnown x2 ho (fun r_8 => ((r_8 = 0 → (∀ v_11 : Int32, v_11 = (x1 + (0 : Int32)) → (wX0_knownInAll_L4 ho nn Q n_ v_11 (x2 + (1 : Int32))))) ∧ (¬ r_8 = 0 → (∀ v_12 : Int32, v_12 = (x1 + (1 : Int32)) → (wX0_knownInAll_L4 ho nn Q n_ v_12 (x2 + (1 : Int32))))))))))
def wX0_knownInAll (ho : Nat → Int32) (nn : Int32) (Q : Int32 → Prop) : Prop := (∃ n_13 : Nat, wX0_knownInAll_L4 ho nn Q n_13 (0 : Int32) (0 : Int32))

/-! DoubtCourt$Court.beliefsInAll -/
def wX0_beliefsInAll_L14 (x2 : Int32) (be : Nat → Int32) (nc : Int32) (K4 : Int32 → Int32 → Prop) : Nat → Int32 → Int32 → Prop
  | 0, _, _ => False
  | n_ + 1, x1, x3 => ((nc ≤ x3 → (K4 x1 (x2 + (1 : Int32)))) ∧ (¬ nc ≤ x3 → (wX0_believes x3 x2 be (fun r_16 => (∀ v_17 : Int32, v_17 = (x1 + r_16) → (wX0_beliefsInAll_L14 x2 be nc K4 n_ v_17 (x3 + (1 : Int32))))))))
def wX0_beliefsInAll_L4 (be : Nat → Int32) (nc : Int32) (nn : Int32) (Q : Int32 → Prop) : Nat → Int32 → Int32 → Prop
  | 0, _, _ => False
  | n_ + 1, x1, x2 => ((nn ≤ x2 → (Q x1)) ∧ (¬ nn ≤ x2 → (∃ n_20 : Nat, wX0_beliefsInAll_L14 x2 be nc (fun x1_18 x2_19 => (wX0_beliefsInAll_L4 be nc nn Q n_ x1_18 x2_19)) n_20 x1 (0 : Int32))))
def wX0_beliefsInAll (be : Nat → Int32) (nc : Int32) (nn : Int32) (Q : Int32 → Prop) : Prop := (∃ n_21 : Nat, wX0_beliefsInAll_L4 be nc nn Q n_21 (0 : Int32) (0 : Int32))

/-! DoubtCourt$Court.changePlaces -/
def wX0_changePlaces (x1 : Int32) (x2 : Int32) (pl : Nat → Int32) (st : Nat → Int32) (Q : (Nat → Int32) → (Nat → Int32) → Prop) : Prop := (wX5_of x1 pl 7 (fun r_1 => (wX5_of x2 pl 7 (fun r_2 => (wX5_put x1 r_2 pl 7 (fun pl_3 => (wX5_put x2 r_1 pl_3 7 (fun pl_4 => (wX5_of x1 pl_4 7 (fun r_5 => (wX5_put r_5 x1 st 7 (fun st_6 => (wX5_put r_1 x2 st_6 7 (fun st_7 => (Q pl_4 st_7)))))))))))))))

/-! DoubtCourt$Court.goUp -/
def wX0_goUp (x1 : Int32) (pl : Nat → Int32) (st : Nat → Int32) (ho : Nat → Int32) (Q : (Nat → Int32) → Prop) : Prop := (wX5_of x1 ho 6 (fun r_1 => (wX5_of r_1 pl 7 (fun r_2 => ((r_2 = 0 → (wX5_put x1 (9 : Int32) ho 6 (fun ho_6 => (Q ho_6)))) ∧ (¬ r_2 = 0 → (wX5_of (r_2 - (1 : Int32)) st 7 (fun r_4 => (wX5_put x1 r_4 ho 6 (fun ho_5 => (Q ho_5)))))))))))

/-! DoubtCourt$Court.nearest -/
def wX0_nearest_L9 (x1 : Int32) (x2 : Int32) (st : Nat → Int32) (nc : Int32) (Q : Int32 → Prop) : Nat → Int32 → Int32 → Int32 → Prop
  | 0, _, _, _ => False
  | n_ + 1, x3, x4, x5 => ((nc ≤ x5 → (Q x3)) ∧ (¬ nc ≤ x5 → (wX5_of x5 st 7 (fun r_9 => (∀ v_10 : Int32, v_10 = (if 0 ≤ (x5 - x2) then (x5 - x2) else 0 - (x5 - x2)) → (wX5_hasBit x1 r_9 (fun r_11 => ((r_11 = 0 → (wX0_nearest_L9 x1 x2 st nc Q n_ x3 x4 (x5 + (1 : Int32)))) ∧ (¬ r_11 = 0 → ((x4 ≤ v_10 → (wX0_nearest_L9 x1 x2 st nc Q n_ x3 x4 (x5 + (1 : Int32)))) ∧ (¬ x4 ≤ v_10 → (wX0_nearest_L9 x1 x2 st nc Q n_ r_9 v_10 (x5 + (1 : Int32))))))))))))))
def wX0_nearest (x1 : Int32) (x2 : Int32) (st : Nat → Int32) (nc : Int32) (Q : Int32 → Prop) : Prop := (∃ n_15 : Nat, wX0_nearest_L9 x1 x2 st nc Q n_15 (0 : Int32) (14 : Int32) (0 : Int32))

/-! DoubtCourt$Court.move -/
def wX0_move (x1 : Int32) (x2 : Int32) (pl : Nat → Int32) (st : Nat → Int32) (ho : Nat → Int32) (nc : Int32) (Q : (Nat → Int32) → Prop) : Prop := (wX5_of x1 ho 6 (fun r_1 => (wX5_hasBit x2 r_1 (fun r_2 => ((r_2 = 0 → ((x2 = 0 → (Q ho)) ∧ (¬ x2 = 0 → (wX5_of x1 ho 6 (fun r_6 => (wX5_of r_6 pl 7 (fun r_7 => (wX0_nearest x2 r_7 st nc (fun r_8 => (wX5_put x1 r_8 ho 6 (fun ho_9 => (Q ho_9)))))))))))) ∧ (¬ r_2 = 0 → (wX0_goUp x1 pl st ho (fun ho_10 => (Q ho_10)))))))))

/-! DoubtCourt$Court.change -/
def wX0_change (x1 : Int32) (x2 : Int32) (x3 : Int32) (kd : Nat → Int32) (hd : Nat → Int32) (ho : Nat → Int32) (Q : Int32 → Prop) : Prop := (wX5_of x1 hd 7 (fun r_1 => ((r_1 = (-4 : Int32) → (wX5_of x1 kd 7 (fun r_3 => (((r_3.toInt < 0 ∨ 3 < r_3.toInt) → (Q (0 : Int32))) ∧ (r_3 = 0 → (Q (0 : Int32))) ∧ (r_3 = 1 → (Q (0 : Int32))) ∧ (r_3 = 2 → (Q (0 : Int32))) ∧ (r_3 = 3 → (wX5_of x2 ho 6 (fun r_5 => ((r_5 = x1 → (Q (0 : Int32))) ∧ (¬ r_5 = x1 → (Q (-1 : Int32))))))))))) ∧ (¬ r_1 = (-4 : Int32) → (wX5_hasBit x3 r_1 (fun r_7 => ((r_7 = 0 → (wX5_of x1 kd 7 (fun r_14 => (((r_14.toInt < 0 ∨ 3 < r_14.toInt) → (Q (0 : Int32))) ∧ (r_14 = 0 → (Q (1 : Int32))) ∧ (r_14 = 1 → (Q (2 : Int32))) ∧ (r_14 = 2 → (Q (0 : Int32))) ∧ (r_14 = 3 → (wX5_of x2 ho 6 (fun r_16 => ((r_16 = x1 → (Q (0 : Int32))) ∧ (¬ r_16 = x1 → (Q (-1 : Int32))))))))))) ∧ (¬ r_7 = 0 → (wX5_of x1 kd 7 (fun r_10 => (((r_10.toInt < 0 ∨ 3 < r_10.toInt) → (Q (0 : Int32))) ∧ (r_10 = 0 → (Q (0 : Int32))) ∧ (r_10 = 1 → (Q (0 : Int32))) ∧ (r_10 = 2 → (Q (0 : Int32))) ∧ (r_10 = 3 → (wX5_of x2 ho 6 (fun r_12 => ((r_12 = x1 → (Q (0 : Int32))) ∧ (¬ r_12 = x1 → (Q (-1 : Int32))))))))))))))))))

/-! DoubtCourt$Court.spread -/
def wX0_spread_L11 (x1 : Int32) (x2 : Int32) (kd : Nat → Int32) (hd : Nat → Int32) (ho : Nat → Int32) (nc : Int32) (Q : (Nat → Int32) → Prop) : Nat → Int32 → (Nat → Int32) → Prop
  | 0, _, _ => False
  | n_ + 1, x3, be => ((nc ≤ x3 → (Q be)) ∧ (¬ nc ≤ x3 → (wX0_believes x3 x1 be (fun r_10 => (wX0_change x3 x1 x2 kd hd ho (fun r_11 => (wX5_cutBelief (r_10 + r_11) (fun r_12 => (wX0_setBelief x3 x1 r_12 be (fun be_13 => (wX0_spread_L11 x1 x2 kd hd ho nc Q n_ (x3 + (1 : Int32)) be_13)))))))))))
def wX0_spread (x1 : Int32) (x2 : Int32) (kd : Nat → Int32) (hd : Nat → Int32) (ho : Nat → Int32) (be : Nat → Int32) (nc : Int32) (Q : (Nat → Int32) → Prop) : Prop := (wX0_isKnown x1 ho (fun r_1 => ((r_1 = 0 → (∃ n_14 : Nat, wX0_spread_L11 x1 x2 kd hd ho nc Q n_14 (0 : Int32) be)) ∧ (¬ r_1 = 0 → (Q be)))))

/-! DoubtCourt$Court.liveFor -/
def wX0_liveFor_L2 (x1 : Int32) (x2 : Int32) (kd : Nat → Int32) (hd : Nat → Int32) (pl : Nat → Int32) (st : Nat → Int32) (nc : Int32) (Q : (Nat → Int32) → (Nat → Int32) → Prop) : Nat → Int32 → (Nat → Int32) → (Nat → Int32) → Prop
  | 0, _, _, _ => False
  | n_ + 1, x3, ho, be => ((x2 ≤ x3 → (Q ho be)) ∧ (¬ x2 ≤ x3 → (wX0_isKnown x1 ho (fun r_9 => ((r_9 = 0 → (wX0_doubters x1 be nc (fun r_12 => (wX0_move x1 r_12 pl st ho nc (fun ho_13 => (wX0_spread x1 r_12 kd hd ho_13 be nc (fun be_14 => (wX0_liveFor_L2 x1 x2 kd hd pl st nc Q n_ (x3 + (1 : Int32)) ho_13 be_14)))))))) ∧ (¬ r_9 = 0 → (Q ho be)))))))
def wX0_liveFor (x1 : Int32) (x2 : Int32) (kd : Nat → Int32) (hd : Nat → Int32) (pl : Nat → Int32) (st : Nat → Int32) (ho : Nat → Int32) (be : Nat → Int32) (nc : Int32) (Q : (Nat → Int32) → (Nat → Int32) → Prop) : Prop := (∃ n_15 : Nat, wX0_liveFor_L2 x1 x2 kd hd pl st nc Q n_15 (0 : Int32) ho be)

/-! DoubtCourt$Court.live -/
def wX0_live_L2 (kd : Nat → Int32) (hd : Nat → Int32) (pl : Nat → Int32) (st : Nat → Int32) (nc : Int32) (nn : Int32) (dy : Int32) (Q : (Nat → Int32) → (Nat → Int32) → Int32 → Prop) : Nat → Int32 → (Nat → Int32) → (Nat → Int32) → Prop
  | 0, _, _, _ => False
  | n_ + 1, x1, ho, be => ((nn ≤ x1 → (Q ho be (dy + (1 : Int32)))) ∧ (¬ nn ≤ x1 → (wX0_liveFor x1 (1 : Int32) kd hd pl st ho be nc (fun ho_5 be_6 => (wX0_live_L2 kd hd pl st nc nn dy Q n_ (x1 + (1 : Int32)) ho_5 be_6)))))
def wX0_live (kd : Nat → Int32) (hd : Nat → Int32) (pl : Nat → Int32) (st : Nat → Int32) (ho : Nat → Int32) (be : Nat → Int32) (nc : Int32) (nn : Int32) (dy : Int32) (Q : (Nat → Int32) → (Nat → Int32) → Int32 → Prop) : Prop := (∃ n_7 : Nat, wX0_live_L2 kd hd pl st nc nn dy Q n_7 (0 : Int32) ho be)

/-! DoubtCourt$Court.slipLowest -/
def wX0_slipLowest_L2 (pl : Nat → Int32) (st : Nat → Int32) (ho : Nat → Int32) (nn : Int32) (Q : (Nat → Int32) → Prop) : Nat → Int32 → Prop
  | 0, _ => False
  | n_ + 1, x1 => ((nn ≤ x1 → (Q ho)) ∧ (¬ nn ≤ x1 → (wX0_isKnown x1 ho (fun r_7 => ((r_7 = 0 → (wX0_goUp x1 pl st ho (fun ho_10 => (Q ho_10)))) ∧ (¬ r_7 = 0 → (wX0_slipLowest_L2 pl st ho nn Q n_ (x1 + (1 : Int32)))))))))
def wX0_slipLowest (pl : Nat → Int32) (st : Nat → Int32) (ho : Nat → Int32) (nn : Int32) (Q : (Nat → Int32) → Prop) : Prop := (∃ n_11 : Nat, wX0_slipLowest_L2 pl st ho nn Q n_11 (0 : Int32))

/-! DoubtCourt$Court.untilKnown -/
def wX0_untilKnown_L2 (x1 : Int32) (x2 : Int32) (kd : Nat → Int32) (hd : Nat → Int32) (pl : Nat → Int32) (st : Nat → Int32) (nc : Int32) (Q : Int32 → (Nat → Int32) → (Nat → Int32) → Prop) : Nat → Int32 → (Nat → Int32) → (Nat → Int32) → Prop
  | 0, _, _, _ => False
  | n_ + 1, x3, ho, be => ((x2 < x3 → (Q (-4 : Int32) ho be)) ∧ (¬ x2 < x3 → (wX0_isKnown x1 ho (fun r_8 => ((r_8 = 0 → (wX0_liveFor x1 (1 : Int32) kd hd pl st ho be nc (fun ho_11 be_12 => (wX0_untilKnown_L2 x1 x2 kd hd pl st nc Q n_ (x3 + (1 : Int32)) ho_11 be_12)))) ∧ (¬ r_8 = 0 → (Q x3 ho be)))))))
def wX0_untilKnown (x1 : Int32) (x2 : Int32) (kd : Nat → Int32) (hd : Nat → Int32) (pl : Nat → Int32) (st : Nat → Int32) (ho : Nat → Int32) (be : Nat → Int32) (nc : Int32) (Q : Int32 → (Nat → Int32) → (Nat → Int32) → Prop) : Prop := (∃ n_13 : Nat, wX0_untilKnown_L2 x1 x2 kd hd pl st nc Q n_13 (0 : Int32) ho be)

/-! DoubtCourt$Court.obey -/
def wX0_obey (x1 : Int32) (pl : Nat → Int32) (st : Nat → Int32) (ho : Nat → Int32) (be : Nat → Int32) (nc : Int32) (nn : Int32) (Q : (Nat → Int32) → (Nat → Int32) → (Nat → Int32) → (Nat → Int32) → Prop) : Prop := (wX5_remainder (x1 / (8 : Int32)) nc (fun r_1 => (wX5_remainder (x1 / (64 : Int32)) nn (fun r_2 => ((((x1 - x1 / (8 : Int32) * (8 : Int32)).toInt < 0 ∨ 3 < (x1 - x1 / (8 : Int32) * (8 : Int32)).toInt) → (Q pl st ho be)) ∧ ((x1 - x1 / (8 : Int32) * (8 : Int32)) = 0 → (wX0_believes r_1 r_2 be (fun r_4 => (wX5_cutBelief (r_4 + (3 : Int32)) (fun r_5 => (wX0_setBelief r_1 r_2 r_5 be (fun be_6 => (Q pl st ho be_6)))))))) ∧ ((x1 - x1 / (8 : Int32) * (8 : Int32)) = 1 → (wX0_believes r_1 r_2 be (fun r_7 => (wX5_cutBelief (r_7 - (3 : Int32)) (fun r_8 => (wX0_setBelief r_1 r_2 r_8 be (fun be_9 => (Q pl st ho be_9)))))))) ∧ ((x1 - x1 / (8 : Int32) * (8 : Int32)) = 2 → (wX0_isKnown r_2 ho (fun r_10 => ((r_10 = 0 → (wX5_put r_2 r_1 ho 6 (fun ho_13 => (Q pl st ho_13 be)))) ∧ (¬ r_10 = 0 → (Q pl st ho be)))))) ∧ ((x1 - x1 / (8 : Int32) * (8 : Int32)) = 3 → (wX5_remainder (x1 / (64 : Int32)) nc (fun r_14 => (wX0_changePlaces r_1 r_14 pl st (fun pl_15 st_16 => (Q pl_15 st_16 ho be)))))))))))

/-! DoubtCourt$Text.append -/
def wX4_append (x1 : Int32) (tl : Nat → Int32) (tn : Int32) (Q : (Nat → Int32) → Int32 → Prop) : Prop := ((tn < 0 → (Q tl tn)) ∧ (¬ tn < 0 → (((200 : Int32) ≤ tn → (Q tl tn)) ∧ (¬ (200 : Int32) ≤ tn → (vp_in tn 200 ∧ (Q (upd tl tn.toNatClampNeg (vp_nar .char x1)) (tn + (1 : Int32))))))))

/-! DoubtCourt$Text.clear -/
def wX4_clear (Q : Int32 → Prop) : Prop := (Q (0 : Int32))

/-! DoubtCourt$Text.next -/
def wX4_next (tl : Nat → Int32) (tn : Int32) (tc : Int32) (Q : Int32 → Prop) : Prop := ((tc < 0 → (Q (0 : Int32))) ∧ (¬ tc < 0 → ((tn ≤ tc → (Q (0 : Int32))) ∧ (¬ tn ≤ tc → (((200 : Int32) ≤ tc → (Q (0 : Int32))) ∧ (¬ (200 : Int32) ≤ tc → (vp_in tc 200 ∧ (narrow .char (.int (tl tc.toNatClampNeg)) = .int (tl tc.toNatClampNeg) ∧ (Q (tl tc.toNatClampNeg))))))))))

/-! DoubtCourt$Text.takes -/
def wX4_takes (x1 : Int32) (tl : Nat → Int32) (tn : Int32) (tc : Int32) (Q : Int32 → Int32 → Prop) : Prop := (wX4_next tl tn tc (fun r_1 => ((r_1 = x1 → (Q (1 : Int32) (tc + (1 : Int32)))) ∧ (¬ r_1 = x1 → (Q (0 : Int32) tc)))))

/-! DoubtCourt$Text.figure -/
def wX4_figure (tl : Nat → Int32) (tn : Int32) (tc : Int32) (Q : Int32 → Int32 → Prop) : Prop := (wX4_next tl tn tc (fun r_1 => ((r_1 < (48 : Int32) → (Q (-4 : Int32) tc)) ∧ (¬ r_1 < (48 : Int32) → ((r_1 ≤ (57 : Int32) → (Q (r_1 - (48 : Int32)) (tc + (1 : Int32)))) ∧ (¬ r_1 ≤ (57 : Int32) → (Q (-4 : Int32) tc)))))))

/-! DoubtCourt$Text.number -/
def wX4_number (tl : Nat → Int32) (tn : Int32) (tc : Int32) (Q : Int32 → Int32 → Prop) : Prop := (wX4_figure tl tn tc (fun r_1 tc_2 => ((r_1 = (-4 : Int32) → (Q (-4 : Int32) tc_2)) ∧ (¬ r_1 = (-4 : Int32) → (wX4_figure tl tn tc_2 (fun r_4 tc_5 => ((r_4 = (-4 : Int32) → (Q r_1 tc_5)) ∧ (¬ r_4 = (-4 : Int32) → (Q (((10 : Int32) * r_1) + r_4) tc_5)))))))))

/-! DoubtCourt$Text.readCourtier -/
def wX4_readCourtier (tl : Nat → Int32) (tn : Int32) (tc : Int32) (kd : Nat → Int32) (hd : Nat → Int32) (pl : Nat → Int32) (st : Nat → Int32) (nc : Int32) (Q : Int32 → Int32 → (Nat → Int32) → (Nat → Int32) → (Nat → Int32) → (Nat → Int32) → Int32 → Prop) : Prop := (wX4_number tl tn tc (fun r_1 tc_2 => (wX5_isIn r_1 (0 : Int32) (3 : Int32) (fun r_3 => ((r_3 = 0 → (Q (0 : Int32) tc_2 kd hd pl st nc)) ∧ (¬ r_3 = 0 → (wX4_takes (44 : Int32) tl tn tc_2 (fun r_6 tc_7 => ((r_6 = 0 → (Q (0 : Int32) tc_7 kd hd pl st nc)) ∧ (¬ r_6 = 0 → (wX4_number tl tn tc_7 (fun r_10 tc_11 => (wX5_isIn r_10 (0 : Int32) (6 : Int32) (fun r_12 => ((r_12 = 0 → ((r_10 = (9 : Int32) → (wX4_takes (59 : Int32) tl tn tc_11 (fun r_28 tc_29 => ((r_28 = 0 → (Q (0 : Int32) tc_29 kd hd pl st nc)) ∧ (¬ r_28 = 0 → (wX0_addCourtier r_1 r_10 kd hd pl st nc (fun r_32 kd_33 hd_34 pl_35 st_36 nc_37 => ((r_32 = 0 → (Q (0 : Int32) tc_29 kd_33 hd_34 pl_35 st_36 nc_37)) ∧ (¬ r_32 = 0 → (Q (1 : Int32) tc_29 kd_33 hd_34 pl_35 st_36 nc_37)))))))))) ∧ (¬ r_10 = (9 : Int32) → (Q (0 : Int32) tc_11 kd hd pl st nc)))) ∧ (¬ r_12 = 0 → (wX4_takes (59 : Int32) tl tn tc_11 (fun r_15 tc_16 => ((r_15 = 0 → (Q (0 : Int32) tc_16 kd hd pl st nc)) ∧ (¬ r_15 = 0 → (wX0_addCourtier r_1 r_10 kd hd pl st nc (fun r_19 kd_20 hd_21 pl_22 st_23 nc_24 => ((r_19 = 0 → (Q (0 : Int32) tc_16 kd_20 hd_21 pl_22 st_23 nc_24)) ∧ (¬ r_19 = 0 → (Q (1 : Int32) tc_16 kd_20 hd_21 pl_22 st_23 nc_24)))))))))))))))))))))))))

/-! DoubtCourt$Text.readNews -/
def wX4_readNews_L32 (x3 : Int32) (tl : Nat → Int32) (tn : Int32) (ho : Nat → Int32) (nc : Int32) (nn : Int32) (Q : Int32 → Int32 → (Nat → Int32) → (Nat → Int32) → Int32 → Prop) : Nat → Int32 → Int32 → (Nat → Int32) → Prop
  | 0, _, _, _ => False
  | n_ + 1, x4, tc, be => ((nc ≤ x4 → (wX4_takes (59 : Int32) tl tn tc (fun r_21 tc_22 => (Q r_21 tc_22 ho be nn)))) ∧ (¬ nc ≤ x4 → (wX4_figure tl tn tc (fun r_24 tc_25 => ((r_24 = (-4 : Int32) → (Q (0 : Int32) tc_25 ho be nn)) ∧ (¬ r_24 = (-4 : Int32) → (wX0_setBelief x4 x3 r_24 be (fun be_27 => (wX4_readNews_L32 x3 tl tn ho nc nn Q n_ (x4 + (1 : Int32)) tc_25 be_27)))))))))
def wX4_readNews (tl : Nat → Int32) (tn : Int32) (tc : Int32) (ho : Nat → Int32) (be : Nat → Int32) (nc : Int32) (nn : Int32) (Q : Int32 → Int32 → (Nat → Int32) → (Nat → Int32) → Int32 → Prop) : Prop := (wX4_number tl tn tc (fun r_1 tc_2 => (wX4_takes (44 : Int32) tl tn tc_2 (fun r_3 tc_4 => ((r_3 = 0 → (Q (0 : Int32) tc_4 ho be nn)) ∧ (¬ r_3 = 0 → (wX0_addNews r_1 ho nc nn (fun r_7 ho_8 nn_9 => ((r_7 = 0 → (Q (0 : Int32) tc_4 ho_8 be nn_9)) ∧ (¬ r_7 = 0 → (∃ n_28 : Nat, wX4_readNews_L32 nn tl tn ho_8 nc nn_9 Q n_28 (0 : Int32) tc_4 be)))))))))))

/-! DoubtCourt$Text.readItem -/
def wX4_readItem (tl : Nat → Int32) (tn : Int32) (tc : Int32) (kd : Nat → Int32) (hd : Nat → Int32) (pl : Nat → Int32) (st : Nat → Int32) (ho : Nat → Int32) (be : Nat → Int32) (nc : Int32) (nn : Int32) (Q : Int32 → Int32 → (Nat → Int32) → (Nat → Int32) → (Nat → Int32) → (Nat → Int32) → (Nat → Int32) → (Nat → Int32) → Int32 → Int32 → Prop) : Prop := (wX4_takes (99 : Int32) tl tn tc (fun r_1 tc_2 => ((r_1 = 0 → (wX4_takes (110 : Int32) tl tn tc_2 (fun r_5 tc_6 => ((r_5 = 0 → (Q (0 : Int32) tc_6 kd hd pl st ho be nc nn)) ∧ (¬ r_5 = 0 → (wX4_readNews tl tn tc_6 ho be nc nn (fun r_9 tc_10 ho_11 be_12 nn_13 => ((r_9 = 0 → (Q (0 : Int32) tc_10 kd hd pl st ho_11 be_12 nc nn_13)) ∧ (¬ r_9 = 0 → (Q (1 : Int32) tc_10 kd hd pl st ho_11 be_12 nc nn_13)))))))))) ∧ (¬ r_1 = 0 → (wX4_readCourtier tl tn tc_2 kd hd pl st nc (fun r_16 tc_17 kd_18 hd_19 pl_20 st_21 nc_22 => (Q r_16 tc_17 kd_18 hd_19 pl_20 st_21 ho be nc_22 nn)))))))

/-! DoubtCourt$Text.readInto -/
def wX4_readInto_L11 (tl : Nat → Int32) (tn : Int32) (dy : Int32) (Q : Int32 → Int32 → (Nat → Int32) → (Nat → Int32) → (Nat → Int32) → (Nat → Int32) → (Nat → Int32) → (Nat → Int32) → Int32 → Int32 → Int32 → Prop) : Nat → Int32 → Int32 → (Nat → Int32) → (Nat → Int32) → (Nat → Int32) → (Nat → Int32) → (Nat → Int32) → (Nat → Int32) → Int32 → Int32 → Prop
  | 0, _, _, _, _, _, _, _, _, _, _ => False
  | n_ + 1, x2, tc, kd, hd, pl, st, ho, be, nc, nn => (((200 : Int32) ≤ x2 → (wX0_settleHeeds hd nc (fun hd_22 => (Q (-4 : Int32) tc kd hd_22 pl st ho be nc nn dy)))) ∧ (¬ (200 : Int32) ≤ x2 → ((tn ≤ tc → (wX0_settleHeeds hd nc (fun hd_24 => (Q (-4 : Int32) tc kd hd_24 pl st ho be nc nn dy)))) ∧ (¬ tn ≤ tc → (wX4_readItem tl tn tc kd hd pl st ho be nc nn (fun r_25 tc_26 kd_27 hd_28 pl_29 st_30 ho_31 be_32 nc_33 nn_34 => ((r_25 = 0 → (Q tc tc_26 kd_27 hd_28 pl_29 st_30 ho_31 be_32 nc_33 nn_34 dy)) ∧ (¬ r_25 = 0 → (wX4_readInto_L11 tl tn dy Q n_ (x2 + (1 : Int32)) tc_26 kd_27 hd_28 pl_29 st_30 ho_31 be_32 nc_33 nn_34)))))))))
def wX4_readInto (tl : Nat → Int32) (tn : Int32) (kd : Nat → Int32) (hd : Nat → Int32) (pl : Nat → Int32) (st : Nat → Int32) (ho : Nat → Int32) (be : Nat → Int32) (Q : Int32 → Int32 → (Nat → Int32) → (Nat → Int32) → (Nat → Int32) → (Nat → Int32) → (Nat → Int32) → (Nat → Int32) → Int32 → Int32 → Int32 → Prop) : Prop := (wX0_clear be (fun be_1 nc_2 nn_3 dy_4 => (∃ n_37 : Nat, wX4_readInto_L11 tl tn dy_4 Q n_37 (0 : Int32) (0 : Int32) kd hd pl st ho be_1 nc_2 nn_3)))

/-! DoubtCourt$Sightings.clear -/
def wX3_clear (Q : Int32 → Prop) : Prop := (Q (0 : Int32))

/-! DoubtCourt$Sightings.add -/
def wX3_add (x1 : Int32) (x2 : Int32) (sw : Nat → Int32) (sn : Nat → Int32) (su : Int32) (Q : (Nat → Int32) → (Nat → Int32) → Int32 → Prop) : Prop := (wX5_put su x1 sw 6 (fun sw_1 => (wX5_put su x2 sn 6 (fun sn_2 => (Q sw_1 sn_2 (su + (1 : Int32)))))))

/-! DoubtCourt$Sightings.agrees -/
def wX3_agrees_L2 (x1 : Int32) (x2 : Int32) (sw : Nat → Int32) (sn : Nat → Int32) (su : Int32) (Q : Int32 → Prop) : Nat → Int32 → Prop
  | 0, _ => False
  | n_ + 1, x3 => ((su ≤ x3 → (Q (1 : Int32))) ∧ (¬ su ≤ x3 → (wX5_of x3 sn 6 (fun r_7 => ((r_7 = x1 → (wX5_of x3 sw 6 (fun r_9 => ((r_9 = x2 → (wX3_agrees_L2 x1 x2 sw sn su Q n_ (x3 + (1 : Int32)))) ∧ (¬ r_9 = x2 → (Q (0 : Int32))))))) ∧ (¬ r_7 = x1 → (wX3_agrees_L2 x1 x2 sw sn su Q n_ (x3 + (1 : Int32)))))))))
def wX3_agrees (x1 : Int32) (x2 : Int32) (sw : Nat → Int32) (sn : Nat → Int32) (su : Int32) (Q : Int32 → Prop) : Prop := (∃ n_11 : Nat, wX3_agrees_L2 x1 x2 sw sn su Q n_11 (0 : Int32))

/-! DoubtCourt$Sightings.wouldBeSo -/
def wX3_wouldBeSo_L2 (x2 : Int32) (sw : Nat → Int32) (sn : Nat → Int32) (su : Int32) (kd : Nat → Int32) (hd : Nat → Int32) (pl : Nat → Int32) (st : Nat → Int32) (nc : Int32) (Q : Int32 → (Nat → Int32) → (Nat → Int32) → Prop) : Nat → Int32 → (Nat → Int32) → (Nat → Int32) → Prop
  | 0, _, _, _ => False
  | n_ + 1, x3, ho, be => (((20 : Int32) < x3 → (Q (1 : Int32) ho be)) ∧ (¬ (20 : Int32) < x3 → (wX5_of x2 ho 6 (fun r_9 => (wX3_agrees x3 r_9 sw sn su (fun r_10 => ((r_10 = 0 → (Q (0 : Int32) ho be)) ∧ (¬ r_10 = 0 → (wX0_liveFor x2 (1 : Int32) kd hd pl st ho be nc (fun ho_13 be_14 => (wX3_wouldBeSo_L2 x2 sw sn su kd hd pl st nc Q n_ (x3 + (1 : Int32)) ho_13 be_14)))))))))))
def wX3_wouldBeSo (x2 : Int32) (sw : Nat → Int32) (sn : Nat → Int32) (su : Int32) (kd : Nat → Int32) (hd : Nat → Int32) (pl : Nat → Int32) (st : Nat → Int32) (ho : Nat → Int32) (be : Nat → Int32) (nc : Int32) (Q : Int32 → (Nat → Int32) → (Nat → Int32) → Prop) : Prop := (∃ n_15 : Nat, wX3_wouldBeSo_L2 x2 sw sn su kd hd pl st nc Q n_15 (0 : Int32) ho be)

/-! DoubtCourt$Offices.mostFrom -/
def wX1_mostFrom (x1 : Int32) (x2 : Int32) (om : Nat → Int32) (Q : Int32 → Prop) : Prop := (wX5_of ((x1 * (128 : Int32)) + x2) om 896 (fun r_1 => (Q r_1)))

/-! DoubtCourt$Offices.takers -/
def wX1_takers (x2 : Int32) (ho : Nat → Int32) (be : Nat → Int32) (nc : Int32) (Q : Int32 → Prop) : Prop := (wX0_isKnown x2 ho (fun r_1 => ((r_1 = 0 → (wX0_doubters x2 be nc (fun r_4 => (Q r_4)))) ∧ (¬ r_1 = 0 → (Q (0 : Int32))))))

/-! DoubtCourt$Offices.best -/
def wX1_best_L13 (x1 : Int32) (x2 : Int32) (x3 : Int32) (om : Nat → Int32) (Q : Int32 → Prop) : Nat → Int32 → Int32 → Prop
  | 0, _, _ => False
  | n_ + 1, x4, x5 => (((7 : Int32) ≤ x5 → (Q x4)) ∧ (¬ (7 : Int32) ≤ x5 → (wX5_hasBit (x3 &&& (x2 ^^^ (-1 : Int32))) x5 (fun r_9 => ((r_9 = 0 → (wX1_best_L13 x1 x2 x3 om Q n_ x4 (x5 + (1 : Int32)))) ∧ (¬ r_9 = 0 → (wX1_mostFrom (x1 + (1 : Int32)) (x2 ||| ((1 : Int32) <<< (x5 &&& 31))) om (fun r_12 => (∀ v_13 : Int32, v_13 = (if x4 < ((1 : Int32) + r_12) then ((1 : Int32) + r_12) else x4) → (wX1_best_L13 x1 x2 x3 om Q n_ v_13 (x5 + (1 : Int32))))))))))))
def wX1_best (x1 : Int32) (x2 : Int32) (x3 : Int32) (om : Nat → Int32) (Q : Int32 → Prop) : Prop := (wX1_mostFrom (x1 + (1 : Int32)) x2 om (fun r_1 => (∃ n_14 : Nat, wX1_best_L13 x1 x2 x3 om Q n_14 r_1 (0 : Int32))))

/-! DoubtCourt$Offices.choice -/
def wX1_choice_L3 (x1 : Int32) (x2 : Int32) (x3 : Int32) (om : Nat → Int32) (Q : Int32 → Prop) : Nat → Int32 → Prop
  | 0, _ => False
  | n_ + 1, x4 => (((7 : Int32) ≤ x4 → (Q (-4 : Int32))) ∧ (¬ (7 : Int32) ≤ x4 → (wX5_hasBit (x3 &&& (x2 ^^^ (-1 : Int32))) x4 (fun r_9 => ((r_9 = 0 → (wX1_choice_L3 x1 x2 x3 om Q n_ (x4 + (1 : Int32)))) ∧ (¬ r_9 = 0 → (wX1_mostFrom (x1 + (1 : Int32)) (x2 ||| ((1 : Int32) <<< (x4 &&& 31))) om (fun r_12 => (wX1_mostFrom x1 x2 om (fun r_13 => ((((1 : Int32) + r_12) = r_13 → (Q x4)) ∧ (¬ ((1 : Int32) + r_12) = r_13 → (wX1_choice_L3 x1 x2 x3 om Q n_ (x4 + (1 : Int32)))))))))))))))
def wX1_choice (x1 : Int32) (x2 : Int32) (x3 : Int32) (om : Nat → Int32) (Q : Int32 → Prop) : Prop := (∃ n_15 : Nat, wX1_choice_L3 x1 x2 x3 om Q n_15 (0 : Int32))

/-! DoubtCourt$Offices.weigh -/
def wX1_weigh_L2 (nn : Int32) (K33 : (Nat → Int32) → Prop) : Nat → Int32 → (Nat → Int32) → Prop
  | 0, _, _ => False
  | n_ + 1, x2, om => (((128 : Int32) ≤ x2 → (K33 om)) ∧ (¬ (128 : Int32) ≤ x2 → (wX5_put ((nn * (128 : Int32)) + x2) (0 : Int32) om 896 (fun om_4 => (wX1_weigh_L2 nn K33 n_ (x2 + (1 : Int32)) om_4)))))
def wX1_weigh_L54 (x2 : Int32) (x3 : Int32) (K40 : Int32 → (Nat → Int32) → Prop) : Nat → Int32 → (Nat → Int32) → Prop
  | 0, _, _ => False
  | n_ + 1, x4, om => (((128 : Int32) ≤ x4 → (K40 (x2 + (-1 : Int32)) om)) ∧ (¬ (128 : Int32) ≤ x4 → (wX1_best x2 x4 x3 om (fun r_24 => (wX5_put ((x2 * (128 : Int32)) + x4) r_24 om 896 (fun om_25 => (wX1_weigh_L54 x2 x3 K40 n_ (x4 + (1 : Int32)) om_25)))))))
def wX1_weigh_L40 (ho : Nat → Int32) (be : Nat → Int32) (nc : Int32) (Q : (Nat → Int32) → Prop) : Nat → Int32 → (Nat → Int32) → Prop
  | 0, _, _ => False
  | n_ + 1, x2, om => ((x2 < 0 → (Q om)) ∧ (¬ x2 < 0 → (wX1_takers x2 ho be nc (fun r_19 => (∃ n_28 : Nat, wX1_weigh_L54 x2 r_19 (fun x2_26 om_27 => (wX1_weigh_L40 ho be nc Q n_ x2_26 om_27)) n_28 (0 : Int32) om)))))
def wX1_weigh (om : Nat → Int32) (ho : Nat → Int32) (be : Nat → Int32) (nc : Int32) (nn : Int32) (Q : (Nat → Int32) → Prop) : Prop := (∃ n_30 : Nat, wX1_weigh_L2 nn (fun om_5 => (∀ v_6 : Int32, v_6 = (nn - (1 : Int32)) → (∃ n_29 : Nat, wX1_weigh_L40 ho be nc Q n_29 v_6 om_5))) n_30 (0 : Int32) om)

/-! DoubtCourt$Offices.receiver -/
def wX1_receiver_L9 (x2 : Int32) (om : Nat → Int32) (ho : Nat → Int32) (be : Nat → Int32) (nc : Int32) (nn : Int32) (Q : Int32 → Prop) : Nat → Int32 → Int32 → Int32 → Prop
  | 0, _, _, _ => False
  | n_ + 1, x3, x4, x5 => ((x2 < x5 → (Q x4)) ∧ (¬ x2 < x5 → ((nn ≤ x5 → (Q x4)) ∧ (¬ nn ≤ x5 → (wX1_takers x5 ho be nc (fun r_9 => (wX1_choice x5 x3 r_9 om (fun r_10 => ((r_10 = (-4 : Int32) → (wX1_receiver_L9 x2 om ho be nc nn Q n_ x3 r_10 (x5 + (1 : Int32)))) ∧ (¬ r_10 = (-4 : Int32) → (∀ v_12 : Int32, v_12 = (x3 ||| ((1 : Int32) <<< (r_10 &&& 31))) → (wX1_receiver_L9 x2 om ho be nc nn Q n_ v_12 r_10 (x5 + (1 : Int32))))))))))))))
def wX1_receiver (x2 : Int32) (om : Nat → Int32) (ho : Nat → Int32) (be : Nat → Int32) (nc : Int32) (nn : Int32) (Q : Int32 → Prop) : Prop := (∃ n_13 : Nat, wX1_receiver_L9 x2 om ho be nc nn Q n_13 (0 : Int32) (-4 : Int32) (0 : Int32))

/-! DoubtCourtModel.in -/
def wX6_in (x0 : Int32) (x1 : Int32) (x2 : Int32) (Q : Int32 → Prop) : Prop := ((x0 < x1 → (Q (0 : Int32))) ∧ (¬ x0 < x1 → ((x2 < x0 → (Q (0 : Int32))) ∧ (¬ x2 < x0 → (Q (1 : Int32))))))

/-! DoubtCourtModel.isCourtier -/
def wX6_isCourtier (x1 : Int32) (mo : Nat → Int32) (Q : Int32 → Prop) : Prop := (wX6_in x1 (0 : Int32) ((mo 0) - (1 : Int32)) (fun r_1 => (Q r_1)))

/-! DoubtCourtModel.isNews -/
def wX6_isNews (x1 : Int32) (mo : Nat → Int32) (Q : Int32 → Prop) : Prop := (wX6_in x1 (0 : Int32) ((mo 1) - (1 : Int32)) (fun r_1 => (Q r_1)))

/-! DoubtCourtModel.write -/
def wX6_write (x1 : Int32) (mt : Nat → Int32) (my : Int32) (Q : Int32 → (Nat → Int32) → Int32 → Prop) : Prop := (wX6_in x1 (32 : Int32) (126 : Int32) (fun r_1 => ((r_1 = 0 → (Q (-1 : Int32) mt my)) ∧ (¬ r_1 = 0 → ((my = (200 : Int32) → (Q (-3 : Int32) mt my)) ∧ (¬ my = (200 : Int32) → (vp_in my 200 ∧ (Q (my + (1 : Int32)) (upd mt my.toNatClampNeg x1) (my + (1 : Int32))))))))))

/-! DoubtCourtModel.wipe -/
def wX6_wipe (my : Int32) (Q : Int32 → Int32 → Prop) : Prop := (Q my (0 : Int32))

/-! DoubtCourtModel.letterAt -/
def wX6_letterAt (x1 : Int32) (mt : Nat → Int32) (my : Int32) (Q : Int32 → Prop) : Prop := ((my ≤ x1 → (Q (-1 : Int32))) ∧ (¬ my ≤ x1 → (vp_in x1 200 ∧ (Q (mt x1.toNatClampNeg)))))

/-! DoubtCourtModel.isFigure -/
def wX6_isFigure (x0 : Int32) (Q : Int32 → Prop) : Prop := (wX6_in x0 (48 : Int32) (57 : Int32) (fun r_1 => (Q r_1)))

/-! DoubtCourtModel.number -/
def wX6_number (x1 : Int32) (x2 : Int32) (x3 : Int32) (mt : Nat → Int32) (my : Int32) (ma : Int32) (Q : Int32 → Int32 → Prop) : Prop := (wX6_letterAt ma mt my (fun r_1 => (wX6_isFigure r_1 (fun r_2 => ((r_2 = 0 → (Q (-1 : Int32) ma)) ∧ (¬ r_2 = 0 → (wX6_letterAt ma mt my (fun r_5 => (∀ v_6 : Int32, v_6 = (r_5 - (48 : Int32)) → (wX6_letterAt (ma + (1 : Int32)) mt my (fun r_7 => (wX6_isFigure r_7 (fun r_8 => ((r_8 = 0 → (wX6_in v_6 x1 x2 (fun r_11 => ((r_11 = 0 → (Q (-1 : Int32) ((ma + (1 : Int32)) + (1 : Int32)))) ∧ (¬ r_11 = 0 → (wX6_letterAt (ma + (1 : Int32)) mt my (fun r_14 => ((r_14 = x3 → (Q v_6 ((ma + (1 : Int32)) + (1 : Int32)))) ∧ (¬ r_14 = x3 → (Q (-1 : Int32) ((ma + (1 : Int32)) + (1 : Int32)))))))))))) ∧ (¬ r_8 = 0 → (wX6_letterAt (ma + (1 : Int32)) mt my (fun r_16 => (∀ v_17 : Int32, v_17 = ((((10 : Int32) * v_6) + r_16) - (48 : Int32)) → (wX6_in v_17 x1 x2 (fun r_18 => ((r_18 = 0 → (Q (-1 : Int32) (((ma + (1 : Int32)) + (1 : Int32)) + (1 : Int32)))) ∧ (¬ r_18 = 0 → (wX6_letterAt ((ma + (1 : Int32)) + (1 : Int32)) mt my (fun r_21 => ((r_21 = x3 → (Q v_17 (((ma + (1 : Int32)) + (1 : Int32)) + (1 : Int32)))) ∧ (¬ r_21 = x3 → (Q (-1 : Int32) (((ma + (1 : Int32)) + (1 : Int32)) + (1 : Int32)))))))))))))))))))))))))))))

/-! DoubtCourtModel.begins -/
def wX6_begins_L2 (K21 : (Nat → Int32) → Prop) : Nat → Int32 → (Nat → Int32) → Prop
  | 0, _, _ => False
  | n_ + 1, x1, md => (((16 : Int32) ≤ x1 → (K21 md)) ∧ (¬ (16 : Int32) ≤ x1 → (vp_in x1 16 ∧ (wX6_begins_L2 K21 n_ (x1 + (1 : Int32)) (upd md x1.toNatClampNeg (0 : Int32))))))
def wX6_begins_L23 (md : Nat → Int32) (Q : (Nat → Int32) → (Nat → Int32) → Prop) : Nat → Int32 → (Nat → Int32) → Prop
  | 0, _, _ => False
  | n_ + 1, x1, mb => (((56 : Int32) ≤ x1 → (Q md mb)) ∧ (¬ (56 : Int32) ≤ x1 → (vp_in x1 56 ∧ (wX6_begins_L23 md Q n_ (x1 + (1 : Int32)) (upd mb x1.toNatClampNeg (0 : Int32))))))
def wX6_begins (md : Nat → Int32) (mb : Nat → Int32) (Q : (Nat → Int32) → (Nat → Int32) → Prop) : Prop := (∃ n_7 : Nat, wX6_begins_L2 (fun md_3 => (∃ n_6 : Nat, wX6_begins_L23 md_3 Q n_6 (0 : Int32) mb)) n_7 (0 : Int32) md)

/-! DoubtCourtModel.stands -/
def wX6_stands (x1 : Int32) (x2 : Int32) (md : Nat → Int32) (mb : Nat → Int32) (Q : (Nat → Int32) → (Nat → Int32) → Prop) : Prop := (∀ v_1 : Int32, v_1 = (md 0) → (vp_in ((2 : Int32) + v_1) 16 ∧ (vp_in ((9 : Int32) + v_1) 16 ∧ (vp_in ((1 : Int32) + v_1) 56 ∧ (Q (upd (upd (upd md (((2 : Int32) + v_1).toNatClampNeg) x1) (((9 : Int32) + v_1).toNatClampNeg) x2) 0 (((upd (upd md (((2 : Int32) + v_1).toNatClampNeg) x1) (((9 : Int32) + v_1).toNatClampNeg) x2) 0) + (1 : Int32))) (upd mb (((1 : Int32) + v_1).toNatClampNeg) v_1))))))

/-! DoubtCourtModel.isTold -/
def wX6_isTold_L20 (x3 : Int32) (K58 : (Nat → Int32) → Prop) : Nat → Int32 → Int32 → (Nat → Int32) → Prop
  | 0, _, _, _ => False
  | n_ + 1, x4, x5, mb => ((x5 < 0 → (K58 mb)) ∧ (¬ x5 < 0 → (vp_in (((14 : Int32) + ((7 : Int32) * x3)) + x5) 56 ∧ (∀ v_6 : Int32, v_6 = (x4 / (10 : Int32)) → (wX6_isTold_L20 x3 K58 n_ v_6 (x5 + (-1 : Int32)) (upd mb ((((14 : Int32) + ((7 : Int32) * x3)) + x5).toNatClampNeg) (x4 - x4 / (10 : Int32) * (10 : Int32))))))))
def wX6_isTold (x1 : Int32) (x2 : Int32) (md : Nat → Int32) (mb : Nat → Int32) (Q : (Nat → Int32) → (Nat → Int32) → Prop) : Prop := (∀ v_1 : Int32, v_1 = (md 1) → (∀ v_2 : Int32, v_2 = ((md 0) - (1 : Int32)) → (∃ n_8 : Nat, wX6_isTold_L20 v_1 (fun mb_7 => (vp_in ((8 : Int32) + v_1) 56 ∧ (Q (upd md 1 ((md 1) + (1 : Int32))) (upd mb_7 (((8 : Int32) + v_1).toNatClampNeg) x1)))) n_8 x2 v_2 mb)))

/-! DoubtCourtModel.readsCourtier -/
def wX6_readsCourtier (mt : Nat → Int32) (my : Int32) (md : Nat → Int32) (mb : Nat → Int32) (ma : Int32) (Q : Int32 → (Nat → Int32) → (Nat → Int32) → Int32 → Prop) : Prop := (wX6_number (0 : Int32) (3 : Int32) (44 : Int32) mt my ma (fun r_1 ma_2 => ((0 ≤ r_1 → (wX6_number (0 : Int32) (9 : Int32) (59 : Int32) mt my ma_2 (fun r_4 ma_5 => ((r_4 < 0 → (Q (0 : Int32) md mb ma_5)) ∧ (¬ r_4 < 0 → ((r_4 = (7 : Int32) → (Q (0 : Int32) md mb ma_5)) ∧ (¬ r_4 = (7 : Int32) → ((r_4 = (8 : Int32) → (Q (0 : Int32) md mb ma_5)) ∧ (¬ r_4 = (8 : Int32) → (((md 0) = (7 : Int32) → (Q (0 : Int32) md mb ma_5)) ∧ (¬ (md 0) = (7 : Int32) → (wX6_stands r_1 r_4 md mb (fun md_10 mb_11 => (Q (1 : Int32) md_10 mb_11 ma_5)))))))))))))) ∧ (¬ 0 ≤ r_1 → (Q (0 : Int32) md mb ma_2)))))

/-! DoubtCourtModel.readsNews -/
def wX6_readsNews_L37 (mt : Nat → Int32) (my : Int32) (md : Nat → Int32) (mb : Nat → Int32) (K96 : Int32 → Int32 → Prop) (Q : Int32 → (Nat → Int32) → (Nat → Int32) → Int32 → Prop) : Nat → Int32 → Int32 → Int32 → Prop
  | 0, _, _, _ => False
  | n_ + 1, x2, x3, ma => (((md 0) ≤ x3 → (K96 x2 ma)) ∧ (¬ (md 0) ≤ x3 → (wX6_letterAt ma mt my (fun r_13 => (wX6_isFigure r_13 (fun r_14 => ((r_14 = 0 → (Q (0 : Int32) md mb ma)) ∧ (¬ r_14 = 0 → (wX6_letterAt ma mt my (fun r_17 => (∀ v_18 : Int32, v_18 = ((((10 : Int32) * x2) + r_17) - (48 : Int32)) → (wX6_readsNews_L37 mt my md mb K96 Q n_ v_18 (x3 + (1 : Int32)) (ma + (1 : Int32))))))))))))))
def wX6_readsNews (mt : Nat → Int32) (my : Int32) (md : Nat → Int32) (mb : Nat → Int32) (ma : Int32) (Q : Int32 → (Nat → Int32) → (Nat → Int32) → Int32 → Prop) : Prop := (wX6_number (0 : Int32) ((md 0) - (1 : Int32)) (44 : Int32) mt my ma (fun r_1 ma_2 => ((r_1 < 0 → (Q (0 : Int32) md mb ma_2)) ∧ (¬ r_1 < 0 → (((md 1) = (6 : Int32) → (Q (0 : Int32) md mb ma_2)) ∧ (¬ (md 1) = (6 : Int32) → (∃ n_25 : Nat, wX6_readsNews_L37 mt my md mb (fun x2_19 ma_20 => (wX6_letterAt ma_20 mt my (fun r_21 => ((r_21 = (59 : Int32) → (wX6_isTold r_1 x2_19 md mb (fun md_23 mb_24 => (Q (1 : Int32) md_23 mb_24 (ma_20 + (1 : Int32)))))) ∧ (¬ r_21 = (59 : Int32) → (Q (0 : Int32) md mb ma_20)))))) Q n_25 (0 : Int32) (0 : Int32) ma_2)))))))

/-! DoubtCourtModel.readsAll -/
def wX6_readsAll_L9 (mt : Nat → Int32) (my : Int32) (Q : Int32 → (Nat → Int32) → (Nat → Int32) → Int32 → Prop) : Nat → (Nat → Int32) → (Nat → Int32) → Int32 → Prop
  | 0, _, _, _ => False
  | n_ + 1, md, mb, ma => ((my ≤ ma → (Q (-4 : Int32) md mb ma)) ∧ (¬ my ≤ ma → (vp_in ma 200 ∧ (∀ v_20 : Int32, v_20 = (mt ma.toNatClampNeg) → ((v_20 = (99 : Int32) → (wX6_readsCourtier mt my md mb (ma + (1 : Int32)) (fun r_29 md_30 mb_31 ma_32 => ((r_29 = 0 → (Q ma md_30 mb_31 ma_32)) ∧ (¬ r_29 = 0 → (wX6_readsAll_L9 mt my Q n_ md_30 mb_31 ma_32)))))) ∧ (¬ v_20 = (99 : Int32) → ((v_20 = (110 : Int32) → (wX6_readsNews mt my md mb (ma + (1 : Int32)) (fun r_23 md_24 mb_25 ma_26 => ((r_23 = 0 → (Q ma md_24 mb_25 ma_26)) ∧ (¬ r_23 = 0 → (wX6_readsAll_L9 mt my Q n_ md_24 mb_25 ma_26)))))) ∧ (¬ v_20 = (110 : Int32) → (Q ma md mb (ma + (1 : Int32)))))))))))
def wX6_readsAll (mt : Nat → Int32) (my : Int32) (md : Nat → Int32) (mb : Nat → Int32) (Q : Int32 → (Nat → Int32) → (Nat → Int32) → Int32 → Prop) : Prop := (wX6_begins md mb (fun md_1 mb_2 => (∃ n_35 : Nat, wX6_readsAll_L9 mt my Q n_35 md_1 mb_2 (0 : Int32))))

/-! DoubtCourtModel.fault -/
def wX6_fault (mt : Nat → Int32) (my : Int32) (md : Nat → Int32) (mb : Nat → Int32) (Q : Int32 → (Nat → Int32) → (Nat → Int32) → Int32 → Prop) : Prop := (wX6_readsAll mt my md mb (fun r_1 md_2 mb_3 ma_4 => (Q r_1 md_2 mb_3 ma_4)))

/-! DoubtCourtModel.lays -/
def wX6_lays_L2 (md : Nat → Int32) (K26 : (Nat → Int32) → Prop) : Nat → Int32 → (Nat → Int32) → Prop
  | 0, _, _ => False
  | n_ + 1, x1, mo => (((16 : Int32) ≤ x1 → (K26 mo)) ∧ (¬ (16 : Int32) ≤ x1 → (vp_in x1 16 ∧ (vp_in x1 16 ∧ (wX6_lays_L2 md K26 n_ (x1 + (1 : Int32)) (upd mo x1.toNatClampNeg (md x1.toNatClampNeg)))))))
def wX6_lays_L28 (mo : Nat → Int32) (mb : Nat → Int32) (Q : (Nat → Int32) → (Nat → Int32) → Int32 → Int32 → Int32 → Prop) : Nat → Int32 → (Nat → Int32) → Prop
  | 0, _, _ => False
  | n_ + 1, x1, ms => (((56 : Int32) ≤ x1 → (Q mo ms (0 : Int32) (0 : Int32) (0 : Int32))) ∧ (¬ (56 : Int32) ≤ x1 → (vp_in x1 56 ∧ (vp_in x1 56 ∧ (wX6_lays_L28 mo mb Q n_ (x1 + (1 : Int32)) (upd ms x1.toNatClampNeg (mb x1.toNatClampNeg)))))))
def wX6_lays (mo : Nat → Int32) (md : Nat → Int32) (mb : Nat → Int32) (ms : Nat → Int32) (Q : (Nat → Int32) → (Nat → Int32) → Int32 → Int32 → Int32 → Prop) : Prop := (∃ n_7 : Nat, wX6_lays_L2 md (fun mo_3 => (∃ n_6 : Nat, wX6_lays_L28 mo_3 mb Q n_6 (0 : Int32) ms)) n_7 (0 : Int32) mo)

/-! DoubtCourtModel.lay -/
def wX6_lay (mt : Nat → Int32) (my : Int32) (mo : Nat → Int32) (md : Nat → Int32) (mb : Nat → Int32) (ms : Nat → Int32) (mk : Int32) (mq : Int32) (mz : Int32) (Q : Int32 → (Nat → Int32) → (Nat → Int32) → (Nat → Int32) → (Nat → Int32) → Int32 → Int32 → Int32 → Int32 → Prop) : Prop := (wX6_readsAll mt my md mb (fun r_1 md_2 mb_3 ma_4 => ((r_1 = (-4 : Int32) → (((md_2 0) = 0 → (Q (-2 : Int32) mo md_2 mb_3 ms mk mq mz ma_4)) ∧ (¬ (md_2 0) = 0 → (((md_2 1) = 0 → (Q (-2 : Int32) mo md_2 mb_3 ms mk mq mz ma_4)) ∧ (¬ (md_2 1) = 0 → (wX6_lays mo md_2 mb_3 ms (fun mo_8 ms_9 mk_10 mq_11 mz_12 => (Q (mo_8 0) mo_8 md_2 mb_3 ms_9 mk_10 mq_11 mz_12 ma_4)))))))) ∧ (¬ r_1 = (-4 : Int32) → (Q (-2 : Int32) mo md_2 mb_3 ms mk mq mz ma_4)))))

/-! DoubtCourtModel.heeded -/
def wX6_heeded (x1 : Int32) (mo : Nat → Int32) (Q : Int32 → Prop) : Prop := (vp_in ((9 : Int32) + x1) 16 ∧ (∀ v_1 : Int32, v_1 = (mo (((9 : Int32) + x1).toNatClampNeg)) → (((mo 0) ≤ v_1 → (Q (-4 : Int32))) ∧ (¬ (mo 0) ≤ v_1 → ((v_1 = x1 → (Q (-4 : Int32))) ∧ (¬ v_1 = x1 → (Q v_1)))))))

/-! DoubtCourtModel.doubts -/
def wX6_doubts (x1 : Int32) (x2 : Int32) (ms : Nat → Int32) (Q : Int32 → Prop) : Prop := (vp_in (((14 : Int32) + ((7 : Int32) * x2)) + x1) 56 ∧ (((4 : Int32) < (ms ((((14 : Int32) + ((7 : Int32) * x2)) + x1).toNatClampNeg)) → (Q (0 : Int32))) ∧ (¬ (4 : Int32) < (ms ((((14 : Int32) + ((7 : Int32) * x2)) + x1).toNatClampNeg)) → (Q (1 : Int32)))))

/-! DoubtCourtModel.doubters -/
def wX6_doubters_L4 (x1 : Int32) (mo : Nat → Int32) (ms : Nat → Int32) (Q : Int32 → Prop) : Nat → Int32 → Int32 → Prop
  | 0, _, _ => False
  | n_ + 1, x2, x3 => (((mo 0) ≤ x3 → (Q x2)) ∧ (¬ (mo 0) ≤ x3 → (wX6_doubts x3 x1 ms (fun r_8 => ((r_8 = 0 → (∀ v_11 : Int32, v_11 = (x2 ||| (0 : Int32)) → (wX6_doubters_L4 x1 mo ms Q n_ v_11 (x3 + (1 : Int32))))) ∧ (¬ r_8 = 0 → (∀ v_12 : Int32, v_12 = (x2 ||| ((1 : Int32) <<< (x3 &&& 31))) → (wX6_doubters_L4 x1 mo ms Q n_ v_12 (x3 + (1 : Int32))))))))))
def wX6_doubters (x1 : Int32) (mo : Nat → Int32) (ms : Nat → Int32) (Q : Int32 → Prop) : Prop := (∃ n_13 : Nat, wX6_doubters_L4 x1 mo ms Q n_13 (0 : Int32) (0 : Int32))

/-! DoubtCourtModel.courtier -/
def wX6_courtier_L27 (x1 : Int32) (mo : Nat → Int32) (ms : Nat → Int32) (K92 : Int32 → Int32 → Prop) : Nat → Int32 → Int32 → Int32 → Prop
  | 0, _, _, _ => False
  | n_ + 1, x3, x4, x5 => (((mo 1) ≤ x5 → (K92 x3 x4)) ∧ (¬ (mo 1) ≤ x5 → (vp_in ((8 : Int32) + x5) 56 ∧ (((ms (((8 : Int32) + x5).toNatClampNeg)) = x1 → (∀ v_29 : Int32, v_29 = (x3 ||| ((1 : Int32) <<< (x5 &&& 31))) → (wX6_doubts x1 x5 ms (fun r_30 => ((r_30 = 0 → (∀ v_33 : Int32, v_33 = (x4 ||| (0 : Int32)) → (wX6_courtier_L27 x1 mo ms K92 n_ v_29 v_33 (x5 + (1 : Int32))))) ∧ (¬ r_30 = 0 → (∀ v_34 : Int32, v_34 = (x4 ||| ((1 : Int32) <<< (x5 &&& 31))) → (wX6_courtier_L27 x1 mo ms K92 n_ v_29 v_34 (x5 + (1 : Int32)))))))))) ∧ (¬ (ms (((8 : Int32) + x5).toNatClampNeg)) = x1 → (∀ v_23 : Int32, v_23 = (x3 ||| (0 : Int32)) → (wX6_doubts x1 x5 ms (fun r_24 => ((r_24 = 0 → (∀ v_27 : Int32, v_27 = (x4 ||| (0 : Int32)) → (wX6_courtier_L27 x1 mo ms K92 n_ v_23 v_27 (x5 + (1 : Int32))))) ∧ (¬ r_24 = 0 → (∀ v_28 : Int32, v_28 = (x4 ||| ((1 : Int32) <<< (x5 &&& 31))) → (wX6_courtier_L27 x1 mo ms K92 n_ v_23 v_28 (x5 + (1 : Int32))))))))))))))
def wX6_courtier (x1 : Int32) (x2 : Int32) (mo : Nat → Int32) (ms : Nat → Int32) (Q : Int32 → Prop) : Prop := (wX6_isCourtier x1 mo (fun r_1 => ((r_1 = 0 → (Q (-1 : Int32))) ∧ (¬ r_1 = 0 → (wX6_in x2 (0 : Int32) (4 : Int32) (fun r_4 => ((r_4 = 0 → (Q (-1 : Int32))) ∧ (¬ r_4 = 0 → (∃ n_42 : Nat, wX6_courtier_L27 x1 mo ms (fun x3_35 x4_36 => ((x2 = 0 → (vp_in ((2 : Int32) + x1) 16 ∧ (Q (mo (((2 : Int32) + x1).toNatClampNeg))))) ∧ (¬ x2 = 0 → ((x2 = (1 : Int32) → (wX6_heeded x1 mo (fun r_41 => (Q r_41)))) ∧ (¬ x2 = (1 : Int32) → ((x2 = (2 : Int32) → (vp_in ((1 : Int32) + x1) 56 ∧ (Q (ms (((1 : Int32) + x1).toNatClampNeg))))) ∧ (¬ x2 = (2 : Int32) → ((x2 = (3 : Int32) → (Q x3_35)) ∧ (¬ x2 = (3 : Int32) → (Q x4_36)))))))))) n_42 (0 : Int32) (0 : Int32) (0 : Int32))))))))))

/-! DoubtCourtModel.news -/
def wX6_news (x1 : Int32) (x2 : Int32) (mo : Nat → Int32) (ms : Nat → Int32) (Q : Int32 → Prop) : Prop := (wX6_isNews x1 mo (fun r_1 => ((r_1 = 0 → (Q (-1 : Int32))) ∧ (¬ r_1 = 0 → (wX6_in x2 (0 : Int32) (1 : Int32) (fun r_4 => ((r_4 = 0 → (Q (-1 : Int32))) ∧ (¬ r_4 = 0 → ((x2 = 0 → (vp_in ((8 : Int32) + x1) 56 ∧ (Q (ms (((8 : Int32) + x1).toNatClampNeg))))) ∧ (¬ x2 = 0 → (wX6_doubters x1 mo ms (fun r_8 => (Q r_8)))))))))))))

/-! DoubtCourtModel.belief -/
def wX6_belief (x1 : Int32) (x2 : Int32) (mo : Nat → Int32) (ms : Nat → Int32) (Q : Int32 → Prop) : Prop := (wX6_isCourtier x1 mo (fun r_1 => ((r_1 = 0 → (Q (-1 : Int32))) ∧ (¬ r_1 = 0 → (wX6_isNews x2 mo (fun r_4 => ((r_4 = 0 → (Q (-1 : Int32))) ∧ (¬ r_4 = 0 → (vp_in (((14 : Int32) + ((7 : Int32) * x2)) + x1) 56 ∧ (Q (ms ((((14 : Int32) + ((7 : Int32) * x2)) + x1).toNatClampNeg))))))))))))

/-! DoubtCourtModel.whoAt -/
def wX6_whoAt_L5 (x1 : Int32) (mo : Nat → Int32) (ms : Nat → Int32) (Q : Int32 → Prop) : Nat → Int32 → Int32 → Prop
  | 0, _, _ => False
  | n_ + 1, x2, x3 => (((mo 0) ≤ x3 → (Q x2)) ∧ (¬ (mo 0) ≤ x3 → (vp_in ((1 : Int32) + x3) 56 ∧ (((ms (((1 : Int32) + x3).toNatClampNeg)) = x1 → (wX6_whoAt_L5 x1 mo ms Q n_ x3 (x3 + (1 : Int32)))) ∧ (¬ (ms (((1 : Int32) + x3).toNatClampNeg)) = x1 → (wX6_whoAt_L5 x1 mo ms Q n_ x2 (x3 + (1 : Int32))))))))
def wX6_whoAt (x1 : Int32) (mo : Nat → Int32) (ms : Nat → Int32) (Q : Int32 → Prop) : Prop := (∃ n_5 : Nat, wX6_whoAt_L5 x1 mo ms Q n_5 (9 : Int32) (0 : Int32))

/-! DoubtCourtModel.apart -/
def wX6_apart (x0 : Int32) (x1 : Int32) (Q : Int32 → Prop) : Prop := ((x1 ≤ x0 → (Q (x0 - x1))) ∧ (¬ x1 ≤ x0 → (Q (x1 - x0))))

/-! DoubtCourtModel.goesTo -/
def wX6_goesTo_L55 (x1 : Int32) (x3 : Int32) (mo : Nat → Int32) (ms : Nat → Int32) (Q : Int32 → Prop) : Nat → Int32 → Int32 → Int32 → Prop
  | 0, _, _, _ => False
  | n_ + 1, x4, x5, x6 => (((mo 0) ≤ x6 → (Q x4)) ∧ (¬ (mo 0) ≤ x6 → (wX6_whoAt x6 mo ms (fun r_16 => (wX6_doubts r_16 x1 ms (fun r_17 => ((r_17 = 0 → (wX6_goesTo_L55 x1 x3 mo ms Q n_ x4 x5 (x6 + (1 : Int32)))) ∧ (¬ r_17 = 0 → (wX6_apart x6 x3 (fun r_20 => ((x5 ≤ r_20 → (wX6_goesTo_L55 x1 x3 mo ms Q n_ x4 x5 (x6 + (1 : Int32)))) ∧ (¬ x5 ≤ r_20 → (wX6_apart x6 x3 (fun r_22 => (wX6_goesTo_L55 x1 x3 mo ms Q n_ r_16 r_22 (x6 + (1 : Int32)))))))))))))))))
def wX6_goesTo (x1 : Int32) (mo : Nat → Int32) (ms : Nat → Int32) (Q : Int32 → Prop) : Prop := (vp_in ((8 : Int32) + x1) 56 ∧ (∀ v_1 : Int32, v_1 = (ms (((8 : Int32) + x1).toNatClampNeg)) → ((v_1 = (9 : Int32) → (Q (9 : Int32))) ∧ (¬ v_1 = (9 : Int32) → (vp_in ((1 : Int32) + v_1) 56 ∧ (∀ v_3 : Int32, v_3 = (ms (((1 : Int32) + v_1).toNatClampNeg)) → (wX6_doubts v_1 x1 ms (fun r_4 => ((r_4 = 0 → (∃ n_23 : Nat, wX6_goesTo_L55 x1 v_3 mo ms Q n_23 v_1 (99 : Int32) (0 : Int32))) ∧ (¬ r_4 = 0 → (wX6_whoAt (v_3 - (1 : Int32)) mo ms (fun r_24 => (Q r_24)))))))))))))

/-! DoubtCourtModel.within -/
def wX6_within (x0 : Int32) (Q : Int32 → Prop) : Prop := ((0 ≤ x0 → ((x0 ≤ (9 : Int32) → (Q x0)) ∧ (¬ x0 ≤ (9 : Int32) → (Q (9 : Int32))))) ∧ (¬ 0 ≤ x0 → (Q (0 : Int32))))

/-! DoubtCourtModel.grows -/
def wX6_grows_J26 (x1 : Int32) (x2 : Int32) (s0 : Int32) (mo : Nat → Int32) (ms : Nat → Int32) (Q : Int32 → Prop) : Prop := (vp_in ((2 : Int32) + x1) 16 ∧ ((((mo (((2 : Int32) + x1).toNatClampNeg)).toInt < 0 ∨ 2 < (mo (((2 : Int32) + x1).toNatClampNeg)).toInt) → (vp_in ((8 : Int32) + x2) 56 ∧ (((ms (((8 : Int32) + x2).toNatClampNeg)) = x1 → (Q (0 : Int32))) ∧ (¬ (ms (((8 : Int32) + x2).toNatClampNeg)) = x1 → (Q (-1 : Int32)))))) ∧ ((mo (((2 : Int32) + x1).toNatClampNeg)) = 0 → ((s0 = 0 → (Q (0 : Int32))) ∧ (¬ s0 = 0 → (Q (1 : Int32))))) ∧ ((mo (((2 : Int32) + x1).toNatClampNeg)) = 1 → ((s0 = 0 → (Q (0 : Int32))) ∧ (¬ s0 = 0 → (Q (2 : Int32))))) ∧ ((mo (((2 : Int32) + x1).toNatClampNeg)) = 2 → (Q (0 : Int32)))))
def wX6_grows (x1 : Int32) (x2 : Int32) (mo : Nat → Int32) (ms : Nat → Int32) (Q : Int32 → Prop) : Prop := (wX6_heeded x1 mo (fun r_1 => ((r_1 = (-4 : Int32) → (wX6_grows_J26 x1 x2 (0 : Int32) mo ms Q)) ∧ (¬ r_1 = (-4 : Int32) → (wX6_doubts r_1 x2 ms (fun r_7 => ((r_7 = 0 → (wX6_grows_J26 x1 x2 (1 : Int32) mo ms Q)) ∧ (¬ r_7 = 0 → (wX6_grows_J26 x1 x2 (0 : Int32) mo ms Q)))))))))

/-! DoubtCourtModel.passes -/
def wX6_passes_L2 (mo : Nat → Int32) (K32 : (Nat → Int32) → Prop) : Nat → Int32 → (Nat → Int32) → Prop
  | 0, _, _ => False
  | n_ + 1, x1, ms => (((mo 1) ≤ x1 → (K32 ms)) ∧ (¬ (mo 1) ≤ x1 → (wX6_goesTo x1 mo ms (fun r_4 => (vp_in ((8 : Int32) + x1) 56 ∧ (wX6_passes_L2 mo K32 n_ (x1 + (1 : Int32)) (upd ms (((8 : Int32) + x1).toNatClampNeg) r_4)))))))
def wX6_passes_L46 (x1 : Int32) (mo : Nat → Int32) (ms : Nat → Int32) (K34 : Int32 → (Nat → Int32) → Prop) : Nat → Int32 → (Nat → Int32) → Prop
  | 0, _, _ => False
  | n_ + 1, x2, mh => (((mo 0) ≤ x2 → (K34 (x1 + (1 : Int32)) mh)) ∧ (¬ (mo 0) ≤ x2 → (vp_in (((14 : Int32) + ((7 : Int32) * x1)) + x2) 56 ∧ (∀ v_27 : Int32, v_27 = (ms ((((14 : Int32) + ((7 : Int32) * x1)) + x2).toNatClampNeg)) → (vp_in ((8 : Int32) + x1) 56 ∧ (((ms (((8 : Int32) + x1).toNatClampNeg)) = (9 : Int32) → (vp_in (((7 : Int32) * x1) + x2) 42 ∧ (wX6_passes_L46 x1 mo ms K34 n_ (x2 + (1 : Int32)) (upd mh ((((7 : Int32) * x1) + x2).toNatClampNeg) v_27)))) ∧ (¬ (ms (((8 : Int32) + x1).toNatClampNeg)) = (9 : Int32) → (wX6_grows x2 x1 mo ms (fun r_29 => (wX6_within (v_27 + r_29) (fun r_30 => (vp_in (((7 : Int32) * x1) + x2) 42 ∧ (wX6_passes_L46 x1 mo ms K34 n_ (x2 + (1 : Int32)) (upd mh ((((7 : Int32) * x1) + x2).toNatClampNeg) r_30))))))))))))))
def wX6_passes_L34 (mo : Nat → Int32) (ms : Nat → Int32) (K123 : (Nat → Int32) → Prop) : Nat → Int32 → (Nat → Int32) → Prop
  | 0, _, _ => False
  | n_ + 1, x1, mh => (((mo 1) ≤ x1 → (K123 mh)) ∧ (¬ (mo 1) ≤ x1 → (∃ n_33 : Nat, wX6_passes_L46 x1 mo ms (fun x1_31 mh_32 => (wX6_passes_L34 mo ms K123 n_ x1_31 mh_32)) n_33 (0 : Int32) mh)))
def wX6_passes_L137 (x1 : Int32) (mo : Nat → Int32) (mh : Nat → Int32) (K125 : Int32 → (Nat → Int32) → Prop) : Nat → Int32 → (Nat → Int32) → Prop
  | 0, _, _ => False
  | n_ + 1, x2, ms => (((mo 0) ≤ x2 → (K125 (x1 + (1 : Int32)) ms)) ∧ (¬ (mo 0) ≤ x2 → (vp_in (((7 : Int32) * x1) + x2) 42 ∧ (vp_in (((14 : Int32) + ((7 : Int32) * x1)) + x2) 56 ∧ (wX6_passes_L137 x1 mo mh K125 n_ (x2 + (1 : Int32)) (upd ms ((((14 : Int32) + ((7 : Int32) * x1)) + x2).toNatClampNeg) (mh ((((7 : Int32) * x1) + x2).toNatClampNeg))))))))
def wX6_passes_L125 (mo : Nat → Int32) (mh : Nat → Int32) (Q : (Nat → Int32) → (Nat → Int32) → Prop) : Nat → Int32 → (Nat → Int32) → Prop
  | 0, _, _ => False
  | n_ + 1, x1, ms => (((mo 1) ≤ x1 → (Q (upd ms 0 ((ms 0) + (1 : Int32))) mh)) ∧ (¬ (mo 1) ≤ x1 → (∃ n_46 : Nat, wX6_passes_L137 x1 mo mh (fun x1_44 ms_45 => (wX6_passes_L125 mo mh Q n_ x1_44 ms_45)) n_46 (0 : Int32) ms)))
def wX6_passes (mo : Nat → Int32) (ms : Nat → Int32) (mh : Nat → Int32) (Q : (Nat → Int32) → (Nat → Int32) → Prop) : Prop := (∃ n_49 : Nat, wX6_passes_L2 mo (fun ms_5 => (∃ n_48 : Nat, wX6_passes_L34 mo ms_5 (fun mh_34 => (∃ n_47 : Nat, wX6_passes_L125 mo mh_34 Q n_47 (0 : Int32) ms_5)) n_48 (0 : Int32) mh)) n_49 (0 : Int32) ms)

/-! DoubtCourtModel.manyKnown -/
def wX6_manyKnown_L4 (mo : Nat → Int32) (ms : Nat → Int32) (Q : Int32 → Prop) : Nat → Int32 → Int32 → Prop
  | 0, _, _ => False
  | n_ + 1, x1, x2 => (((mo 1) ≤ x2 → (Q x1)) ∧ (¬ (mo 1) ≤ x2 → (vp_in ((8 : Int32) + x2) 56 ∧ (((ms (((8 : Int32) + x2).toNatClampNeg)) = (9 : Int32) → (∀ v_8 : Int32, v_8 = (x1 + (1 : Int32)) → (wX6_manyKnown_L4 mo ms Q n_ v_8 (x2 + (1 : Int32))))) ∧ (¬ (ms (((8 : Int32) + x2).toNatClampNeg)) = (9 : Int32) → (∀ v_7 : Int32, v_7 = (x1 + (0 : Int32)) → (wX6_manyKnown_L4 mo ms Q n_ v_7 (x2 + (1 : Int32)))))))))
def wX6_manyKnown (mo : Nat → Int32) (ms : Nat → Int32) (Q : Int32 → Prop) : Prop := (∃ n_9 : Nat, wX6_manyKnown_L4 mo ms Q n_9 (0 : Int32) (0 : Int32))

/-! DoubtCourtModel.keeps -/
def wX6_keeps_L51 (ms : Nat → Int32) (mk : Int32) (Q : (Nat → Int32) → Int32 → Prop) : Nat → Int32 → (Nat → Int32) → Prop
  | 0, _, _ => False
  | n_ + 1, x1, mp => (((56 : Int32) ≤ x1 → (Q mp (mk + (1 : Int32)))) ∧ (¬ (56 : Int32) ≤ x1 → (vp_in x1 56 ∧ (vp_in (((56 : Int32) * mk) + x1) 448 ∧ (wX6_keeps_L51 ms mk Q n_ (x1 + (1 : Int32)) (upd mp ((((56 : Int32) * mk) + x1).toNatClampNeg) (ms x1.toNatClampNeg)))))))
def wX6_keeps_L11 (K39 : (Nat → Int32) → Prop) : Nat → Int32 → (Nat → Int32) → Prop
  | 0, _, _ => False
  | n_ + 1, x1, mp => (((392 : Int32) ≤ x1 → (K39 mp)) ∧ (¬ (392 : Int32) ≤ x1 → (vp_in (x1 + (56 : Int32)) 448 ∧ (vp_in x1 448 ∧ (wX6_keeps_L11 K39 n_ (x1 + (1 : Int32)) (upd mp x1.toNatClampNeg (mp ((x1 + (56 : Int32)).toNatClampNeg))))))))
def wX6_keeps (ms : Nat → Int32) (mp : Nat → Int32) (mk : Int32) (Q : (Nat → Int32) → Int32 → Prop) : Prop := ((mk = (8 : Int32) → (∃ n_9 : Nat, wX6_keeps_L11 (fun mp_7 => (∃ n_8 : Nat, wX6_keeps_L51 ms (mk - (1 : Int32)) Q n_8 (0 : Int32) mp_7)) n_9 (0 : Int32) mp)) ∧ (¬ mk = (8 : Int32) → (∃ n_4 : Nat, wX6_keeps_L51 ms mk Q n_4 (0 : Int32) mp)))

/-! DoubtCourtModel.pass -/
def wX6_pass_L35 (x1 : Int32) (mo : Nat → Int32) (mp : Nat → Int32) (mk : Int32) (Q : Int32 → (Nat → Int32) → (Nat → Int32) → Int32 → (Nat → Int32) → Prop) : Nat → Int32 → (Nat → Int32) → (Nat → Int32) → Prop
  | 0, _, _, _ => False
  | n_ + 1, x2, ms, mh => ((x1 ≤ x2 → (wX6_manyKnown mo ms (fun r_12 => (Q r_12 ms mp mk mh)))) ∧ (¬ x1 ≤ x2 → (wX6_passes mo ms mh (fun ms_13 mh_14 => (wX6_pass_L35 x1 mo mp mk Q n_ (x2 + (1 : Int32)) ms_13 mh_14)))))
def wX6_pass (x1 : Int32) (mo : Nat → Int32) (ms : Nat → Int32) (mp : Nat → Int32) (mk : Int32) (mh : Nat → Int32) (Q : Int32 → (Nat → Int32) → (Nat → Int32) → Int32 → (Nat → Int32) → Prop) : Prop := (wX6_in x1 (1 : Int32) (24 : Int32) (fun r_1 => ((r_1 = 0 → (Q (-1 : Int32) ms mp mk mh)) ∧ (¬ r_1 = 0 → ((((ms 0) + x1) ≤ (999 : Int32) → (wX6_keeps ms mp mk (fun mp_5 mk_6 => (∃ n_15 : Nat, wX6_pass_L35 x1 mo mp_5 mk_6 Q n_15 (0 : Int32) ms mh)))) ∧ (¬ ((ms 0) + x1) ≤ (999 : Int32) → (Q (-2 : Int32) ms mp mk mh)))))))

/-! DoubtCourtModel.prove -/
def wX6_prove (x1 : Int32) (x2 : Int32) (x3 : Int32) (mo : Nat → Int32) (ms : Nat → Int32) (mp : Nat → Int32) (mk : Int32) (Q : Int32 → (Nat → Int32) → (Nat → Int32) → Int32 → Prop) : Prop := (wX6_isCourtier x1 mo (fun r_1 => ((r_1 = 0 → (Q (-1 : Int32) ms mp mk)) ∧ (¬ r_1 = 0 → (wX6_isNews x2 mo (fun r_4 => ((r_4 = 0 → (Q (-1 : Int32) ms mp mk)) ∧ (¬ r_4 = 0 → (wX6_in x3 (-9 : Int32) (9 : Int32) (fun r_7 => ((r_7 = 0 → (Q (-1 : Int32) ms mp mk)) ∧ (¬ r_7 = 0 → (∀ v_10 : Int32, v_10 = (((14 : Int32) + ((7 : Int32) * x2)) + x1) → (vp_in v_10 56 ∧ (wX6_within ((ms v_10.toNatClampNeg) + x3) (fun r_11 => (vp_in v_10 56 ∧ ((r_11 = (ms v_10.toNatClampNeg) → (Q (-2 : Int32) ms mp mk)) ∧ (¬ r_11 = (ms v_10.toNatClampNeg) → (wX6_keeps ms mp mk (fun mp_13 mk_14 => (vp_in v_10 56 ∧ (Q r_11 (upd ms v_10.toNatClampNeg r_11) mp_13 mk_14)))))))))))))))))))))))

/-! DoubtCourtModel.hand -/
def wX6_hand (x1 : Int32) (x2 : Int32) (mo : Nat → Int32) (ms : Nat → Int32) (mp : Nat → Int32) (mk : Int32) (Q : Int32 → (Nat → Int32) → (Nat → Int32) → Int32 → Prop) : Prop := (wX6_isNews x1 mo (fun r_1 => ((r_1 = 0 → (Q (-1 : Int32) ms mp mk)) ∧ (¬ r_1 = 0 → (wX6_isCourtier x2 mo (fun r_4 => ((r_4 = 0 → (Q (-1 : Int32) ms mp mk)) ∧ (¬ r_4 = 0 → (vp_in ((8 : Int32) + x1) 56 ∧ (((ms (((8 : Int32) + x1).toNatClampNeg)) = (9 : Int32) → (Q (-2 : Int32) ms mp mk)) ∧ (¬ (ms (((8 : Int32) + x1).toNatClampNeg)) = (9 : Int32) → (vp_in ((8 : Int32) + x1) 56 ∧ (((ms (((8 : Int32) + x1).toNatClampNeg)) = x2 → (Q (-2 : Int32) ms mp mk)) ∧ (¬ (ms (((8 : Int32) + x1).toNatClampNeg)) = x2 → (wX6_keeps ms mp mk (fun mp_9 mk_10 => (vp_in ((8 : Int32) + x1) 56 ∧ (∀ v_11 : Int32, v_11 = (ms (((8 : Int32) + x1).toNatClampNeg)) → (vp_in ((8 : Int32) + x1) 56 ∧ (Q v_11 (upd ms (((8 : Int32) + x1).toNatClampNeg) x2) mp_9 mk_10))))))))))))))))))))

/-! DoubtCourtModel.changes -/
def wX6_changes (x1 : Int32) (x2 : Int32) (ms : Nat → Int32) (Q : (Nat → Int32) → Prop) : Prop := (vp_in ((1 : Int32) + x1) 56 ∧ (∀ v_1 : Int32, v_1 = (ms (((1 : Int32) + x1).toNatClampNeg)) → (vp_in ((1 : Int32) + x2) 56 ∧ (vp_in ((1 : Int32) + x1) 56 ∧ (vp_in ((1 : Int32) + x2) 56 ∧ (Q (upd (upd ms (((1 : Int32) + x1).toNatClampNeg) (ms (((1 : Int32) + x2).toNatClampNeg))) (((1 : Int32) + x2).toNatClampNeg) v_1)))))))

/-! DoubtCourtModel.swap -/
def wX6_swap (x1 : Int32) (x2 : Int32) (mo : Nat → Int32) (ms : Nat → Int32) (mp : Nat → Int32) (mk : Int32) (Q : Int32 → (Nat → Int32) → (Nat → Int32) → Int32 → Prop) : Prop := (wX6_isCourtier x1 mo (fun r_1 => ((r_1 = 0 → (Q (-1 : Int32) ms mp mk)) ∧ (¬ r_1 = 0 → (wX6_isCourtier x2 mo (fun r_4 => ((r_4 = 0 → (Q (-1 : Int32) ms mp mk)) ∧ (¬ r_4 = 0 → ((x1 = x2 → (Q (-1 : Int32) ms mp mk)) ∧ (¬ x1 = x2 → (wX6_keeps ms mp mk (fun mp_8 mk_9 => (wX6_changes x1 x2 ms (fun ms_10 => (vp_in ((1 : Int32) + x1) 56 ∧ (Q (ms_10 (((1 : Int32) + x1).toNatClampNeg)) ms_10 mp_8 mk_9))))))))))))))))

/-! DoubtCourtModel.undo -/
def wX6_undo_L22 (mp : Nat → Int32) (mk : Int32) (Q : Int32 → (Nat → Int32) → Int32 → Prop) : Nat → Int32 → (Nat → Int32) → Prop
  | 0, _, _ => False
  | n_ + 1, x1, ms => (((56 : Int32) ≤ x1 → (Q mk ms mk)) ∧ (¬ (56 : Int32) ≤ x1 → (vp_in (((56 : Int32) * mk) + x1) 448 ∧ (vp_in x1 56 ∧ (wX6_undo_L22 mp mk Q n_ (x1 + (1 : Int32)) (upd ms x1.toNatClampNeg (mp ((((56 : Int32) * mk) + x1).toNatClampNeg))))))))
def wX6_undo (ms : Nat → Int32) (mp : Nat → Int32) (mk : Int32) (Q : Int32 → (Nat → Int32) → Int32 → Prop) : Prop := ((mk = 0 → (Q (-2 : Int32) ms mk)) ∧ (¬ mk = 0 → (∃ n_4 : Nat, wX6_undo_L22 mp (mk - (1 : Int32)) Q n_4 (0 : Int32) ms)))

/-! DoubtCourtModel.holds -/
def wX6_holds_L2 (ms : Nat → Int32) (Q : (Nat → Int32) → Prop) : Nat → Int32 → (Nat → Int32) → Prop
  | 0, _, _ => False
  | n_ + 1, x1, mg => (((56 : Int32) ≤ x1 → (Q mg)) ∧ (¬ (56 : Int32) ≤ x1 → (vp_in x1 56 ∧ (vp_in x1 56 ∧ (wX6_holds_L2 ms Q n_ (x1 + (1 : Int32)) (upd mg x1.toNatClampNeg (ms x1.toNatClampNeg)))))))
def wX6_holds (ms : Nat → Int32) (mg : Nat → Int32) (Q : (Nat → Int32) → Prop) : Prop := (∃ n_3 : Nat, wX6_holds_L2 ms Q n_3 (0 : Int32) mg)

/-! DoubtCourtModel.lets -/
def wX6_lets_L2 (mg : Nat → Int32) (Q : (Nat → Int32) → Prop) : Nat → Int32 → (Nat → Int32) → Prop
  | 0, _, _ => False
  | n_ + 1, x1, ms => (((56 : Int32) ≤ x1 → (Q ms)) ∧ (¬ (56 : Int32) ≤ x1 → (vp_in x1 56 ∧ (vp_in x1 56 ∧ (wX6_lets_L2 mg Q n_ (x1 + (1 : Int32)) (upd ms x1.toNatClampNeg (mg x1.toNatClampNeg)))))))
def wX6_lets (ms : Nat → Int32) (mg : Nat → Int32) (Q : (Nat → Int32) → Prop) : Prop := (∃ n_3 : Nat, wX6_lets_L2 mg Q n_3 (0 : Int32) ms)

/-! DoubtCourtModel.behind -/
def wX6_behind_L40 (x1 : Int32) (mo : Nat → Int32) (K56 : (Nat → Int32) → (Nat → Int32) → Prop) : Nat → Int32 → (Nat → Int32) → (Nat → Int32) → Prop
  | 0, _, _, _ => False
  | n_ + 1, x4, ms, mh => ((x1 ≤ x4 → (K56 ms mh)) ∧ (¬ x1 ≤ x4 → (wX6_passes mo ms mh (fun ms_13 mh_14 => (wX6_behind_L40 x1 mo K56 n_ (x4 + (1 : Int32)) ms_13 mh_14)))))
def wX6_behind_J33 (x1 : Int32) (x2 : Int32) (x3 : Int32) (mo : Nat → Int32) (ms : Nat → Int32) (mh : Nat → Int32) (mg : Nat → Int32) (Q : Int32 → (Nat → Int32) → (Nat → Int32) → (Nat → Int32) → Prop) : Prop := (wX6_holds ms mg (fun mg_8 => (∃ n_22 : Nat, wX6_behind_L40 x1 mo (fun ms_15 mh_16 => ((x3 = (-1 : Int32) → (vp_in ((8 : Int32) + x2) 56 ∧ (∀ v_20 : Int32, v_20 = (ms_15 (((8 : Int32) + x2).toNatClampNeg)) → (wX6_lets ms_15 mg_8 (fun ms_21 => (Q v_20 ms_21 mh_16 mg_8)))))) ∧ (¬ x3 = (-1 : Int32) → (vp_in (((14 : Int32) + ((7 : Int32) * x2)) + x3) 56 ∧ (∀ v_18 : Int32, v_18 = (ms_15 ((((14 : Int32) + ((7 : Int32) * x2)) + x3).toNatClampNeg)) → (wX6_lets ms_15 mg_8 (fun ms_19 => (Q v_18 ms_19 mh_16 mg_8)))))))) n_22 (0 : Int32) ms mh)))
def wX6_behind (x1 : Int32) (x2 : Int32) (x3 : Int32) (mo : Nat → Int32) (ms : Nat → Int32) (mh : Nat → Int32) (mg : Nat → Int32) (Q : Int32 → (Nat → Int32) → (Nat → Int32) → (Nat → Int32) → Prop) : Prop := (wX6_in x1 (0 : Int32) (40 : Int32) (fun r_1 => ((r_1 = 0 → (Q (-1 : Int32) ms mh mg)) ∧ (¬ r_1 = 0 → (wX6_isNews x2 mo (fun r_4 => ((r_4 = 0 → (Q (-1 : Int32) ms mh mg)) ∧ (¬ r_4 = 0 → ((x3 = (-1 : Int32) → (wX6_behind_J33 x1 x2 x3 mo ms mh mg Q)) ∧ (¬ x3 = (-1 : Int32) → (wX6_isCourtier x3 mo (fun r_23 => ((r_23 = 0 → (Q (-1 : Int32) ms mh mg)) ∧ (¬ r_23 = 0 → (wX6_behind_J33 x1 x2 x3 mo ms mh mg Q)))))))))))))))

/-! DoubtCourtModel.knownIn -/
def wX6_knownIn_L2 (x1 : Int32) (mo : Nat → Int32) (Q : Int32 → (Nat → Int32) → (Nat → Int32) → Prop) : Nat → Int32 → (Nat → Int32) → (Nat → Int32) → Prop
  | 0, _, _, _ => False
  | n_ + 1, x2, ms, mh => (((60 : Int32) < x2 → ((x2 ≤ (60 : Int32) → (Q x2 ms mh)) ∧ (¬ x2 ≤ (60 : Int32) → (Q (-4 : Int32) ms mh)))) ∧ (¬ (60 : Int32) < x2 → (vp_in ((8 : Int32) + x1) 56 ∧ (((ms (((8 : Int32) + x1).toNatClampNeg)) = (9 : Int32) → ((x2 ≤ (60 : Int32) → (Q x2 ms mh)) ∧ (¬ x2 ≤ (60 : Int32) → (Q (-4 : Int32) ms mh)))) ∧ (¬ (ms (((8 : Int32) + x1).toNatClampNeg)) = (9 : Int32) → (wX6_passes mo ms mh (fun ms_11 mh_12 => (wX6_knownIn_L2 x1 mo Q n_ (x2 + (1 : Int32)) ms_11 mh_12))))))))
def wX6_knownIn (x1 : Int32) (mo : Nat → Int32) (ms : Nat → Int32) (mh : Nat → Int32) (Q : Int32 → (Nat → Int32) → (Nat → Int32) → Prop) : Prop := (∃ n_13 : Nat, wX6_knownIn_L2 x1 mo Q n_13 (0 : Int32) ms mh)

/-! DoubtCourtModel.comesIn -/
def wX6_comesIn (x1 : Int32) (mo : Nat → Int32) (ms : Nat → Int32) (mh : Nat → Int32) (mg : Nat → Int32) (Q : Int32 → (Nat → Int32) → (Nat → Int32) → (Nat → Int32) → Prop) : Prop := (wX6_holds ms mg (fun mg_1 => (wX6_knownIn x1 mo ms mh (fun r_2 ms_3 mh_4 => (wX6_lets ms_3 mg_1 (fun ms_5 => (Q r_2 ms_5 mh_4 mg_1)))))))

/-! DoubtCourtModel.comes -/
def wX6_comes (x1 : Int32) (mo : Nat → Int32) (ms : Nat → Int32) (mh : Nat → Int32) (mg : Nat → Int32) (Q : Int32 → (Nat → Int32) → (Nat → Int32) → (Nat → Int32) → Prop) : Prop := (wX6_isNews x1 mo (fun r_1 => ((r_1 = 0 → (Q (-1 : Int32) ms mh mg)) ∧ (¬ r_1 = 0 → (wX6_comesIn x1 mo ms mh mg (fun r_4 ms_5 mh_6 mg_7 => (Q r_4 ms_5 mh_6 mg_7)))))))

/-! DoubtCourtModel.first -/
def wX6_first_L8 (mo : Nat → Int32) (Q : Int32 → (Nat → Int32) → (Nat → Int32) → (Nat → Int32) → Prop) : Nat → Int32 → Int32 → Int32 → (Nat → Int32) → (Nat → Int32) → (Nat → Int32) → Prop
  | 0, _, _, _, _, _, _ => False
  | n_ + 1, x1, x2, x3, ms, mh, mg => (((mo 1) ≤ x3 → (Q x1 ms mh mg)) ∧ (¬ (mo 1) ≤ x3 → (wX6_comesIn x3 mo ms mh mg (fun r_9 ms_10 mh_11 mg_12 => ((r_9 ≤ 0 → (wX6_first_L8 mo Q n_ x1 x2 (x3 + (1 : Int32)) ms_10 mh_11 mg_12)) ∧ (¬ r_9 ≤ 0 → ((x2 ≤ r_9 → (wX6_first_L8 mo Q n_ x1 x2 (x3 + (1 : Int32)) ms_10 mh_11 mg_12)) ∧ (¬ x2 ≤ r_9 → (wX6_first_L8 mo Q n_ x3 r_9 (x3 + (1 : Int32)) ms_10 mh_11 mg_12)))))))))
def wX6_first (mo : Nat → Int32) (ms : Nat → Int32) (mh : Nat → Int32) (mg : Nat → Int32) (Q : Int32 → (Nat → Int32) → (Nat → Int32) → (Nat → Int32) → Prop) : Prop := (∃ n_15 : Nat, wX6_first_L8 mo Q n_15 (-4 : Int32) (61 : Int32) (0 : Int32) ms mh mg)

/-! DoubtCourtModel.ones -/
def wX6_ones_L4 (x0 : Int32) (Q : Int32 → Prop) : Nat → Int32 → Int32 → Prop
  | 0, _, _ => False
  | n_ + 1, x1, x2 => (((7 : Int32) ≤ x2 → (Q x1)) ∧ (¬ (7 : Int32) ≤ x2 → (∀ v_4 : Int32, v_4 = (x1 + ((x0 >>> (x2 &&& 31)) &&& (1 : Int32))) → (wX6_ones_L4 x0 Q n_ v_4 (x2 + (1 : Int32))))))
def wX6_ones (x0 : Int32) (Q : Int32 → Prop) : Prop := (∃ n_5 : Nat, wX6_ones_L4 x0 Q n_5 (0 : Int32) (0 : Int32))

/-! DoubtCourtModel.fewest -/
def wX6_fewest_L27 (x1 : Int32) (x3 : Int32) (x6 : Int32) (mo : Nat → Int32) (K85 : (Nat → Int32) → Prop) : Nat → Int32 → (Nat → Int32) → Prop
  | 0, _, _ => False
  | n_ + 1, x7, ms => (((mo 0) ≤ x7 → (K85 ms)) ∧ (¬ (mo 0) ≤ x7 → (∀ v_40 : Int32, v_40 = (((14 : Int32) + ((7 : Int32) * x1)) + x7) → ((((x6 >>> (x7 &&& 31)) &&& (1 : Int32)) = (1 : Int32) → (vp_in v_40 56 ∧ (wX6_fewest_L27 x1 x3 x6 mo K85 n_ (x7 + (1 : Int32)) (upd ms v_40.toNatClampNeg x3)))) ∧ (¬ ((x6 >>> (x7 &&& 31)) &&& (1 : Int32)) = (1 : Int32) → (vp_in v_40 56 ∧ (vp_in v_40 56 ∧ (wX6_fewest_L27 x1 x3 x6 mo K85 n_ (x7 + (1 : Int32)) (upd ms v_40.toNatClampNeg (ms v_40.toNatClampNeg))))))))))
def wX6_fewest_L88 (x2 : Int32) (mo : Nat → Int32) (K104 : (Nat → Int32) → (Nat → Int32) → Prop) : Nat → Int32 → (Nat → Int32) → (Nat → Int32) → Prop
  | 0, _, _, _ => False
  | n_ + 1, x7, ms, mh => ((x2 ≤ x7 → (K104 ms mh)) ∧ (¬ x2 ≤ x7 → (wX6_passes mo ms mh (fun ms_47 mh_48 => (wX6_fewest_L88 x2 mo K104 n_ (x7 + (1 : Int32)) ms_47 mh_48)))))
def wX6_fewest_L11 (x1 : Int32) (x2 : Int32) (x3 : Int32) (x4 : Int32) (mo : Nat → Int32) (mg : Nat → Int32) (Q : Int32 → (Nat → Int32) → (Nat → Int32) → (Nat → Int32) → Prop) : Nat → Int32 → Int32 → (Nat → Int32) → (Nat → Int32) → Prop
  | 0, _, _, _, _ => False
  | n_ + 1, x5, x6, ms, mh => ((((1 : Int32) <<< ((mo 0) &&& 31)) ≤ x6 → (Q x5 ms mh mg)) ∧ (¬ ((1 : Int32) <<< ((mo 0) &&& 31)) ≤ x6 → (∃ n_67 : Nat, wX6_fewest_L27 x1 x3 x6 mo (fun ms_42 => (∃ n_66 : Nat, wX6_fewest_L88 x2 mo (fun ms_49 mh_50 => (vp_in ((8 : Int32) + x1) 56 ∧ (((ms_49 (((8 : Int32) + x1).toNatClampNeg)) = (9 : Int32) → (((1 : Int32) = x4 → (wX6_lets ms_49 mg (fun ms_61 => ((x5 = (-4 : Int32) → (wX6_fewest_L11 x1 x2 x3 x4 mo mg Q n_ x6 (x6 + (1 : Int32)) ms_61 mh_50)) ∧ (¬ x5 = (-4 : Int32) → (wX6_ones x6 (fun r_63 => (wX6_ones x5 (fun r_64 => ((r_64 ≤ r_63 → (wX6_fewest_L11 x1 x2 x3 x4 mo mg Q n_ x5 (x6 + (1 : Int32)) ms_61 mh_50)) ∧ (¬ r_64 ≤ r_63 → (wX6_fewest_L11 x1 x2 x3 x4 mo mg Q n_ x6 (x6 + (1 : Int32)) ms_61 mh_50)))))))))))) ∧ (¬ (1 : Int32) = x4 → (wX6_lets ms_49 mg (fun ms_60 => (wX6_fewest_L11 x1 x2 x3 x4 mo mg Q n_ x5 (x6 + (1 : Int32)) ms_60 mh_50)))))) ∧ (¬ (ms_49 (((8 : Int32) + x1).toNatClampNeg)) = (9 : Int32) → (((0 : Int32) = x4 → (wX6_lets ms_49 mg (fun ms_54 => ((x5 = (-4 : Int32) → (wX6_fewest_L11 x1 x2 x3 x4 mo mg Q n_ x6 (x6 + (1 : Int32)) ms_54 mh_50)) ∧ (¬ x5 = (-4 : Int32) → (wX6_ones x6 (fun r_56 => (wX6_ones x5 (fun r_57 => ((r_57 ≤ r_56 → (wX6_fewest_L11 x1 x2 x3 x4 mo mg Q n_ x5 (x6 + (1 : Int32)) ms_54 mh_50)) ∧ (¬ r_57 ≤ r_56 → (wX6_fewest_L11 x1 x2 x3 x4 mo mg Q n_ x6 (x6 + (1 : Int32)) ms_54 mh_50)))))))))))) ∧ (¬ (0 : Int32) = x4 → (wX6_lets ms_49 mg (fun ms_53 => (wX6_fewest_L11 x1 x2 x3 x4 mo mg Q n_ x5 (x6 + (1 : Int32)) ms_53 mh_50))))))))) n_66 (0 : Int32) ms_42 mh)) n_67 (0 : Int32) ms)))
def wX6_fewest (x1 : Int32) (x2 : Int32) (x3 : Int32) (x4 : Int32) (mo : Nat → Int32) (ms : Nat → Int32) (mh : Nat → Int32) (mg : Nat → Int32) (Q : Int32 → (Nat → Int32) → (Nat → Int32) → (Nat → Int32) → Prop) : Prop := (wX6_holds ms mg (fun mg_1 => (∃ n_68 : Nat, wX6_fewest_L11 x1 x2 x3 x4 mo mg_1 Q n_68 (-4 : Int32) (0 : Int32) ms mh)))

/-! DoubtCourtModel.likewise -/
def wX6_likewise (x1 : Int32) (x2 : Int32) (x3 : Int32) (x4 : Int32) (x5 : Int32) (mo : Nat → Int32) (ms : Nat → Int32) (mh : Nat → Int32) (mg : Nat → Int32) (Q : Int32 → (Nat → Int32) → (Nat → Int32) → (Nat → Int32) → Prop) : Prop := (wX6_isNews x1 mo (fun r_1 => ((r_1 = 0 → (Q (-1 : Int32) ms mh mg)) ∧ (¬ r_1 = 0 → (wX6_in x2 (1 : Int32) (20 : Int32) (fun r_4 => ((r_4 = 0 → (Q (-1 : Int32) ms mh mg)) ∧ (¬ r_4 = 0 → (wX6_in x3 (0 : Int32) (1 : Int32) (fun r_7 => ((r_7 = 0 → (Q (-1 : Int32) ms mh mg)) ∧ (¬ r_7 = 0 → (vp_in ((8 : Int32) + x1) 56 ∧ (((ms (((8 : Int32) + x1).toNatClampNeg)) = (9 : Int32) → (Q (-2 : Int32) ms mh mg)) ∧ (¬ (ms (((8 : Int32) + x1).toNatClampNeg)) = (9 : Int32) → (wX6_fewest x1 x2 x4 x5 mo ms mh mg (fun r_11 ms_12 mh_13 mg_14 => ((r_11 = (-4 : Int32) → (Q r_11 ms_12 mh_13 mg_14)) ∧ (¬ r_11 = (-4 : Int32) → ((x3 = (1 : Int32) → (Q r_11 ms_12 mh_13 mg_14)) ∧ (¬ x3 = (1 : Int32) → (wX6_ones r_11 (fun r_17 => (Q r_17 ms_12 mh_13 mg_14))))))))))))))))))))))))

/-! DoubtCourtModel.hush -/
def wX6_hush (x1 : Int32) (x2 : Int32) (x3 : Int32) (mo : Nat → Int32) (ms : Nat → Int32) (mh : Nat → Int32) (mg : Nat → Int32) (Q : Int32 → (Nat → Int32) → (Nat → Int32) → (Nat → Int32) → Prop) : Prop := (wX6_likewise x1 x2 x3 (9 : Int32) (0 : Int32) mo ms mh mg (fun r_1 ms_2 mh_3 mg_4 => (Q r_1 ms_2 mh_3 mg_4)))

/-! DoubtCourtModel.loose -/
def wX6_loose (x1 : Int32) (x2 : Int32) (x3 : Int32) (mo : Nat → Int32) (ms : Nat → Int32) (mh : Nat → Int32) (mg : Nat → Int32) (Q : Int32 → (Nat → Int32) → (Nat → Int32) → (Nat → Int32) → Prop) : Prop := (wX6_likewise x1 x2 x3 (0 : Int32) (1 : Int32) mo ms mh mg (fun r_1 ms_2 mh_3 mg_4 => (Q r_1 ms_2 mh_3 mg_4)))

/-! DoubtCourtModel.sooner -/
def wX6_sooner_L79 (x1 : Int32) (x5 : Int32) (mo : Nat → Int32) (K62 : Int32 → Int32 → Int32 → (Nat → Int32) → (Nat → Int32) → (Nat → Int32) → Prop) : Nat → Int32 → Int32 → Int32 → (Nat → Int32) → (Nat → Int32) → (Nat → Int32) → Prop
  | 0, _, _, _, _, _, _ => False
  | n_ + 1, x3, x4, x6, ms, mh, mg => (((mo 0) ≤ x6 → (K62 x3 x4 (x5 + (1 : Int32)) ms mh mg)) ∧ (¬ (mo 0) ≤ x6 → (wX6_changes x5 x6 ms (fun ms_59 => (wX6_comesIn x1 mo ms_59 mh mg (fun r_60 ms_61 mh_62 mg_63 => (wX6_changes x5 x6 ms_61 (fun ms_64 => ((r_60 = (-4 : Int32) → (wX6_sooner_L79 x1 x5 mo K62 n_ x3 x4 (x6 + (1 : Int32)) ms_64 mh_62 mg_63)) ∧ (¬ r_60 = (-4 : Int32) → ((x3 ≤ r_60 → (wX6_sooner_L79 x1 x5 mo K62 n_ x3 x4 (x6 + (1 : Int32)) ms_64 mh_62 mg_63)) ∧ (¬ x3 ≤ r_60 → (∀ v_67 : Int32, v_67 = (((10 : Int32) * x5) + x6) → (wX6_sooner_L79 x1 x5 mo K62 n_ r_60 v_67 (x6 + (1 : Int32)) ms_64 mh_62 mg_63))))))))))))))
def wX6_sooner_L62 (x1 : Int32) (x2 : Int32) (mo : Nat → Int32) (Q : Int32 → (Nat → Int32) → (Nat → Int32) → (Nat → Int32) → Prop) : Nat → Int32 → Int32 → Int32 → (Nat → Int32) → (Nat → Int32) → (Nat → Int32) → Prop
  | 0, _, _, _, _, _, _ => False
  | n_ + 1, x3, x4, x5, ms, mh, mg => (((mo 0) ≤ x5 → ((x4 = (-4 : Int32) → (Q x4 ms mh mg)) ∧ (¬ x4 = (-4 : Int32) → ((x2 = 0 → (Q x4 ms mh mg)) ∧ (¬ x2 = 0 → (Q x3 ms mh mg)))))) ∧ (¬ (mo 0) ≤ x5 → (∀ v_47 : Int32, v_47 = (x5 + (1 : Int32)) → (∃ n_74 : Nat, wX6_sooner_L79 x1 x5 mo (fun x3_68 x4_69 x5_70 ms_71 mh_72 mg_73 => (wX6_sooner_L62 x1 x2 mo Q n_ x3_68 x4_69 x5_70 ms_71 mh_72 mg_73)) n_74 x3 x4 v_47 ms mh mg))))
def wX6_sooner_J54 (x1 : Int32) (x2 : Int32) (s0 : Int32) (mo : Nat → Int32) (ms : Nat → Int32) (mh : Nat → Int32) (mg : Nat → Int32) (Q : Int32 → (Nat → Int32) → (Nat → Int32) → (Nat → Int32) → Prop) : Prop := (∃ n_75 : Nat, wX6_sooner_L62 x1 x2 mo Q n_75 s0 (-4 : Int32) (0 : Int32) ms mh mg)
def wX6_sooner (x1 : Int32) (x2 : Int32) (mo : Nat → Int32) (ms : Nat → Int32) (mh : Nat → Int32) (mg : Nat → Int32) (Q : Int32 → (Nat → Int32) → (Nat → Int32) → (Nat → Int32) → Prop) : Prop := (wX6_isNews x1 mo (fun r_1 => ((r_1 = 0 → (Q (-1 : Int32) ms mh mg)) ∧ (¬ r_1 = 0 → (wX6_in x2 (0 : Int32) (1 : Int32) (fun r_4 => ((r_4 = 0 → (Q (-1 : Int32) ms mh mg)) ∧ (¬ r_4 = 0 → (vp_in ((8 : Int32) + x1) 56 ∧ (((ms (((8 : Int32) + x1).toNatClampNeg)) = (9 : Int32) → (Q (-2 : Int32) ms mh mg)) ∧ (¬ (ms (((8 : Int32) + x1).toNatClampNeg)) = (9 : Int32) → (wX6_comesIn x1 mo ms mh mg (fun r_8 ms_9 mh_10 mg_11 => ((r_8 = (-4 : Int32) → (wX6_sooner_J54 x1 x2 (61 : Int32) mo ms_9 mh_10 mg_11 Q)) ∧ (¬ r_8 = (-4 : Int32) → (wX6_sooner_J54 x1 x2 r_8 mo ms_9 mh_10 mg_11 Q))))))))))))))))

/-! DoubtCourtModel.given -/
def wX6_given_L110 (x1 : Int32) (x4 : Int32) (x5 : Int32) (mr : Nat → Int32) (K153 : Int32 → Prop) : Nat → Int32 → Int32 → Prop
  | 0, _, _ => False
  | n_ + 1, x6, x7 => ((x4 ≤ x7 → (K153 x6)) ∧ (¬ x4 ≤ x7 → ((x6 = 0 → (wX6_given_L110 x1 x4 x5 mr K153 n_ (0 : Int32) (x7 + (1 : Int32)))) ∧ (¬ x6 = 0 → ((x5 = x1 → (wX6_given_L110 x1 x4 x5 mr K153 n_ (1 : Int32) (x7 + (1 : Int32)))) ∧ (¬ x5 = x1 → (vp_in x7 6 ∧ (((mr x7.toNatClampNeg) = x5 → (wX6_given_L110 x1 x4 x5 mr K153 n_ (0 : Int32) (x7 + (1 : Int32)))) ∧ (¬ (mr x7.toNatClampNeg) = x5 → (wX6_given_L110 x1 x4 x5 mr K153 n_ (1 : Int32) (x7 + (1 : Int32))))))))))))
def wX6_given_L172 (x1 : Int32) (x2 : Int32) (mr : Nat → Int32) (K205 : Int32 → Prop) : Nat → Int32 → Int32 → Prop
  | 0, _, _ => False
  | n_ + 1, x7, x8 => ((x2 ≤ x8 → (K205 x7)) ∧ (¬ x2 ≤ x8 → (vp_in x8 6 ∧ (((mr x8.toNatClampNeg) = x1 → (∀ v_156 : Int32, v_156 = (x7 + (0 : Int32)) → (wX6_given_L172 x1 x2 mr K205 n_ v_156 (x8 + (1 : Int32))))) ∧ (¬ (mr x8.toNatClampNeg) = x1 → (∀ v_155 : Int32, v_155 = (x7 + (1 : Int32)) → (wX6_given_L172 x1 x2 mr K205 n_ v_155 (x8 + (1 : Int32)))))))))
def wX6_given_L208 (x2 : Int32) (x3 : Int32) (x7 : Int32) (mr : Nat → Int32) (K26 : Int32 → (Nat → Int32) → Prop) : Nat → Int32 → (Nat → Int32) → Prop
  | 0, _, _ => False
  | n_ + 1, x8, mx => ((x2 ≤ x8 → ((x7 ≤ x3 → (K26 x3 mx)) ∧ (¬ x7 ≤ x3 → (K26 x7 mx)))) ∧ (¬ x2 ≤ x8 → ((x7 ≤ x3 → ((x7 ≤ x3 → (K26 x3 mx)) ∧ (¬ x7 ≤ x3 → (K26 x7 mx)))) ∧ (¬ x7 ≤ x3 → (vp_in x8 6 ∧ (vp_in x8 6 ∧ (wX6_given_L208 x2 x3 x7 mr K26 n_ (x8 + (1 : Int32)) (upd mx x8.toNatClampNeg (mr x8.toNatClampNeg)))))))))
def wX6_given_J105 (x1 : Int32) (x2 : Int32) (x3 : Int32) (x4 : Int32) (x5 : Int32) (s0 : Int32) (mr : Nat → Int32) (mx : Nat → Int32) (K26 : Int32 → Int32 → (Nat → Int32) → (Nat → Int32) → Prop) : Prop := (∃ n_170 : Nat, wX6_given_L110 x1 x4 x5 mr (fun x6_144 => ((x6_144 = 0 → ((x6_144 = 0 → (K26 x3 x4 mr mx)) ∧ (¬ x6_144 = 0 → (vp_in (x4 + (1 : Int32)) 6 ∧ (K26 x3 (x4 + (1 : Int32)) (upd mr ((x4 + (1 : Int32)).toNatClampNeg) (-1 : Int32)) mx))))) ∧ (¬ x6_144 = 0 → ((x4 = (x2 - (1 : Int32)) → (∃ n_169 : Nat, wX6_given_L172 x1 x2 mr (fun x7_157 => (∃ n_168 : Nat, wX6_given_L208 x2 x3 x7_157 mr (fun x3_166 mx_167 => (K26 x3_166 x4 mr mx_167)) n_168 (0 : Int32) mx)) n_169 (0 : Int32) (0 : Int32))) ∧ (¬ x4 = (x2 - (1 : Int32)) → ((x6_144 = 0 → (K26 x3 x4 mr mx)) ∧ (¬ x6_144 = 0 → (vp_in (x4 + (1 : Int32)) 6 ∧ (K26 x3 (x4 + (1 : Int32)) (upd mr ((x4 + (1 : Int32)).toNatClampNeg) (-1 : Int32)) mx))))))))) n_170 s0 (0 : Int32))
def wX6_given_L26 (x1 : Int32) (x2 : Int32) (ms : Nat → Int32) (Q : Int32 → (Nat → Int32) → (Nat → Int32) → Prop) : Nat → Int32 → Int32 → (Nat → Int32) → (Nat → Int32) → Prop
  | 0, _, _, _, _ => False
  | n_ + 1, x3, x4, mr, mx => ((x4 < 0 → (Q x3 mr mx)) ∧ (¬ x4 < 0 → (vp_in x4 6 ∧ (vp_in x4 6 ∧ (vp_in x4 6 ∧ ((((upd mr x4.toNatClampNeg ((mr x4.toNatClampNeg) + (1 : Int32))) x4.toNatClampNeg) ≤ x1 → (vp_in x4 6 ∧ (∀ v_99 : Int32, v_99 = ((upd mr x4.toNatClampNeg ((mr x4.toNatClampNeg) + (1 : Int32))) x4.toNatClampNeg) → ((v_99 = x1 → (wX6_given_J105 x1 x2 x3 x4 v_99 (1 : Int32) (upd mr x4.toNatClampNeg ((mr x4.toNatClampNeg) + (1 : Int32))) mx (fun x3_171 x4_172 mr_173 mx_174 => (wX6_given_L26 x1 x2 ms Q n_ x3_171 x4_172 mr_173 mx_174)))) ∧ (¬ v_99 = x1 → (vp_in ((8 : Int32) + x4) 56 ∧ (((ms (((8 : Int32) + x4).toNatClampNeg)) = (9 : Int32) → (wX6_given_J105 x1 x2 x3 x4 v_99 (0 : Int32) (upd mr x4.toNatClampNeg ((mr x4.toNatClampNeg) + (1 : Int32))) mx (fun x3_176 x4_177 mr_178 mx_179 => (wX6_given_L26 x1 x2 ms Q n_ x3_176 x4_177 mr_178 mx_179)))) ∧ (¬ (ms (((8 : Int32) + x4).toNatClampNeg)) = (9 : Int32) → (wX6_doubts v_99 x4 ms (fun r_180 => ((r_180 = 0 → (wX6_given_J105 x1 x2 x3 x4 v_99 (0 : Int32) (upd mr x4.toNatClampNeg ((mr x4.toNatClampNeg) + (1 : Int32))) mx (fun x3_183 x4_184 mr_185 mx_186 => (wX6_given_L26 x1 x2 ms Q n_ x3_183 x4_184 mr_185 mx_186)))) ∧ (¬ r_180 = 0 → (wX6_given_J105 x1 x2 x3 x4 v_99 (1 : Int32) (upd mr x4.toNatClampNeg ((mr x4.toNatClampNeg) + (1 : Int32))) mx (fun x3_187 x4_188 mr_189 mx_190 => (wX6_given_L26 x1 x2 ms Q n_ x3_187 x4_188 mr_189 mx_190))))))))))))))) ∧ (¬ ((upd mr x4.toNatClampNeg ((mr x4.toNatClampNeg) + (1 : Int32))) x4.toNatClampNeg) ≤ x1 → (wX6_given_L26 x1 x2 ms Q n_ x3 (x4 + (-1 : Int32)) (upd mr x4.toNatClampNeg ((mr x4.toNatClampNeg) + (1 : Int32))) mx))))))))
def wX6_given (mo : Nat → Int32) (ms : Nat → Int32) (mr : Nat → Int32) (mx : Nat → Int32) (Q : Int32 → (Nat → Int32) → (Nat → Int32) → Prop) : Prop := (∀ v_1 : Int32, v_1 = (mo 0) → (∀ v_2 : Int32, v_2 = (mo 1) → (∃ n_191 : Nat, wX6_given_L26 v_1 v_2 ms Q n_191 (-1 : Int32) (0 : Int32) (upd mr 0 (-1 : Int32)) mx)))

/-! DoubtCourtModel.offices -/
def wX6_offices (x1 : Int32) (mo : Nat → Int32) (ms : Nat → Int32) (mr : Nat → Int32) (mx : Nat → Int32) (Q : Int32 → (Nat → Int32) → (Nat → Int32) → Prop) : Prop := ((x1 = (-1 : Int32) → (wX6_given mo ms mr mx (fun r_2 mr_3 mx_4 => ((x1 = (-1 : Int32) → (Q r_2 mr_3 mx_4)) ∧ (¬ x1 = (-1 : Int32) → (vp_in x1 6 ∧ (((mx_4 x1.toNatClampNeg) = (mo 0) → (Q (-4 : Int32) mr_3 mx_4)) ∧ (¬ (mx_4 x1.toNatClampNeg) = (mo 0) → (vp_in x1 6 ∧ (Q (mx_4 x1.toNatClampNeg) mr_3 mx_4)))))))))) ∧ (¬ x1 = (-1 : Int32) → (wX6_isNews x1 mo (fun r_7 => ((r_7 = 0 → (Q (-1 : Int32) mr mx)) ∧ (¬ r_7 = 0 → (wX6_given mo ms mr mx (fun r_10 mr_11 mx_12 => ((x1 = (-1 : Int32) → (Q r_10 mr_11 mx_12)) ∧ (¬ x1 = (-1 : Int32) → (vp_in x1 6 ∧ (((mx_12 x1.toNatClampNeg) = (mo 0) → (Q (-4 : Int32) mr_11 mx_12)) ∧ (¬ (mx_12 x1.toNatClampNeg) = (mo 0) → (vp_in x1 6 ∧ (Q (mx_12 x1.toNatClampNeg) mr_11 mx_12)))))))))))))))

/-! DoubtCourtModel.mute -/
def wX6_mute_L4 (mo : Nat → Int32) (ms : Nat → Int32) (Q : Int32 → Prop) : Nat → Int32 → Int32 → Prop
  | 0, _, _ => False
  | n_ + 1, x1, x2 => (((mo 1) ≤ x2 → (Q x1)) ∧ (¬ (mo 1) ≤ x2 → (vp_in ((8 : Int32) + x2) 56 ∧ (((ms (((8 : Int32) + x2).toNatClampNeg)) = (9 : Int32) → (∀ v_10 : Int32, v_10 = (x1 ||| (0 : Int32)) → (wX6_mute_L4 mo ms Q n_ v_10 (x2 + (1 : Int32))))) ∧ (¬ (ms (((8 : Int32) + x2).toNatClampNeg)) = (9 : Int32) → (wX6_doubters x2 mo ms (fun r_11 => ((r_11 = 0 → (∀ v_14 : Int32, v_14 = (x1 ||| ((1 : Int32) <<< (x2 &&& 31))) → (wX6_mute_L4 mo ms Q n_ v_14 (x2 + (1 : Int32))))) ∧ (¬ r_11 = 0 → (∀ v_13 : Int32, v_13 = (x1 ||| (0 : Int32)) → (wX6_mute_L4 mo ms Q n_ v_13 (x2 + (1 : Int32)))))))))))))
def wX6_mute (mo : Nat → Int32) (ms : Nat → Int32) (Q : Int32 → Prop) : Prop := (∃ n_15 : Nat, wX6_mute_L4 mo ms Q n_15 (0 : Int32) (0 : Int32))

/-! DoubtCourtModel.see -/
def wX6_see_J14 (x1 : Int32) (x2 : Int32) (mn : Nat → Int32) (mz : Int32) (Q : Int32 → (Nat → Int32) → Int32 → Prop) : Prop := (wX6_in x2 (0 : Int32) (20 : Int32) (fun r_2 => ((r_2 = 0 → (Q (-1 : Int32) mn mz)) ∧ (¬ r_2 = 0 → ((mz = (6 : Int32) → (Q (-3 : Int32) mn mz)) ∧ (¬ mz = (6 : Int32) → (vp_in ((2 : Int32) * mz) 12 ∧ (vp_in (((2 : Int32) * mz) + (1 : Int32)) 12 ∧ (Q (mz + (1 : Int32)) (upd (upd mn (((2 : Int32) * mz).toNatClampNeg) x1) ((((2 : Int32) * mz) + (1 : Int32)).toNatClampNeg) x2) (mz + (1 : Int32)))))))))))
def wX6_see (x1 : Int32) (x2 : Int32) (mo : Nat → Int32) (mn : Nat → Int32) (mz : Int32) (Q : Int32 → (Nat → Int32) → Int32 → Prop) : Prop := ((x1 = (9 : Int32) → (wX6_see_J14 x1 x2 mn mz Q)) ∧ (¬ x1 = (9 : Int32) → (wX6_isCourtier x1 mo (fun r_6 => ((r_6 = 0 → (Q (-1 : Int32) mn mz)) ∧ (¬ r_6 = 0 → (wX6_see_J14 x1 x2 mn mz Q)))))))

/-! DoubtCourtModel.forget -/
def wX6_forget (mz : Int32) (Q : Int32 → Int32 → Prop) : Prop := (Q mz (0 : Int32))

/-! DoubtCourtModel.whichNow -/
def wX6_whichNow_L38 (x2 : Int32) (x3 : Int32) (ms : Nat → Int32) (mn : Nat → Int32) (mz : Int32) (K25 : Int32 → Int32 → Prop) : Nat → Int32 → Int32 → Prop
  | 0, _, _ => False
  | n_ + 1, x1, x4 => ((mz ≤ x4 → (K25 x1 (x3 + (1 : Int32)))) ∧ (¬ mz ≤ x4 → (vp_in (((2 : Int32) * x4) + (1 : Int32)) 12 ∧ (((mn ((((2 : Int32) * x4) + (1 : Int32)).toNatClampNeg)) = x2 → (vp_in ((8 : Int32) + x3) 56 ∧ (vp_in ((2 : Int32) * x4) 12 ∧ (((ms (((8 : Int32) + x3).toNatClampNeg)) = (mn (((2 : Int32) * x4).toNatClampNeg)) → (∀ v_79 : Int32, v_79 = (x1 &&& (-1 : Int32)) → (wX6_whichNow_L38 x2 x3 ms mn mz K25 n_ v_79 (x4 + (1 : Int32))))) ∧ (¬ (ms (((8 : Int32) + x3).toNatClampNeg)) = (mn (((2 : Int32) * x4).toNatClampNeg)) → (∀ v_80 : Int32, v_80 = (x1 &&& (((1 : Int32) <<< (x3 &&& 31)) ^^^ (-1 : Int32))) → (wX6_whichNow_L38 x2 x3 ms mn mz K25 n_ v_80 (x4 + (1 : Int32))))))))) ∧ (¬ (mn ((((2 : Int32) * x4) + (1 : Int32)).toNatClampNeg)) = x2 → (∀ v_77 : Int32, v_77 = (x1 &&& (-1 : Int32)) → (wX6_whichNow_L38 x2 x3 ms mn mz K25 n_ v_77 (x4 + (1 : Int32)))))))))
def wX6_whichNow_L25 (x2 : Int32) (mo : Nat → Int32) (ms : Nat → Int32) (mn : Nat → Int32) (mz : Int32) (mh : Nat → Int32) (K17 : Int32 → Int32 → (Nat → Int32) → (Nat → Int32) → Prop) : Nat → Int32 → Int32 → Prop
  | 0, _, _ => False
  | n_ + 1, x1, x3 => (((mo 1) ≤ x3 → (wX6_passes mo ms mh (fun ms_67 mh_68 => (K17 x1 (x2 + (1 : Int32)) ms_67 mh_68)))) ∧ (¬ (mo 1) ≤ x3 → (∃ n_83 : Nat, wX6_whichNow_L38 x2 x3 ms mn mz (fun x1_81 x3_82 => (wX6_whichNow_L25 x2 mo ms mn mz mh K17 n_ x1_81 x3_82)) n_83 x1 (0 : Int32))))
def wX6_whichNow_L17 (mo : Nat → Int32) (mn : Nat → Int32) (mz : Int32) (mg : Nat → Int32) (Q : Int32 → (Nat → Int32) → (Nat → Int32) → (Nat → Int32) → Prop) : Nat → Int32 → Int32 → (Nat → Int32) → (Nat → Int32) → Prop
  | 0, _, _, _, _ => False
  | n_ + 1, x1, x2, ms, mh => (((20 : Int32) < x2 → (wX6_lets ms mg (fun ms_47 => (Q x1 ms_47 mh mg)))) ∧ (¬ (20 : Int32) < x2 → (∃ n_88 : Nat, wX6_whichNow_L25 x2 mo ms mn mz mh (fun x1_84 x2_85 ms_86 mh_87 => (wX6_whichNow_L17 mo mn mz mg Q n_ x1_84 x2_85 ms_86 mh_87)) n_88 x1 (0 : Int32))))
def wX6_whichNow (mo : Nat → Int32) (ms : Nat → Int32) (mn : Nat → Int32) (mz : Int32) (mh : Nat → Int32) (mg : Nat → Int32) (Q : Int32 → (Nat → Int32) → (Nat → Int32) → (Nat → Int32) → Prop) : Prop := (wX6_holds ms mg (fun mg_1 => (∀ v_2 : Int32, v_2 = (((1 : Int32) <<< ((mo 1) &&& 31)) - (1 : Int32)) → (∃ n_89 : Nat, wX6_whichNow_L17 mo mn mz mg_1 Q n_89 v_2 (0 : Int32) ms mh))))

/-! DoubtCourtModel.which -/
def wX6_which (mo : Nat → Int32) (ms : Nat → Int32) (mn : Nat → Int32) (mz : Int32) (mh : Nat → Int32) (mg : Nat → Int32) (Q : Int32 → (Nat → Int32) → (Nat → Int32) → (Nat → Int32) → Prop) : Prop := (wX6_whichNow mo ms mn mz mh mg (fun r_1 ms_2 mh_3 mg_4 => (Q r_1 ms_2 mh_3 mg_4)))

/-! DoubtCourtModel.kinds -/
def wX6_kinds_L33 (x1 : Int32) (x2 : Int32) (x3 : Int32) (mn : Nat → Int32) (mz : Int32) (Q : Int32 → (Nat → Int32) → (Nat → Int32) → (Nat → Int32) → (Nat → Int32) → Prop) : Nat → Int32 → Int32 → (Nat → Int32) → (Nat → Int32) → (Nat → Int32) → (Nat → Int32) → Prop
  | 0, _, _, _, _, _, _ => False
  | n_ + 1, x4, x5, mo, ms, mh, mg => (((3 : Int32) < x5 → (vp_in ((2 : Int32) + x1) 16 ∧ (Q x4 (upd mo (((2 : Int32) + x1).toNatClampNeg) x3) ms mh mg))) ∧ (¬ (3 : Int32) < x5 → (vp_in ((2 : Int32) + x1) 16 ∧ (wX6_whichNow (upd mo (((2 : Int32) + x1).toNatClampNeg) x5) ms mn mz mh mg (fun r_15 ms_16 mh_17 mg_18 => (∀ v_19 : Int32, v_19 = (x4 ||| (((r_15 >>> (x2 &&& 31)) &&& (1 : Int32)) <<< (x5 &&& 31))) → (wX6_kinds_L33 x1 x2 x3 mn mz Q n_ v_19 (x5 + (1 : Int32)) (upd mo (((2 : Int32) + x1).toNatClampNeg) x5) ms_16 mh_17 mg_18)))))))
def wX6_kinds (x1 : Int32) (x2 : Int32) (mo : Nat → Int32) (ms : Nat → Int32) (mn : Nat → Int32) (mz : Int32) (mh : Nat → Int32) (mg : Nat → Int32) (Q : Int32 → (Nat → Int32) → (Nat → Int32) → (Nat → Int32) → (Nat → Int32) → Prop) : Prop := (wX6_isCourtier x1 mo (fun r_1 => ((r_1 = 0 → (Q (-1 : Int32) mo ms mh mg)) ∧ (¬ r_1 = 0 → (wX6_isNews x2 mo (fun r_4 => ((r_4 = 0 → (Q (-1 : Int32) mo ms mh mg)) ∧ (¬ r_4 = 0 → (vp_in ((2 : Int32) + x1) 16 ∧ (∀ v_7 : Int32, v_7 = (mo (((2 : Int32) + x1).toNatClampNeg)) → (∃ n_20 : Nat, wX6_kinds_L33 x1 x2 v_7 mn mz Q n_20 (0 : Int32) (0 : Int32) mo ms mh mg)))))))))))

/-! DoubtCourtModel.slips -/
def wX6_slips_L4 (mo : Nat → Int32) (Q : (Nat → Int32) → Prop) : Nat → Int32 → Int32 → (Nat → Int32) → Prop
  | 0, _, _, _ => False
  | n_ + 1, x1, x2, ms => (((mo 1) ≤ x2 → (Q ms)) ∧ (¬ (mo 1) ≤ x2 → ((x1 = 0 → (vp_in ((8 : Int32) + x2) 56 ∧ (((ms (((8 : Int32) + x2).toNatClampNeg)) = (9 : Int32) → (wX6_slips_L4 mo Q n_ x1 (x2 + (1 : Int32)) ms)) ∧ (¬ (ms (((8 : Int32) + x2).toNatClampNeg)) = (9 : Int32) → (vp_in ((8 : Int32) + x2) 56 ∧ (vp_in ((1 : Int32) + (ms (((8 : Int32) + x2).toNatClampNeg))) 56 ∧ (wX6_whoAt ((ms (((1 : Int32) + (ms (((8 : Int32) + x2).toNatClampNeg))).toNatClampNeg)) - (1 : Int32)) mo ms (fun r_8 => (vp_in ((8 : Int32) + x2) 56 ∧ (wX6_slips_L4 mo Q n_ (1 : Int32) (x2 + (1 : Int32)) (upd ms (((8 : Int32) + x2).toNatClampNeg) r_8))))))))))) ∧ (¬ x1 = 0 → (Q ms)))))
def wX6_slips (mo : Nat → Int32) (ms : Nat → Int32) (Q : (Nat → Int32) → Prop) : Prop := (∃ n_9 : Nat, wX6_slips_L4 mo Q n_9 (0 : Int32) (0 : Int32) ms)

/-! DoubtCourtModel.tongues -/
def wX6_tongues_L53 (x2 : Int32) (K72 : Int32 → Prop) : Nat → Int32 → Int32 → Prop
  | 0, _, _ => False
  | n_ + 1, x6, x7 => ((x2 ≤ x7 → (K72 x6)) ∧ (¬ x2 ≤ x7 → (∀ v_17 : Int32, v_17 = (x6 * (10 : Int32)) → (wX6_tongues_L53 x2 K72 n_ v_17 (x7 + (1 : Int32))))))
def wX6_tongues_L89 (x2 : Int32) (x3 : Int32) (x7 : Int32) (mo : Nat → Int32) (K150 : Int32 → (Nat → Int32) → (Nat → Int32) → Prop) : Nat → Int32 → Int32 → (Nat → Int32) → (Nat → Int32) → Prop
  | 0, _, _, _, _ => False
  | n_ + 1, x8, x9, ms, mh => ((x2 ≤ x9 → (K150 x8 ms mh)) ∧ (¬ x2 ≤ x9 → ((((x7 >>> (x9 &&& 31)) &&& (1 : Int32)) = (1 : Int32) → (∀ v_62 : Int32, v_62 = (x8 * x3) → (wX6_slips mo ms (fun ms_63 => (wX6_passes mo ms_63 mh (fun ms_64 mh_65 => (wX6_tongues_L89 x2 x3 x7 mo K150 n_ v_62 (x9 + (1 : Int32)) ms_64 mh_65))))))) ∧ (¬ ((x7 >>> (x9 &&& 31)) &&& (1 : Int32)) = (1 : Int32) → (∀ v_59 : Int32, v_59 = (x8 * ((10 : Int32) - x3)) → (wX6_passes mo ms mh (fun ms_60 mh_61 => (wX6_tongues_L89 x2 x3 x7 mo K150 n_ v_59 (x9 + (1 : Int32)) ms_60 mh_61))))))))
def wX6_tongues_L75 (x1 : Int32) (x2 : Int32) (x3 : Int32) (mo : Nat → Int32) (mg : Nat → Int32) (K185 : Int32 → (Nat → Int32) → (Nat → Int32) → Prop) : Nat → Int32 → Int32 → (Nat → Int32) → (Nat → Int32) → Prop
  | 0, _, _, _, _ => False
  | n_ + 1, x5, x7, ms, mh => ((((1 : Int32) <<< (x2 &&& 31)) ≤ x7 → (K185 x5 ms mh)) ∧ (¬ ((1 : Int32) <<< (x2 &&& 31)) ≤ x7 → (∃ n_74 : Nat, wX6_tongues_L89 x2 x3 x7 mo (fun x8_66 ms_67 mh_68 => (vp_in ((8 : Int32) + x1) 56 ∧ (((ms_67 (((8 : Int32) + x1).toNatClampNeg)) = (9 : Int32) → (∀ v_72 : Int32, v_72 = (x5 + x8_66) → (wX6_lets ms_67 mg (fun ms_73 => (wX6_tongues_L75 x1 x2 x3 mo mg K185 n_ v_72 (x7 + (1 : Int32)) ms_73 mh_68))))) ∧ (¬ (ms_67 (((8 : Int32) + x1).toNatClampNeg)) = (9 : Int32) → (∀ v_70 : Int32, v_70 = (x5 + (0 : Int32)) → (wX6_lets ms_67 mg (fun ms_71 => (wX6_tongues_L75 x1 x2 x3 mo mg K185 n_ v_70 (x7 + (1 : Int32)) ms_71 mh_68)))))))) n_74 (1 : Int32) (0 : Int32) ms mh)))
def wX6_tongues_L193 (x4 : Int32) (x5 : Int32) (x6 : Int32) (ms : Nat → Int32) (mh : Nat → Int32) (mg : Nat → Int32) (Q : Int32 → (Nat → Int32) → (Nat → Int32) → (Nat → Int32) → Prop) : Nat → Int32 → Int32 → Prop
  | 0, _, _ => False
  | n_ + 1, x7, x8 => ((x8 ≤ 0 → ((x4 = 0 → (¬ x7 = 0 ∧ (Q (x5 / x7) ms mh mg))) ∧ (¬ x4 = 0 → (¬ x7 = 0 ∧ (Q (x6 / x7) ms mh mg))))) ∧ (¬ x8 ≤ 0 → (¬ x8 = 0 ∧ (∀ v_83 : Int32, v_83 = (x7 - x7 / x8 * x8) → (wX6_tongues_L193 x4 x5 x6 ms mh mg Q n_ x8 v_83)))))
def wX6_tongues (x1 : Int32) (x2 : Int32) (x3 : Int32) (x4 : Int32) (mo : Nat → Int32) (ms : Nat → Int32) (mh : Nat → Int32) (mg : Nat → Int32) (Q : Int32 → (Nat → Int32) → (Nat → Int32) → (Nat → Int32) → Prop) : Prop := (wX6_isNews x1 mo (fun r_1 => ((r_1 = 0 → (Q (-1 : Int32) ms mh mg)) ∧ (¬ r_1 = 0 → (wX6_in x2 (0 : Int32) (8 : Int32) (fun r_4 => ((r_4 = 0 → (Q (-1 : Int32) ms mh mg)) ∧ (¬ r_4 = 0 → (wX6_in x3 (0 : Int32) (10 : Int32) (fun r_7 => ((r_7 = 0 → (Q (-1 : Int32) ms mh mg)) ∧ (¬ r_7 = 0 → (wX6_in x4 (0 : Int32) (1 : Int32) (fun r_10 => ((r_10 = 0 → (Q (-1 : Int32) ms mh mg)) ∧ (¬ r_10 = 0 → (wX6_holds ms mg (fun mg_13 => (∃ n_86 : Nat, wX6_tongues_L53 x2 (fun x6_18 => (∃ n_85 : Nat, wX6_tongues_L75 x1 x2 x3 mo mg_13 (fun x5_75 ms_76 mh_77 => (∃ n_84 : Nat, wX6_tongues_L193 x4 x5_75 x6_18 ms_76 mh_77 mg_13 Q n_84 x5_75 x6_18)) n_85 (0 : Int32) (0 : Int32) ms mh)) n_86 (1 : Int32) (0 : Int32))))))))))))))))))))

/-! DoubtCourtModel.turn -/
def wX6_turn (x1 : Int32) (mo : Nat → Int32) (ms : Nat → Int32) (Q : (Nat → Int32) → Prop) : Prop := (∀ v_1 : Int32, v_1 = (x1 - x1 / (8 : Int32) * (8 : Int32)) → (¬ (mo 0) = 0 ∧ (∀ v_2 : Int32, v_2 = ((x1 / (8 : Int32)) - (x1 / (8 : Int32)) / (mo 0) * (mo 0)) → (¬ (mo 1) = 0 ∧ (∀ v_3 : Int32, v_3 = ((x1 / (64 : Int32)) - (x1 / (64 : Int32)) / (mo 1) * (mo 1)) → (¬ (mo 0) = 0 ∧ (∀ v_4 : Int32, v_4 = ((x1 / (64 : Int32)) - (x1 / (64 : Int32)) / (mo 0) * (mo 0)) → (∀ v_5 : Int32, v_5 = (((14 : Int32) + ((7 : Int32) * v_3)) + v_2) → (((2 : Int32) ≤ v_1 → ((v_1 = (2 : Int32) → (vp_in ((8 : Int32) + v_3) 56 ∧ (((ms (((8 : Int32) + v_3).toNatClampNeg)) = (9 : Int32) → ((v_1 = (3 : Int32) → ((v_2 = v_4 → (Q ms)) ∧ (¬ v_2 = v_4 → (wX6_changes v_2 v_4 ms (fun ms_14 => (Q ms_14)))))) ∧ (¬ v_1 = (3 : Int32) → (Q ms)))) ∧ (¬ (ms (((8 : Int32) + v_3).toNatClampNeg)) = (9 : Int32) → (vp_in ((8 : Int32) + v_3) 56 ∧ (Q (upd ms (((8 : Int32) + v_3).toNatClampNeg) v_2))))))) ∧ (¬ v_1 = (2 : Int32) → ((v_1 = (3 : Int32) → ((v_2 = v_4 → (Q ms)) ∧ (¬ v_2 = v_4 → (wX6_changes v_2 v_4 ms (fun ms_10 => (Q ms_10)))))) ∧ (¬ v_1 = (3 : Int32) → (Q ms)))))) ∧ (¬ (2 : Int32) ≤ v_1 → (vp_in v_5 56 ∧ ((v_1 = 0 → (wX6_within ((ms v_5.toNatClampNeg) + (3 : Int32)) (fun r_17 => (vp_in v_5 56 ∧ (Q (upd ms v_5.toNatClampNeg r_17)))))) ∧ (¬ v_1 = 0 → (wX6_within ((ms v_5.toNatClampNeg) + (-3 : Int32)) (fun r_16 => (vp_in v_5 56 ∧ (Q (upd ms v_5.toNatClampNeg r_16))))))))))))))))))

/-! DoubtCourtModel.beliefs -/
def wX6_beliefs_L5 (ms : Nat → Int32) (Q : Int32 → Prop) : Nat → Int32 → Int32 → Prop
  | 0, _, _ => False
  | n_ + 1, x1, x2 => (((56 : Int32) ≤ x2 → (Q x1)) ∧ (¬ (56 : Int32) ≤ x2 → (vp_in x2 56 ∧ (∀ v_4 : Int32, v_4 = (x1 + (ms x2.toNatClampNeg)) → (wX6_beliefs_L5 ms Q n_ v_4 (x2 + (1 : Int32)))))))
def wX6_beliefs (ms : Nat → Int32) (Q : Int32 → Prop) : Prop := (∃ n_5 : Nat, wX6_beliefs_L5 ms Q n_5 (0 : Int32) (14 : Int32))

/-! DoubtCourtModel.reign -/
def wX6_reign_L39 (x1 : Int32) (x2 : Int32) (mo : Nat → Int32) (K87 : (Nat → Int32) → (Nat → Int32) → Prop) : Nat → Int32 → (Nat → Int32) → (Nat → Int32) → Prop
  | 0, _, _, _ => False
  | n_ + 1, x4, ms, mh => ((x2 ≤ x4 → (K87 ms mh)) ∧ (¬ x2 ≤ x4 → (∀ v_17 : Int64, v_17 = ((((7919 : Int64) * ((x1).toInt64)) + ((6151 : Int64) * ((x4).toInt64))) + (1 : Int64)) → (wX6_turn ((((v_17 * v_17) - (v_17 * v_17) / (65521 : Int64) * (65521 : Int64))).toInt32) mo ms (fun ms_18 => (wX6_passes mo ms_18 mh (fun ms_19 mh_20 => (wX6_reign_L39 x1 x2 mo K87 n_ (x4 + (1 : Int32)) ms_19 mh_20))))))))
def wX6_reign (x1 : Int32) (x2 : Int32) (x3 : Int32) (mo : Nat → Int32) (ms : Nat → Int32) (mh : Nat → Int32) (mg : Nat → Int32) (Q : Int32 → (Nat → Int32) → (Nat → Int32) → (Nat → Int32) → Prop) : Prop := (wX6_in x1 (0 : Int32) (9999 : Int32) (fun r_1 => ((r_1 = 0 → (Q (-1 : Int32) ms mh mg)) ∧ (¬ r_1 = 0 → (wX6_in x2 (1 : Int32) (60 : Int32) (fun r_4 => ((r_4 = 0 → (Q (-1 : Int32) ms mh mg)) ∧ (¬ r_4 = 0 → (wX6_in x3 (0 : Int32) (1 : Int32) (fun r_7 => ((r_7 = 0 → (Q (-1 : Int32) ms mh mg)) ∧ (¬ r_7 = 0 → (wX6_holds ms mg (fun mg_10 => (∃ n_28 : Nat, wX6_reign_L39 x1 x2 mo (fun ms_21 mh_22 => ((x3 = 0 → (wX6_manyKnown mo ms_21 (fun r_26 => (wX6_lets ms_21 mg_10 (fun ms_27 => (Q r_26 ms_27 mh_22 mg_10)))))) ∧ (¬ x3 = 0 → (wX6_beliefs ms_21 (fun r_24 => (wX6_lets ms_21 mg_10 (fun ms_25 => (Q r_24 ms_25 mh_22 mg_10)))))))) n_28 (0 : Int32) ms mh)))))))))))))))

/-! DoubtCourtModel.keep -/
def wX6_keep_L13 (ms : Nat → Int32) (mq : Int32) (Q : Int32 → (Nat → Int32) → Int32 → Prop) : Nat → Int32 → (Nat → Int32) → Prop
  | 0, _, _ => False
  | n_ + 1, x1, mi => (((56 : Int32) ≤ x1 → (Q (mq + (1 : Int32)) mi (mq + (1 : Int32)))) ∧ (¬ (56 : Int32) ≤ x1 → (vp_in x1 56 ∧ (vp_in (((56 : Int32) * mq) + x1) 112 ∧ (wX6_keep_L13 ms mq Q n_ (x1 + (1 : Int32)) (upd mi ((((56 : Int32) * mq) + x1).toNatClampNeg) (ms x1.toNatClampNeg)))))))
def wX6_keep (ms : Nat → Int32) (mi : Nat → Int32) (mq : Int32) (Q : Int32 → (Nat → Int32) → Int32 → Prop) : Prop := ((mq = (2 : Int32) → (Q (-3 : Int32) mi mq)) ∧ (¬ mq = (2 : Int32) → (∃ n_4 : Nat, wX6_keep_L13 ms mq Q n_4 (0 : Int32) mi)))

/-! DoubtCourtModel.back -/
def wX6_back_L22 (mi : Nat → Int32) (mq : Int32) (Q : Int32 → (Nat → Int32) → Int32 → Int32 → Prop) : Nat → Int32 → (Nat → Int32) → Prop
  | 0, _, _ => False
  | n_ + 1, x1, ms => (((56 : Int32) ≤ x1 → (Q mq ms (0 : Int32) mq)) ∧ (¬ (56 : Int32) ≤ x1 → (vp_in (((56 : Int32) * mq) + x1) 112 ∧ (vp_in x1 56 ∧ (wX6_back_L22 mi mq Q n_ (x1 + (1 : Int32)) (upd ms x1.toNatClampNeg (mi ((((56 : Int32) * mq) + x1).toNatClampNeg))))))))
def wX6_back (ms : Nat → Int32) (mk : Int32) (mi : Nat → Int32) (mq : Int32) (Q : Int32 → (Nat → Int32) → Int32 → Int32 → Prop) : Prop := ((mq = 0 → (Q (-2 : Int32) ms mk mq)) ∧ (¬ mq = 0 → (∃ n_4 : Nat, wX6_back_L22 mi (mq - (1 : Int32)) Q n_4 (0 : Int32) ms)))

/-! DoubtCourtModel.count -/
def wX6_count (x1 : Int32) (my : Int32) (mo : Nat → Int32) (ms : Nat → Int32) (mk : Int32) (mq : Int32) (mz : Int32) (Q : Int32 → Prop) : Prop := (((x1.toInt < 0 ∨ 8 < x1.toInt) → (Q (-1 : Int32))) ∧ (x1 = 0 → (Q (mo 0))) ∧ (x1 = 1 → (Q (mo 1))) ∧ (x1 = 2 → (Q (ms 0))) ∧ (x1 = 3 → (wX6_manyKnown mo ms (fun r_2 => (Q r_2)))) ∧ (x1 = 4 → (wX6_beliefs ms (fun r_3 => (Q r_3)))) ∧ (x1 = 5 → (Q mz)) ∧ (x1 = 6 → (Q mk)) ∧ (x1 = 7 → (Q mq)) ∧ (x1 = 8 → (Q my)))

/-! DoubtCourt$Shelf.clear -/
def wX2_clear (Q : Int32 → Prop) : Prop := (Q (0 : Int32))

/-! DoubtCourt$Shelf.drop -/
def wX2_drop (ru : Int32) (Q : Int32 → Prop) : Prop := (Q (if (0 : Int32) < (ru - (1 : Int32)) then (ru - (1 : Int32)) else (0 : Int32)))
