/-! DoubtCourt.isIn -/
abbrev rmX5_isIn : Room := { frames := 0, cells := 0, slots := 0, locals := 0 }
theorem yoX5_isIn : yX5_isIn.cls ≠ "java/lang/invoke/MethodHandle" ∧ yX5_isIn.cls ≠ "java/lang/invoke/VarHandle" ∧ (parseMethodDescriptor yX5_isIn.desc).map (fun d => d.parameters.length) = some 3 := by decide +kernel
set_option maxHeartbeats 4000000 in
set_option maxRecDepth 100000 in
theorem c_X5_isIn (l : Launch) (D : va_G) (cI cC cQ : ClassId) (x0 : Int32) (x1 : Int32) (x2 : Int32) (Q : Int32 → Prop) (h : wX5_isIn x0 x1 x2 Q) : Ci (S := Unit) l D cI cC cQ yX5_isIn wsX5_isIn rmX5_isIn [.int x0, .int x1, .int x2] [] (fun _ => []) (fun r _ => (r = 0 ∨ r = 1) ∧ Q r) := by
  refine Cz_mk (cc := cX5_isIn) (maxL := 3) (by decide) rfl (Nat.le_of_ble_eq_true rfl) ?_
  intro p e s m args below meth c A Z ls hx hb hml hown hts hK hA hP hD hret hl
  have hS : va_S A s.heap s.heap [] := va_S.rf
  have hl : lv_has ls 3 [(0, .int x0), (1, .int x1), (2, .int x2)] := hl
  refine lv_iload_n hx hb dX5_isIn_0 rfl (lv_at hl 0 rfl) ?_
  refine lv_iload_n hx hb dX5_isIn_1 rfl (lv_at hl 1 rfl) ?_
  refine lv_icmp_lt (tgt := 14) hx hb dX5_isIn_2 (by decide) (fun c_1 => ?_) (fun c_1 => ?_)
  · have h := h.1 c_1
    refine lv_iconst (v := 0) hx hb dX5_isIn_14 (by decide) ?_
    exact hret (0 : Int32) () _ _ _ ls (by decide) h hP hD hS dX5_isIn_15
  · have h := h.2 c_1
    refine lv_iload_n hx hb dX5_isIn_5 rfl (lv_at hl 0 rfl) ?_
    refine lv_iload_n hx hb dX5_isIn_6 rfl (lv_at hl 2 rfl) ?_
    refine lv_icmp_gt (tgt := 14) hx hb dX5_isIn_7 (by decide) (fun c_2 => ?_) (fun c_2 => ?_)
    · have h := h.1 c_2
      refine lv_iconst (v := 0) hx hb dX5_isIn_14 (by decide) ?_
      exact hret (0 : Int32) () _ _ _ ls (by decide) h hP hD hS dX5_isIn_15
    · have h := h.2 c_2
      refine lv_iconst (v := 1) hx hb dX5_isIn_10 (by decide) ?_
      refine lv_goto (tgt := 15) hx hb dX5_isIn_11 (by decide) ?_
      exact hret (1 : Int32) () _ _ _ ls (by decide) h hP hD hS dX5_isIn_15

/-! DoubtCourt.hasBit -/
abbrev rmX5_hasBit : Room := { frames := 0, cells := 0, slots := 0, locals := 0 }
theorem yoX5_hasBit : yX5_hasBit.cls ≠ "java/lang/invoke/MethodHandle" ∧ yX5_hasBit.cls ≠ "java/lang/invoke/VarHandle" ∧ (parseMethodDescriptor yX5_hasBit.desc).map (fun d => d.parameters.length) = some 2 := by decide +kernel
set_option maxHeartbeats 4000000 in
set_option maxRecDepth 100000 in
theorem c_X5_hasBit (l : Launch) (D : va_G) (cI cC cQ : ClassId) (x0 : Int32) (x1 : Int32) (Q : Int32 → Prop) (h : wX5_hasBit x0 x1 Q) : Ci (S := Unit) l D cI cC cQ yX5_hasBit wsX5_hasBit rmX5_hasBit [.int x0, .int x1] [] (fun _ => []) (fun r _ => (r = 0 ∨ r = 1) ∧ Q r) := by
  refine Cz_mk (cc := cX5_hasBit) (maxL := 2) (by decide) rfl (Nat.le_of_ble_eq_true rfl) ?_
  intro p e s m args below meth c A Z ls hx hb hml hown hts hK hA hP hD hret hl
  have hS : va_S A s.heap s.heap [] := va_S.rf
  have hl : lv_has ls 2 [(0, .int x0), (1, .int x1)] := hl
  refine lv_iload_n hx hb dX5_hasBit_0 rfl (lv_at hl 1 rfl) ?_
  refine lv_if_lt (tgt := 16) hx hb dX5_hasBit_1 (by decide) (fun c_1 => ?_) (fun c_1 => ?_)
  · have h := h.1 c_1
    refine lv_iconst (v := 0) hx hb dX5_hasBit_16 (by decide) ?_
    exact hret (0 : Int32) () _ _ _ ls (by decide) h hP hD hS dX5_hasBit_17
  · have h := h.2 c_1
    refine lv_iload_n hx hb dX5_hasBit_4 rfl (lv_at hl 0 rfl) ?_
    refine lv_iload_n hx hb dX5_hasBit_5 rfl (lv_at hl 1 rfl) ?_
    refine lv_ishr hx hb dX5_hasBit_6 ?_
    refine lv_iconst (v := 1) hx hb dX5_hasBit_7 (by decide) ?_
    refine lv_iand hx hb dX5_hasBit_8 ?_
    refine lv_if_eq (tgt := 16) hx hb dX5_hasBit_9 (by decide) (fun c_2 => ?_) (fun c_2 => ?_)
    · have h := h.1 c_2
      refine lv_iconst (v := 0) hx hb dX5_hasBit_16 (by decide) ?_
      exact hret (0 : Int32) () _ _ _ ls (by decide) h hP hD hS dX5_hasBit_17
    · have h := h.2 c_2
      refine lv_iconst (v := 1) hx hb dX5_hasBit_12 (by decide) ?_
      refine lv_goto (tgt := 17) hx hb dX5_hasBit_13 (by decide) ?_
      exact hret (1 : Int32) () _ _ _ ls (by decide) h hP hD hS dX5_hasBit_17

/-! DoubtCourt.of -/
abbrev rmX5_of : Room := { frames := 0, cells := 0, slots := 0, locals := 0 }
theorem yoX5_of : yX5_of.cls ≠ "java/lang/invoke/MethodHandle" ∧ yX5_of.cls ≠ "java/lang/invoke/VarHandle" ∧ (parseMethodDescriptor yX5_of.desc).map (fun d => d.parameters.length) = some 2 := by decide +kernel
set_option maxHeartbeats 4000000 in
set_option maxRecDepth 100000 in
theorem c_X5_of (l : Launch) (D : va_G) (cI cC cQ : ClassId) (a_f : Nat) (f : Nat → Int32) (n : Nat) (x1 : Int32) (Q : Int32 → Prop) (h : wX5_of x1 f n Q) : Ci (S := Unit) l D cI cC cQ yX5_of wsX5_of rmX5_of [.ref a_f, .int x1] [(a_f, .inl (cI, n, .inl f))] (fun _ => [(a_f, .inl (cI, n, .inl f))]) (fun r _ => Q r) := by
  refine Ci_mk (cc := cX5_of) (maxL := 2) (by decide) rfl (Nat.le_of_ble_eq_true rfl) ?_
  intro p e s m args below meth c A Z ls hx hb hml hown hts hK hA hP hD hret hl
  have hS : va_S A s.heap s.heap [] := va_S.rf
  have hl : lv_has ls 2 [(0, .ref a_f), (1, .int x1)] := hl
  refine lv_iload_n hx hb dX5_of_0 rfl (lv_at hl 1 rfl) ?_
  refine lv_if_lt (tgt := 16) hx hb dX5_of_1 (by decide) (fun c_1 => ?_) (fun c_1 => ?_)
  · have h := h.1 c_1
    refine lv_iconst (v := 0) hx hb dX5_of_16 (by decide) ?_
    exact hret (0 : Int32) () _ _ _ ls h hP hD hS dX5_of_17
  · have h := h.2 c_1
    refine lv_iload_n hx hb dX5_of_4 rfl (lv_at hl 1 rfl) ?_
    refine lv_aload_n hx hb dX5_of_5 rfl (lv_at hl 0 rfl) ?_
    refine va_alen (v := (nI n)) hx hb hK.1 hP 0 0 rfl rfl rfl dX5_of_6 ?_
    refine lv_icmp_ge (tgt := 16) hx hb dX5_of_7 (by decide) (fun c_2 => ?_) (fun c_2 => ?_)
    · have h := h.1 c_2
      refine lv_iconst (v := 0) hx hb dX5_of_16 (by decide) ?_
      exact hret (0 : Int32) () _ _ _ ls h hP hD hS dX5_of_17
    · have h := h.2 c_2
      refine lv_aload_n hx hb dX5_of_10 rfl (lv_at hl 0 rfl) ?_
      refine lv_iload_n hx hb dX5_of_11 rfl (lv_at hl 1 rfl) ?_
      refine z_iald (k := x1.toNatClampNeg) hx hb hK.1 hP 0 rfl rfl h.1 dX5_of_12 ?_
      have h := h.2
      refine lv_goto (tgt := 17) hx hb dX5_of_13 (by decide) ?_
      exact hret (f x1.toNatClampNeg) () _ _ _ ls h hP hD hS dX5_of_17

/-! DoubtCourt.put -/
abbrev rmX5_put : Room := { frames := 0, cells := 0, slots := 0, locals := 0 }
theorem yoX5_put : yX5_put.cls ≠ "java/lang/invoke/MethodHandle" ∧ yX5_put.cls ≠ "java/lang/invoke/VarHandle" ∧ (parseMethodDescriptor yX5_put.desc).map (fun d => d.parameters.length) = some 3 := by decide +kernel
set_option maxHeartbeats 4000000 in
set_option maxRecDepth 100000 in
theorem c_X5_put (l : Launch) (D : va_G) (cI cC cQ : ClassId) (a_f : Nat) (f : Nat → Int32) (n : Nat) (x1 : Int32) (x2 : Int32) (Q : (Nat → Int32) → Prop) (h : wX5_put x1 x2 f n Q) : Cv (S := (Nat → Int32)) l D cI cC cQ yX5_put wsX5_put rmX5_put [.ref a_f, .int x1, .int x2] [(a_f, .inl (cI, n, .inl f))] (fun u => [(a_f, .inl (cI, n, .inl u))]) (fun u => Q u) := by
  refine Cv_mk (cc := cX5_put) (maxL := 3) (by decide) rfl (Nat.le_of_ble_eq_true rfl) ?_
  intro p e s m args below meth c A Z ls hx hb hml hown hts hK hA hP hD hret hl
  have hS : va_S A s.heap s.heap [] := va_S.rf
  have hl : lv_has ls 3 [(0, .ref a_f), (1, .int x1), (2, .int x2)] := hl
  refine lv_iload_n hx hb dX5_put_0 rfl (lv_at hl 1 rfl) ?_
  refine lv_if_lt (tgt := 14) hx hb dX5_put_1 (by decide) (fun c_1 => ?_) (fun c_1 => ?_)
  · have h := h.1 c_1
    exact hret f _ _ _ ls h hP hD hS dX5_put_14
  · have h := h.2 c_1
    refine lv_iload_n hx hb dX5_put_4 rfl (lv_at hl 1 rfl) ?_
    refine lv_aload_n hx hb dX5_put_5 rfl (lv_at hl 0 rfl) ?_
    refine va_alen (v := (nI n)) hx hb hK.1 hP 0 0 rfl rfl rfl dX5_put_6 ?_
    refine lv_icmp_ge (tgt := 14) hx hb dX5_put_7 (by decide) (fun c_2 => ?_) (fun c_2 => ?_)
    · have h := h.1 c_2
      exact hret f _ _ _ ls h hP hD hS dX5_put_14
    · have h := h.2 c_2
      refine lv_aload_n hx hb dX5_put_10 rfl (lv_at hl 0 rfl) ?_
      refine lv_iload_n hx hb dX5_put_11 rfl (lv_at hl 1 rfl) ?_
      refine lv_iload_n hx hb dX5_put_12 rfl (lv_at hl 2 rfl) ?_
      refine z_iast (k := x1.toNatClampNeg) hx hb hK.1 hP hD hS 0 rfl rfl h.1 dX5_put_13 (fun H locs hP hD hS => ?_)
      have h := h.2
      have hP : va_P D vwCl [(a_f, .inl (cI, n, .inl (upd f x1.toNatClampNeg x2)))] H := hP
      have hD : va_D A [(a_f, .inl (cI, n, .inl (upd f x1.toNatClampNeg x2)))] := hD
      exact hret (upd f x1.toNatClampNeg x2) _ _ _ ls h hP hD hS dX5_put_14

/-! DoubtCourt.cutBelief -/
abbrev rmX5_cutBelief : Room := { frames := 1, cells := 0, slots := 0, locals := 21 }
theorem yoX5_cutBelief : yX5_cutBelief.cls ≠ "java/lang/invoke/MethodHandle" ∧ yX5_cutBelief.cls ≠ "java/lang/invoke/VarHandle" ∧ (parseMethodDescriptor yX5_cutBelief.desc).map (fun d => d.parameters.length) = some 1 := by decide +kernel
set_option maxHeartbeats 4000000 in
set_option maxRecDepth 100000 in
theorem c_X5_cutBelief (l : Launch) (D : va_G) (cI cC cQ : ClassId) (x0 : Int32) (Q : Int32 → Prop) (h : wX5_cutBelief x0 Q) : Ci (S := Unit) l D cI cC cQ yX5_cutBelief wsX5_cutBelief rmX5_cutBelief [.int x0] [] (fun _ => []) (fun r _ => Q r) := by
  refine Ci_mk (cc := cX5_cutBelief) (maxL := 1) (by decide) rfl (Nat.le_of_ble_eq_true rfl) ?_
  intro p e s m args below meth c A Z ls hx hb hml hown hts hK hA hP hD hret hl
  have hS : va_S A s.heap s.heap [] := va_S.rf
  have k_0 := hts (.methodLink RX5 248 Lib.Math.min.name) (by decide +kernel)
  have k_1 := hts (.static Lib.Math.min.name) (by decide +kernel)
  have k_2 := hts (.initialized "java/lang/Math") (by decide +kernel)
  have k_3 := hts (.code Lib.Math.min.name Lib.Math.min.code 2 (some .int)) (by decide +kernel)
  have k_4 := hts (.methodLink RX5 253 Lib.Math.max.name) (by decide +kernel)
  have k_5 := hts (.static Lib.Math.max.name) (by decide +kernel)
  have k_6 := hts (.code Lib.Math.max.name Lib.Math.max.code 2 (some .int)) (by decide +kernel)
  have hl : lv_has ls 1 [(0, .int x0)] := hl
  refine lv_iconst (v := 0) hx hb dX5_cutBelief_0 (by decide) ?_
  refine lv_bipush (v := 9) hx hb dX5_cutBelief_1 (by decide) ?_
  refine lv_iload_n hx hb dX5_cutBelief_3 rfl (lv_at hl 0 rfl) ?_
  refine va_mmin hx hb (hml.trans hl.1.symm) hown (k_0) (k_1) (k_2) (k_3) (Nat.le_of_ble_eq_true rfl) (Nat.le_of_ble_eq_true rfl) (Nat.zero_le _) (Nat.zero_le _) dX5_cutBelief_4 ?_
  refine va_mmax hx hb (hml.trans hl.1.symm) hown (k_4) (k_5) (k_2) (k_6) (Nat.le_of_ble_eq_true rfl) (Nat.le_of_ble_eq_true rfl) (Nat.zero_le _) (Nat.zero_le _) dX5_cutBelief_7 ?_
  exact hret (if (0 : Int32) < (if x0 < (9 : Int32) then x0 else (9 : Int32)) then (if x0 < (9 : Int32) then x0 else (9 : Int32)) else (0 : Int32)) () _ _ _ ls h hP hD hS dX5_cutBelief_10

/-! DoubtCourt.remainder -/
abbrev rmX5_remainder : Room := { frames := 0, cells := 0, slots := 0, locals := 0 }
theorem yoX5_remainder : yX5_remainder.cls ≠ "java/lang/invoke/MethodHandle" ∧ yX5_remainder.cls ≠ "java/lang/invoke/VarHandle" ∧ (parseMethodDescriptor yX5_remainder.desc).map (fun d => d.parameters.length) = some 2 := by decide +kernel
set_option maxHeartbeats 4000000 in
set_option maxRecDepth 100000 in
theorem c_X5_remainder (l : Launch) (D : va_G) (cI cC cQ : ClassId) (x0 : Int32) (x1 : Int32) (Q : Int32 → Prop) (h : wX5_remainder x0 x1 Q) : Ci (S := Unit) l D cI cC cQ yX5_remainder wsX5_remainder rmX5_remainder [.int x0, .int x1] [] (fun _ => []) (fun r _ => Q r) := by
  refine Ci_mk (cc := cX5_remainder) (maxL := 2) (by decide) rfl (Nat.le_of_ble_eq_true rfl) ?_
  intro p e s m args below meth c A Z ls hx hb hml hown hts hK hA hP hD hret hl
  have hS : va_S A s.heap s.heap [] := va_S.rf
  have hl : lv_has ls 2 [(0, .int x0), (1, .int x1)] := hl
  refine lv_iload_n hx hb dX5_remainder_0 rfl (lv_at hl 1 rfl) ?_
  refine lv_iconst (v := 1) hx hb dX5_remainder_1 (by decide) ?_
  refine lv_icmp_ge (tgt := 9) hx hb dX5_remainder_2 (by decide) (fun c_1 => ?_) (fun c_1 => ?_)
  · have h := h.1 c_1
    refine lv_iload_n hx hb dX5_remainder_9 rfl (lv_at hl 0 rfl) ?_
    refine lv_iload_n hx hb dX5_remainder_10 rfl (lv_at hl 1 rfl) ?_
    refine lv_irem hx hb dX5_remainder_11 h.1 ?_
    have h := h.2
    exact hret (x0 - x0 / x1 * x1) () _ _ _ ls h hP hD hS dX5_remainder_12
  · have h := h.2 c_1
    refine lv_iconst (v := 0) hx hb dX5_remainder_5 (by decide) ?_
    refine lv_goto (tgt := 12) hx hb dX5_remainder_6 (by decide) ?_
    exact hret (0 : Int32) () _ _ _ ls h hP hD hS dX5_remainder_12

/-! DoubtCourt.commonDivisor -/
abbrev rmX5_commonDivisor : Room := { frames := 0, cells := 0, slots := 0, locals := 0 }
theorem yoX5_commonDivisor : yX5_commonDivisor.cls ≠ "java/lang/invoke/MethodHandle" ∧ yX5_commonDivisor.cls ≠ "java/lang/invoke/VarHandle" ∧ (parseMethodDescriptor yX5_commonDivisor.desc).map (fun d => d.parameters.length) = some 2 := by decide +kernel
set_option maxHeartbeats 4000000 in
set_option maxRecDepth 100000 in
theorem c_X5_commonDivisor (l : Launch) (D : va_G) (cI cC cQ : ClassId) (x0 : Int32) (x1 : Int32) (Q : Int32 → Prop) (h : wX5_commonDivisor x0 x1 Q) : Ci (S := Unit) l D cI cC cQ yX5_commonDivisor wsX5_commonDivisor rmX5_commonDivisor [.int x0, .int x1] [] (fun _ => []) (fun r _ => Q r) := by
  refine Ci_mk (cc := cX5_commonDivisor) (maxL := 4) (by decide) rfl (Nat.le_of_ble_eq_true rfl) ?_
  intro p e s m args below meth c A Z ls hx hb hml hown hts hK hA hP hD hret hl
  have hS : va_S A s.heap s.heap [] := va_S.rf
  have hl : lv_has ls 4 [(0, .int x0), (1, .int x1)] := hl
  have L2 : ∀ (n : Nat) {x0 : Int32} {x1 : Int32} {x2 : Int32} {H : Heap} {locs : List Loc} {ls : Array Slot}, wX5_commonDivisor_L2 Q n x0 x1 x2 → va_P D vwCl [] H → va_D A [] → va_S A s.heap H locs → lv_has ls 4 [(0, .int x0), (1, .int x1), (2, .int x2)] → W p l e rmX5_commonDivisor s m args below meth c H locs 0 0 Z (F0 m 2 ls []) := by
    intro n
    induction n with
    | zero =>
      intro x0 x1 x2 H locs ls h hP hD hS hl
      exact (show False from h).elim
    | succ n ih =>
      intro x0 x1 x2 H locs ls h hP hD hS hl
      refine lv_iload_n hx hb dX5_commonDivisor_2 rfl (lv_at hl 2 rfl) ?_
      refine lv_bipush (v := 100) hx hb dX5_commonDivisor_3 (by decide) ?_
      refine lv_icmp_ge (tgt := 26) hx hb dX5_commonDivisor_5 (by decide) (fun c_4 => ?_) (fun c_4 => ?_)
      · have h := h.1 c_4
        refine lv_iload_n hx hb dX5_commonDivisor_26 rfl (lv_at hl 0 rfl) ?_
        exact hret x0 () _ _ _ ls h hP hD hS dX5_commonDivisor_27
      · have h := h.2 c_4
        refine lv_iload_n hx hb dX5_commonDivisor_8 rfl (lv_at hl 1 rfl) ?_
        refine lv_if_le (tgt := 26) hx hb dX5_commonDivisor_9 (by decide) (fun c_5 => ?_) (fun c_5 => ?_)
        · have h := h.1 c_5
          refine lv_iload_n hx hb dX5_commonDivisor_26 rfl (lv_at hl 0 rfl) ?_
          exact hret x0 () _ _ _ ls h hP hD hS dX5_commonDivisor_27
        · have h := h.2 c_5
          refine lv_iload_n hx hb dX5_commonDivisor_12 rfl (lv_at hl 0 rfl) ?_
          refine lv_iload_n hx hb dX5_commonDivisor_13 rfl (lv_at hl 1 rfl) ?_
          refine lv_irem hx hb dX5_commonDivisor_14 h.1 ?_
          have h := h.2
          refine lv_topi (fun v_6 ev_6 => ?_)
          have h := h v_6 ev_6
          refine lv_istore_n (lv' := [(3, .int v_6), (0, .int x0), (1, .int x1), (2, .int x2)]) hx hb dX5_commonDivisor_15 rfl hl (by decide) rfl (fun ls hl => ?_)
          refine lv_iload_n hx hb dX5_commonDivisor_16 rfl (lv_at hl 2 rfl) ?_
          refine lv_istore_n (lv' := [(0, .int x1), (3, .int v_6), (1, .int x1), (2, .int x2)]) hx hb dX5_commonDivisor_17 rfl hl (by decide) rfl (fun ls hl => ?_)
          refine lv_iload_n hx hb dX5_commonDivisor_18 rfl (lv_at hl 1 rfl) ?_
          refine lv_istore_n (lv' := [(1, .int v_6), (0, .int x1), (3, .int v_6), (2, .int x2)]) hx hb dX5_commonDivisor_19 rfl hl (by decide) rfl (fun ls hl => ?_)
          refine lv_iinc (v := (x2 + (1 : Int32))) (lv' := [(2, .int (x2 + (1 : Int32))), (1, .int v_6), (0, .int x1), (3, .int v_6)]) hx hb dX5_commonDivisor_20 hl (k := 3) rfl rfl (by decide) rfl (fun ls hl => ?_)
          refine lv_goto (tgt := 2) hx hb dX5_commonDivisor_23 (by decide) ?_
          exact ih h hP hD hS (lv_sub hl [2, 1, 0] rfl)
  refine lv_iconst (v := 0) hx hb dX5_commonDivisor_0 (by decide) ?_
  refine lv_istore_n (lv' := [(2, .int (0 : Int32)), (0, .int x0), (1, .int x1)]) hx hb dX5_commonDivisor_1 rfl hl (by decide) rfl (fun ls hl => ?_)
  obtain ⟨n_7, h⟩ := h
  exact L2 n_7 h hP hD hS (lv_sub hl [1, 2, 0] rfl)

/-! DoubtCourt.draw -/
abbrev rmX5_draw : Room := { frames := 0, cells := 0, slots := 0, locals := 0 }
theorem yoX5_draw : yX5_draw.cls ≠ "java/lang/invoke/MethodHandle" ∧ yX5_draw.cls ≠ "java/lang/invoke/VarHandle" ∧ (parseMethodDescriptor yX5_draw.desc).map (fun d => d.parameters.length) = some 2 := by decide +kernel
set_option maxHeartbeats 4000000 in
set_option maxRecDepth 100000 in
theorem c_X5_draw (l : Launch) (D : va_G) (cI cC cQ : ClassId) (x0 : Int32) (x1 : Int32) (Q : Int32 → Prop) (h : wX5_draw x0 x1 Q) : Ci (S := Unit) l D cI cC cQ yX5_draw wsX5_draw rmX5_draw [.int x0, .int x1] [] (fun _ => []) (fun r _ => Q r) := by
  refine Ci_mk (cc := cX5_draw) (maxL := 4) (by decide) rfl (Nat.le_of_ble_eq_true rfl) ?_
  intro p e s m args below meth c A Z ls hx hb hml hown hts hK hA hP hD hret hl
  have hS : va_S A s.heap s.heap [] := va_S.rf
  have k_0 := hts (.constantLong RX5 242 (7919)) (by decide +kernel)
  have k_1 := hts (.constantLong RX5 244 (6151)) (by decide +kernel)
  have k_2 := hts (.constantLong RX5 246 (65521)) (by decide +kernel)
  have hl : lv_has ls 4 [(0, .int x0), (1, .int x1)] := hl
  refine lv_ldc2 (v := 7919) hx hb hown (k_0) dX5_draw_0 ?_
  refine lv_iload_n hx hb dX5_draw_3 rfl (lv_at hl 0 rfl) ?_
  refine lv_i2l (v := (x0).toInt64) hx hb dX5_draw_4 rfl ?_
  refine lv_lmul hx hb dX5_draw_5 ?_
  refine lv_ldc2 (v := 6151) hx hb hown (k_1) dX5_draw_6 ?_
  refine lv_iload_n hx hb dX5_draw_9 rfl (lv_at hl 1 rfl) ?_
  refine lv_i2l (v := (x1).toInt64) hx hb dX5_draw_10 rfl ?_
  refine lv_lmul hx hb dX5_draw_11 ?_
  refine lv_ladd hx hb dX5_draw_12 ?_
  refine lv_lconst (v := 1) hx hb dX5_draw_13 (by decide) ?_
  refine lv_ladd hx hb dX5_draw_14 ?_
  refine lv_topl (fun v_1 ev_1 => ?_)
  have h := h v_1 ev_1
  refine lv_lstore_n (lv' := [(2, .long v_1), (0, .int x0), (1, .int x1)]) hx hb dX5_draw_15 rfl hl (by decide) rfl (fun ls hl => ?_)
  refine lv_lload_n hx hb dX5_draw_16 rfl (lv_at hl 0 rfl) ?_
  refine lv_lload_n hx hb dX5_draw_17 rfl (lv_at hl 0 rfl) ?_
  refine lv_lmul hx hb dX5_draw_18 ?_
  refine lv_ldc2 (v := 65521) hx hb hown (k_2) dX5_draw_19 ?_
  refine lv_lrem hx hb dX5_draw_22 (by decide) ?_
  refine lv_l2i (v := (((v_1 * v_1) - (v_1 * v_1) / (65521 : Int64) * (65521 : Int64))).toInt32) hx hb dX5_draw_23 rfl ?_
  exact hret ((((v_1 * v_1) - (v_1 * v_1) / (65521 : Int64) * (65521 : Int64))).toInt32) () _ _ _ ls h hP hD hS dX5_draw_24

/-! java/lang/Integer.bitCount -/
abbrev rmJ6_bitCount_0f7a4 : Room := { frames := 0, cells := 0, slots := 0, locals := 0 }
theorem yoJ6_bitCount_0f7a4 : yJ6_bitCount_0f7a4.cls ≠ "java/lang/invoke/MethodHandle" ∧ yJ6_bitCount_0f7a4.cls ≠ "java/lang/invoke/VarHandle" ∧ (parseMethodDescriptor yJ6_bitCount_0f7a4.desc).map (fun d => d.parameters.length) = some 1 := by decide +kernel
set_option maxHeartbeats 4000000 in
set_option maxRecDepth 100000 in
theorem c_J6_bitCount_0f7a4 (l : Launch) (D : va_G) (cI cC cQ : ClassId) (x0 : Int32) (Q : Int32 → Prop) (h : wJ6_bitCount_0f7a4 x0 Q) : Ci (S := Unit) l D cI cC cQ yJ6_bitCount_0f7a4 wsJ6_bitCount_0f7a4 rmJ6_bitCount_0f7a4 [.int x0] [] (fun _ => []) (fun r _ => Q r) := by
  refine Ci_mk (cc := cJ6_bitCount_0f7a4) (maxL := 1) (by decide) rfl (Nat.le_of_ble_eq_true rfl) ?_
  intro p e s m args below meth c A Z ls hx hb hml hown hts hK hA hP hD hret hl
  have hS : va_S A s.heap s.heap [] := va_S.rf
  have k_0 := hts (.constant RJ6 265 (1431655765)) (by decide +kernel)
  have k_1 := hts (.constant RJ6 266 (858993459)) (by decide +kernel)
  have k_2 := hts (.constant RJ6 267 (252645135)) (by decide +kernel)
  have hl : lv_has ls 1 [(0, .int x0)] := hl
  refine lv_iload_n hx hb dJ6_bitCount_0f7a4_0 rfl (lv_at hl 0 rfl) ?_
  refine lv_iload_n hx hb dJ6_bitCount_0f7a4_1 rfl (lv_at hl 0 rfl) ?_
  refine lv_iconst (v := 1) hx hb dJ6_bitCount_0f7a4_2 (by decide) ?_
  refine lv_iushr (v := ((x0).toUInt32 >>> (((1 : Int32)).toUInt32 &&& Int32.toUInt32 31)).toInt32) hx hb dJ6_bitCount_0f7a4_3 rfl ?_
  refine lv_ldcw (v := 1431655765) hx hb hown (k_0) dJ6_bitCount_0f7a4_4 ?_
  refine lv_iand hx hb dJ6_bitCount_0f7a4_7 ?_
  refine lv_isub hx hb dJ6_bitCount_0f7a4_8 ?_
  refine lv_topi (fun v_1 ev_1 => ?_)
  have h := h v_1 ev_1
  refine lv_istore_n (lv' := [(0, .int v_1)]) hx hb dJ6_bitCount_0f7a4_9 rfl hl (by decide) rfl (fun ls hl => ?_)
  refine lv_iload_n hx hb dJ6_bitCount_0f7a4_10 rfl (lv_at hl 0 rfl) ?_
  refine lv_ldcw (v := 858993459) hx hb hown (k_1) dJ6_bitCount_0f7a4_11 ?_
  refine lv_iand hx hb dJ6_bitCount_0f7a4_14 ?_
  refine lv_iload_n hx hb dJ6_bitCount_0f7a4_15 rfl (lv_at hl 0 rfl) ?_
  refine lv_iconst (v := 2) hx hb dJ6_bitCount_0f7a4_16 (by decide) ?_
  refine lv_iushr (v := ((v_1).toUInt32 >>> (((2 : Int32)).toUInt32 &&& Int32.toUInt32 31)).toInt32) hx hb dJ6_bitCount_0f7a4_17 rfl ?_
  refine lv_ldcw (v := 858993459) hx hb hown (k_1) dJ6_bitCount_0f7a4_18 ?_
  refine lv_iand hx hb dJ6_bitCount_0f7a4_21 ?_
  refine lv_iadd hx hb dJ6_bitCount_0f7a4_22 ?_
  refine lv_topi (fun v_2 ev_2 => ?_)
  have h := h v_2 ev_2
  refine lv_istore_n (lv' := [(0, .int v_2)]) hx hb dJ6_bitCount_0f7a4_23 rfl hl (by decide) rfl (fun ls hl => ?_)
  refine lv_iload_n hx hb dJ6_bitCount_0f7a4_24 rfl (lv_at hl 0 rfl) ?_
  refine lv_iload_n hx hb dJ6_bitCount_0f7a4_25 rfl (lv_at hl 0 rfl) ?_
  refine lv_iconst (v := 4) hx hb dJ6_bitCount_0f7a4_26 (by decide) ?_
  refine lv_iushr (v := ((v_2).toUInt32 >>> (((4 : Int32)).toUInt32 &&& Int32.toUInt32 31)).toInt32) hx hb dJ6_bitCount_0f7a4_27 rfl ?_
  refine lv_iadd hx hb dJ6_bitCount_0f7a4_28 ?_
  refine lv_ldcw (v := 252645135) hx hb hown (k_2) dJ6_bitCount_0f7a4_29 ?_
  refine lv_iand hx hb dJ6_bitCount_0f7a4_32 ?_
  refine lv_topi (fun v_3 ev_3 => ?_)
  have h := h v_3 ev_3
  refine lv_istore_n (lv' := [(0, .int v_3)]) hx hb dJ6_bitCount_0f7a4_33 rfl hl (by decide) rfl (fun ls hl => ?_)
  refine lv_iload_n hx hb dJ6_bitCount_0f7a4_34 rfl (lv_at hl 0 rfl) ?_
  refine lv_iload_n hx hb dJ6_bitCount_0f7a4_35 rfl (lv_at hl 0 rfl) ?_
  refine lv_bipush (v := 8) hx hb dJ6_bitCount_0f7a4_36 (by decide) ?_
  refine lv_iushr (v := ((v_3).toUInt32 >>> (((8 : Int32)).toUInt32 &&& Int32.toUInt32 31)).toInt32) hx hb dJ6_bitCount_0f7a4_38 rfl ?_
  refine lv_iadd hx hb dJ6_bitCount_0f7a4_39 ?_
  refine lv_topi (fun v_4 ev_4 => ?_)
  have h := h v_4 ev_4
  refine lv_istore_n (lv' := [(0, .int v_4)]) hx hb dJ6_bitCount_0f7a4_40 rfl hl (by decide) rfl (fun ls hl => ?_)
  refine lv_iload_n hx hb dJ6_bitCount_0f7a4_41 rfl (lv_at hl 0 rfl) ?_
  refine lv_iload_n hx hb dJ6_bitCount_0f7a4_42 rfl (lv_at hl 0 rfl) ?_
  refine lv_bipush (v := 16) hx hb dJ6_bitCount_0f7a4_43 (by decide) ?_
  refine lv_iushr (v := ((v_4).toUInt32 >>> (((16 : Int32)).toUInt32 &&& Int32.toUInt32 31)).toInt32) hx hb dJ6_bitCount_0f7a4_45 rfl ?_
  refine lv_iadd hx hb dJ6_bitCount_0f7a4_46 ?_
  refine lv_topi (fun v_5 ev_5 => ?_)
  have h := h v_5 ev_5
  refine lv_istore_n (lv' := [(0, .int v_5)]) hx hb dJ6_bitCount_0f7a4_47 rfl hl (by decide) rfl (fun ls hl => ?_)
  refine lv_iload_n hx hb dJ6_bitCount_0f7a4_48 rfl (lv_at hl 0 rfl) ?_
  refine lv_bipush (v := 63) hx hb dJ6_bitCount_0f7a4_49 (by decide) ?_
  refine lv_iand hx hb dJ6_bitCount_0f7a4_51 ?_
  exact hret (v_5 &&& (63 : Int32)) () _ _ _ ls h hP hD hS dJ6_bitCount_0f7a4_52

/-! DoubtCourt$Court.isCourtier -/
abbrev rmX0_isCourtier : Room := { frames := 0, cells := 0, slots := 0, locals := 0 }
theorem yoX0_isCourtier : yX0_isCourtier.cls ≠ "java/lang/invoke/MethodHandle" ∧ yX0_isCourtier.cls ≠ "java/lang/invoke/VarHandle" ∧ (parseMethodDescriptor yX0_isCourtier.desc).map (fun d => d.parameters.length) = some 1 := by decide +kernel
set_option maxHeartbeats 4000000 in
set_option maxRecDepth 100000 in
theorem c_X0_isCourtier (l : Launch) (D : va_G) (cI cC cQ : ClassId) (h0 : Nat) (a_kd : Nat) (a_hd : Nat) (a_pl : Nat) (a_st : Nat) (a_ho : Nat) (a_be : Nat) (kd : Nat → Int32) (hd : Nat → Int32) (pl : Nat → Int32) (st : Nat → Int32) (ho : Nat → Int32) (be : Nat → Int32) (nc : Int32) (nn : Int32) (dy : Int32) (x1 : Int32) (Q : Int32 → Prop) (h : wX0_isCourtier x1 nc Q) : Ci (S := Unit) l D cI cC cQ yX0_isCourtier wsX0_isCourtier rmX0_isCourtier [.ref h0, .int x1] [(h0, .inr (0, [.ref a_kd, .ref a_hd, .ref a_pl, .ref a_st, .ref a_ho, .ref a_be, .int nc, .int nn, .int dy])), (a_kd, .inl (cI, 7, .inl kd)), (a_hd, .inl (cI, 7, .inl hd)), (a_pl, .inl (cI, 7, .inl pl)), (a_st, .inl (cI, 7, .inl st)), (a_ho, .inl (cI, 6, .inl ho)), (a_be, .inl (cI, 42, .inl be))] (fun _ => [(h0, .inr (0, [.ref a_kd, .ref a_hd, .ref a_pl, .ref a_st, .ref a_ho, .ref a_be, .int nc, .int nn, .int dy])), (a_kd, .inl (cI, 7, .inl kd)), (a_hd, .inl (cI, 7, .inl hd)), (a_pl, .inl (cI, 7, .inl pl)), (a_st, .inl (cI, 7, .inl st)), (a_ho, .inl (cI, 6, .inl ho)), (a_be, .inl (cI, 42, .inl be))]) (fun r _ => (r = 0 ∨ r = 1) ∧ Q r) := by
  refine Cz_mk (cc := cX0_isCourtier) (maxL := 2) (by decide) rfl (Nat.le_of_ble_eq_true rfl) ?_
  intro p e s m args below meth c A Z ls hx hb hml hown hts hK hA hP hD hret hl
  have hS : va_S A s.heap s.heap [] := va_S.rf
  have hin0 : ∀ w ∈ u_ws RX0 TX0 9, w ∈ wsX0_isCourtier := by decide +kernel
  have k_0 := hts (.fieldLink RX0 30 "DoubtCourt$Court" "courtiers" "I") (by decide +kernel)
  have hl : lv_has ls 2 [(0, .ref h0), (1, .int x1)] := hl
  refine lv_iload_n hx hb dX0_isCourtier_0 rfl (lv_at hl 1 rfl) ?_
  refine lv_if_lt (tgt := 16) hx hb dX0_isCourtier_1 (by decide) (fun c_1 => ?_) (fun c_1 => ?_)
  · have h := h.1 c_1
    refine lv_iconst (v := 0) hx hb dX0_isCourtier_16 (by decide) ?_
    exact hret (0 : Int32) () _ _ _ ls (by decide) h hP hD hS dX0_isCourtier_17
  · have h := h.2 c_1
    refine lv_iload_n hx hb dX0_isCourtier_4 rfl (lv_at hl 1 rfl) ?_
    refine lv_aload_n hx hb dX0_isCourtier_5 rfl (lv_at hl 0 rfl) ?_
    refine va_get (D := D) (ci := 0) (v := .int nc) (C := RX0) (T := TX0) (N := 9) hx hb hts hin0 hown hK.1 hP 0 rfl rfl 6 (by decide) (k_0) (fun _ h9 => h9) rfl dX0_isCourtier_6 ?_
    refine lv_icmp_ge (tgt := 16) hx hb dX0_isCourtier_9 (by decide) (fun c_2 => ?_) (fun c_2 => ?_)
    · have h := h.1 c_2
      refine lv_iconst (v := 0) hx hb dX0_isCourtier_16 (by decide) ?_
      exact hret (0 : Int32) () _ _ _ ls (by decide) h hP hD hS dX0_isCourtier_17
    · have h := h.2 c_2
      refine lv_iconst (v := 1) hx hb dX0_isCourtier_12 (by decide) ?_
      refine lv_goto (tgt := 17) hx hb dX0_isCourtier_13 (by decide) ?_
      exact hret (1 : Int32) () _ _ _ ls (by decide) h hP hD hS dX0_isCourtier_17

/-! DoubtCourt$Court.isNews -/
abbrev rmX0_isNews : Room := { frames := 0, cells := 0, slots := 0, locals := 0 }
theorem yoX0_isNews : yX0_isNews.cls ≠ "java/lang/invoke/MethodHandle" ∧ yX0_isNews.cls ≠ "java/lang/invoke/VarHandle" ∧ (parseMethodDescriptor yX0_isNews.desc).map (fun d => d.parameters.length) = some 1 := by decide +kernel
set_option maxHeartbeats 4000000 in
set_option maxRecDepth 100000 in
theorem c_X0_isNews (l : Launch) (D : va_G) (cI cC cQ : ClassId) (h0 : Nat) (a_kd : Nat) (a_hd : Nat) (a_pl : Nat) (a_st : Nat) (a_ho : Nat) (a_be : Nat) (kd : Nat → Int32) (hd : Nat → Int32) (pl : Nat → Int32) (st : Nat → Int32) (ho : Nat → Int32) (be : Nat → Int32) (nc : Int32) (nn : Int32) (dy : Int32) (x1 : Int32) (Q : Int32 → Prop) (h : wX0_isNews x1 nn Q) : Ci (S := Unit) l D cI cC cQ yX0_isNews wsX0_isNews rmX0_isNews [.ref h0, .int x1] [(h0, .inr (0, [.ref a_kd, .ref a_hd, .ref a_pl, .ref a_st, .ref a_ho, .ref a_be, .int nc, .int nn, .int dy])), (a_kd, .inl (cI, 7, .inl kd)), (a_hd, .inl (cI, 7, .inl hd)), (a_pl, .inl (cI, 7, .inl pl)), (a_st, .inl (cI, 7, .inl st)), (a_ho, .inl (cI, 6, .inl ho)), (a_be, .inl (cI, 42, .inl be))] (fun _ => [(h0, .inr (0, [.ref a_kd, .ref a_hd, .ref a_pl, .ref a_st, .ref a_ho, .ref a_be, .int nc, .int nn, .int dy])), (a_kd, .inl (cI, 7, .inl kd)), (a_hd, .inl (cI, 7, .inl hd)), (a_pl, .inl (cI, 7, .inl pl)), (a_st, .inl (cI, 7, .inl st)), (a_ho, .inl (cI, 6, .inl ho)), (a_be, .inl (cI, 42, .inl be))]) (fun r _ => (r = 0 ∨ r = 1) ∧ Q r) := by
  refine Cz_mk (cc := cX0_isNews) (maxL := 2) (by decide) rfl (Nat.le_of_ble_eq_true rfl) ?_
  intro p e s m args below meth c A Z ls hx hb hml hown hts hK hA hP hD hret hl
  have hS : va_S A s.heap s.heap [] := va_S.rf
  have hin0 : ∀ w ∈ u_ws RX0 TX0 9, w ∈ wsX0_isNews := by decide +kernel
  have k_0 := hts (.fieldLink RX0 34 "DoubtCourt$Court" "newsTold" "I") (by decide +kernel)
  have hl : lv_has ls 2 [(0, .ref h0), (1, .int x1)] := hl
  refine lv_iload_n hx hb dX0_isNews_0 rfl (lv_at hl 1 rfl) ?_
  refine lv_if_lt (tgt := 16) hx hb dX0_isNews_1 (by decide) (fun c_1 => ?_) (fun c_1 => ?_)
  · have h := h.1 c_1
    refine lv_iconst (v := 0) hx hb dX0_isNews_16 (by decide) ?_
    exact hret (0 : Int32) () _ _ _ ls (by decide) h hP hD hS dX0_isNews_17
  · have h := h.2 c_1
    refine lv_iload_n hx hb dX0_isNews_4 rfl (lv_at hl 1 rfl) ?_
    refine lv_aload_n hx hb dX0_isNews_5 rfl (lv_at hl 0 rfl) ?_
    refine va_get (D := D) (ci := 0) (v := .int nn) (C := RX0) (T := TX0) (N := 9) hx hb hts hin0 hown hK.1 hP 0 rfl rfl 7 (by decide) (k_0) (fun _ h9 => h9) rfl dX0_isNews_6 ?_
    refine lv_icmp_ge (tgt := 16) hx hb dX0_isNews_9 (by decide) (fun c_2 => ?_) (fun c_2 => ?_)
    · have h := h.1 c_2
      refine lv_iconst (v := 0) hx hb dX0_isNews_16 (by decide) ?_
      exact hret (0 : Int32) () _ _ _ ls (by decide) h hP hD hS dX0_isNews_17
    · have h := h.2 c_2
      refine lv_iconst (v := 1) hx hb dX0_isNews_12 (by decide) ?_
      refine lv_goto (tgt := 17) hx hb dX0_isNews_13 (by decide) ?_
      exact hret (1 : Int32) () _ _ _ ls (by decide) h hP hD hS dX0_isNews_17

/-! DoubtCourt$Court.isKnown -/
abbrev rmX0_isKnown : Room := { frames := 1, cells := 0, slots := 0, locals := 21 }
theorem yoX0_isKnown : yX0_isKnown.cls ≠ "java/lang/invoke/MethodHandle" ∧ yX0_isKnown.cls ≠ "java/lang/invoke/VarHandle" ∧ (parseMethodDescriptor yX0_isKnown.desc).map (fun d => d.parameters.length) = some 1 := by decide +kernel
set_option maxHeartbeats 4000000 in
set_option maxRecDepth 100000 in
theorem c_X0_isKnown (l : Launch) (D : va_G) (cI cC cQ : ClassId) (h0 : Nat) (a_kd : Nat) (a_hd : Nat) (a_pl : Nat) (a_st : Nat) (a_ho : Nat) (a_be : Nat) (kd : Nat → Int32) (hd : Nat → Int32) (pl : Nat → Int32) (st : Nat → Int32) (ho : Nat → Int32) (be : Nat → Int32) (nc : Int32) (nn : Int32) (dy : Int32) (x1 : Int32) (Q : Int32 → Prop) (h : wX0_isKnown x1 ho Q) : Ci (S := Unit) l D cI cC cQ yX0_isKnown wsX0_isKnown rmX0_isKnown [.ref h0, .int x1] [(h0, .inr (0, [.ref a_kd, .ref a_hd, .ref a_pl, .ref a_st, .ref a_ho, .ref a_be, .int nc, .int nn, .int dy])), (a_kd, .inl (cI, 7, .inl kd)), (a_hd, .inl (cI, 7, .inl hd)), (a_pl, .inl (cI, 7, .inl pl)), (a_st, .inl (cI, 7, .inl st)), (a_ho, .inl (cI, 6, .inl ho)), (a_be, .inl (cI, 42, .inl be))] (fun _ => [(h0, .inr (0, [.ref a_kd, .ref a_hd, .ref a_pl, .ref a_st, .ref a_ho, .ref a_be, .int nc, .int nn, .int dy])), (a_kd, .inl (cI, 7, .inl kd)), (a_hd, .inl (cI, 7, .inl hd)), (a_pl, .inl (cI, 7, .inl pl)), (a_st, .inl (cI, 7, .inl st)), (a_ho, .inl (cI, 6, .inl ho)), (a_be, .inl (cI, 42, .inl be))]) (fun r _ => (r = 0 ∨ r = 1) ∧ Q r) := by
  refine Cz_mk (cc := cX0_isKnown) (maxL := 2) (by decide) rfl (Nat.le_of_ble_eq_true rfl) ?_
  intro p e s m args below meth c A Z ls hx hb hml hown hts hK hA hP hD hret hl
  have hS : va_S A s.heap s.heap [] := va_S.rf
  have hin0 : ∀ w ∈ u_ws RX0 TX0 9, w ∈ wsX0_isKnown := by decide +kernel
  have k_0 := hts (.fieldLink RX0 24 "DoubtCourt$Court" "holder" "[I") (by decide +kernel)
  have k_1 := hts (.initialized RX5) (by decide +kernel)
  have k_2 := hts (.static yX5_of) (by decide +kernel)
  have hl : lv_has ls 2 [(0, .ref h0), (1, .int x1)] := hl
  refine lv_aload_n hx hb dX0_isKnown_0 rfl (lv_at hl 0 rfl) ?_
  refine va_get (D := D) (ci := 0) (v := .ref a_ho) (C := RX0) (T := TX0) (N := 9) hx hb hts hin0 hown hK.1 hP 0 rfl rfl 4 (by decide) (k_0) (fun _ h9 => h9) rfl dX0_isKnown_1 ?_
  refine lv_iload_n hx hb dX0_isKnown_4 rfl (lv_at hl 1 rfl) ?_
  refine kSN_i (wr := [(h0, .inr (0, [.ref a_kd, .ref a_hd, .ref a_pl, .ref a_st, .ref a_ho, .ref a_be, .int nc, .int nn, .int dy])), (a_kd, .inl (cI, 7, .inl kd)), (a_hd, .inl (cI, 7, .inl hd)), (a_pl, .inl (cI, 7, .inl pl)), (a_st, .inl (cI, 7, .inl st)), (a_be, .inl (cI, 42, .inl be))]) (As := [.ref a_ho, .int x1]) (n := 2) ⟨hx, hb, hml, hown, hts⟩ hK hP hD hS hA (c_X5_of l D cI cC cQ a_ho ho 6 x1 _ h) gX0_isKnown_X5_of_n54 (hK.2 _ (List.mem_of_getElem? (i := 5) rfl)) (k_1) (k_2) rfl ⟨rfl, rfl⟩ yoX5_of ⟨Nat.le_of_ble_eq_true rfl, Nat.le_of_ble_eq_true rfl⟩ rfl hl.1 rfl (Nat.le_of_ble_eq_true rfl) dX0_isKnown_5 ⟨Nat.zero_le _, Nat.zero_le _⟩ [5] [0, 1, 2, 3, 4, 6] rfl (by decide) rfl (by decide) (by decide) (fun r_1 u H locs h hP hD hS => ?_)
  have hP : va_P D vwCl [(h0, .inr (0, [.ref a_kd, .ref a_hd, .ref a_pl, .ref a_st, .ref a_ho, .ref a_be, .int nc, .int nn, .int dy])), (a_kd, .inl (cI, 7, .inl kd)), (a_hd, .inl (cI, 7, .inl hd)), (a_pl, .inl (cI, 7, .inl pl)), (a_st, .inl (cI, 7, .inl st)), (a_be, .inl (cI, 42, .inl be)), (a_ho, .inl (cI, 6, .inl ho))] H := hP
  have hD : va_D A [(h0, .inr (0, [.ref a_kd, .ref a_hd, .ref a_pl, .ref a_st, .ref a_ho, .ref a_be, .int nc, .int nn, .int dy])), (a_kd, .inl (cI, 7, .inl kd)), (a_hd, .inl (cI, 7, .inl hd)), (a_pl, .inl (cI, 7, .inl pl)), (a_st, .inl (cI, 7, .inl st)), (a_be, .inl (cI, 42, .inl be)), (a_ho, .inl (cI, 6, .inl ho))] := hD
  refine lv_bipush (v := 9) hx hb dX0_isKnown_8 (by decide) ?_
  refine lv_icmp_ne (tgt := 17) hx hb dX0_isKnown_10 (by decide) (fun c_2 => ?_) (fun c_2 => ?_)
  · have h := h.2 c_2
    refine lv_iconst (v := 0) hx hb dX0_isKnown_17 (by decide) ?_
    have hP := hP.sub (ws' := [(h0, .inr (0, [.ref a_kd, .ref a_hd, .ref a_pl, .ref a_st, .ref a_ho, .ref a_be, .int nc, .int nn, .int dy])), (a_kd, .inl (cI, 7, .inl kd)), (a_hd, .inl (cI, 7, .inl hd)), (a_pl, .inl (cI, 7, .inl pl)), (a_st, .inl (cI, 7, .inl st)), (a_ho, .inl (cI, 6, .inl ho)), (a_be, .inl (cI, 42, .inl be))]) [0, 1, 2, 3, 4, 6, 5] rfl
    have hD := hD.sub (ws' := [(h0, .inr (0, [.ref a_kd, .ref a_hd, .ref a_pl, .ref a_st, .ref a_ho, .ref a_be, .int nc, .int nn, .int dy])), (a_kd, .inl (cI, 7, .inl kd)), (a_hd, .inl (cI, 7, .inl hd)), (a_pl, .inl (cI, 7, .inl pl)), (a_st, .inl (cI, 7, .inl st)), (a_ho, .inl (cI, 6, .inl ho)), (a_be, .inl (cI, 42, .inl be))]) [0, 1, 2, 3, 4, 6, 5] (by decide) rfl
    exact hret (0 : Int32) () _ _ _ ls (by decide) h hP hD hS dX0_isKnown_18
  · have h := h.1 c_2
    refine lv_iconst (v := 1) hx hb dX0_isKnown_13 (by decide) ?_
    refine lv_goto (tgt := 18) hx hb dX0_isKnown_14 (by decide) ?_
    have hP := hP.sub (ws' := [(h0, .inr (0, [.ref a_kd, .ref a_hd, .ref a_pl, .ref a_st, .ref a_ho, .ref a_be, .int nc, .int nn, .int dy])), (a_kd, .inl (cI, 7, .inl kd)), (a_hd, .inl (cI, 7, .inl hd)), (a_pl, .inl (cI, 7, .inl pl)), (a_st, .inl (cI, 7, .inl st)), (a_ho, .inl (cI, 6, .inl ho)), (a_be, .inl (cI, 42, .inl be))]) [0, 1, 2, 3, 4, 6, 5] rfl
    have hD := hD.sub (ws' := [(h0, .inr (0, [.ref a_kd, .ref a_hd, .ref a_pl, .ref a_st, .ref a_ho, .ref a_be, .int nc, .int nn, .int dy])), (a_kd, .inl (cI, 7, .inl kd)), (a_hd, .inl (cI, 7, .inl hd)), (a_pl, .inl (cI, 7, .inl pl)), (a_st, .inl (cI, 7, .inl st)), (a_ho, .inl (cI, 6, .inl ho)), (a_be, .inl (cI, 42, .inl be))]) [0, 1, 2, 3, 4, 6, 5] (by decide) rfl
    exact hret (1 : Int32) () _ _ _ ls (by decide) h hP hD hS dX0_isKnown_18

/-! DoubtCourt$Court.believes -/
abbrev rmX0_believes : Room := { frames := 1, cells := 0, slots := 0, locals := 21 }
theorem yoX0_believes : yX0_believes.cls ≠ "java/lang/invoke/MethodHandle" ∧ yX0_believes.cls ≠ "java/lang/invoke/VarHandle" ∧ (parseMethodDescriptor yX0_believes.desc).map (fun d => d.parameters.length) = some 2 := by decide +kernel
set_option maxHeartbeats 4000000 in
set_option maxRecDepth 100000 in
theorem c_X0_believes (l : Launch) (D : va_G) (cI cC cQ : ClassId) (h0 : Nat) (a_kd : Nat) (a_hd : Nat) (a_pl : Nat) (a_st : Nat) (a_ho : Nat) (a_be : Nat) (kd : Nat → Int32) (hd : Nat → Int32) (pl : Nat → Int32) (st : Nat → Int32) (ho : Nat → Int32) (be : Nat → Int32) (nc : Int32) (nn : Int32) (dy : Int32) (x1 : Int32) (x2 : Int32) (Q : Int32 → Prop) (h : wX0_believes x1 x2 be Q) : Ci (S := Unit) l D cI cC cQ yX0_believes wsX0_believes rmX0_believes [.ref h0, .int x1, .int x2] [(h0, .inr (0, [.ref a_kd, .ref a_hd, .ref a_pl, .ref a_st, .ref a_ho, .ref a_be, .int nc, .int nn, .int dy])), (a_kd, .inl (cI, 7, .inl kd)), (a_hd, .inl (cI, 7, .inl hd)), (a_pl, .inl (cI, 7, .inl pl)), (a_st, .inl (cI, 7, .inl st)), (a_ho, .inl (cI, 6, .inl ho)), (a_be, .inl (cI, 42, .inl be))] (fun _ => [(h0, .inr (0, [.ref a_kd, .ref a_hd, .ref a_pl, .ref a_st, .ref a_ho, .ref a_be, .int nc, .int nn, .int dy])), (a_kd, .inl (cI, 7, .inl kd)), (a_hd, .inl (cI, 7, .inl hd)), (a_pl, .inl (cI, 7, .inl pl)), (a_st, .inl (cI, 7, .inl st)), (a_ho, .inl (cI, 6, .inl ho)), (a_be, .inl (cI, 42, .inl be))]) (fun r _ => Q r) := by
  refine Ci_mk (cc := cX0_believes) (maxL := 3) (by decide) rfl (Nat.le_of_ble_eq_true rfl) ?_
  intro p e s m args below meth c A Z ls hx hb hml hown hts hK hA hP hD hret hl
  have hS : va_S A s.heap s.heap [] := va_S.rf
  have hin0 : ∀ w ∈ u_ws RX0 TX0 9, w ∈ wsX0_believes := by decide +kernel
  have k_0 := hts (.fieldLink RX0 27 "DoubtCourt$Court" "believed" "[I") (by decide +kernel)
  have k_1 := hts (.initialized RX5) (by decide +kernel)
  have k_2 := hts (.static yX5_of) (by decide +kernel)
  have hl : lv_has ls 3 [(0, .ref h0), (1, .int x1), (2, .int x2)] := hl
  refine lv_aload_n hx hb dX0_believes_0 rfl (lv_at hl 0 rfl) ?_
  refine va_get (D := D) (ci := 0) (v := .ref a_be) (C := RX0) (T := TX0) (N := 9) hx hb hts hin0 hown hK.1 hP 0 rfl rfl 5 (by decide) (k_0) (fun _ h9 => h9) rfl dX0_believes_1 ?_
  refine lv_iload_n hx hb dX0_believes_4 rfl (lv_at hl 2 rfl) ?_
  refine lv_bipush (v := 7) hx hb dX0_believes_5 (by decide) ?_
  refine lv_imul hx hb dX0_believes_7 ?_
  refine lv_iload_n hx hb dX0_believes_8 rfl (lv_at hl 1 rfl) ?_
  refine lv_iadd hx hb dX0_believes_9 ?_
  refine kSN_i (wr := [(h0, .inr (0, [.ref a_kd, .ref a_hd, .ref a_pl, .ref a_st, .ref a_ho, .ref a_be, .int nc, .int nn, .int dy])), (a_kd, .inl (cI, 7, .inl kd)), (a_hd, .inl (cI, 7, .inl hd)), (a_pl, .inl (cI, 7, .inl pl)), (a_st, .inl (cI, 7, .inl st)), (a_ho, .inl (cI, 6, .inl ho))]) (As := [.ref a_be, .int ((x2 * (7 : Int32)) + x1)]) (n := 2) ⟨hx, hb, hml, hown, hts⟩ hK hP hD hS hA (c_X5_of l D cI cC cQ a_be be 42 ((x2 * (7 : Int32)) + x1) _ h) gX0_believes_X5_of_n54 (hK.2 _ (List.mem_of_getElem? (i := 5) rfl)) (k_1) (k_2) rfl ⟨rfl, rfl⟩ yoX5_of ⟨Nat.le_of_ble_eq_true rfl, Nat.le_of_ble_eq_true rfl⟩ rfl hl.1 rfl (Nat.le_of_ble_eq_true rfl) dX0_believes_10 ⟨Nat.zero_le _, Nat.zero_le _⟩ [6] [0, 1, 2, 3, 4, 5] rfl (by decide) rfl (by decide) (by decide) (fun r_1 u H locs h hP hD hS => ?_)
  have hP : va_P D vwCl [(h0, .inr (0, [.ref a_kd, .ref a_hd, .ref a_pl, .ref a_st, .ref a_ho, .ref a_be, .int nc, .int nn, .int dy])), (a_kd, .inl (cI, 7, .inl kd)), (a_hd, .inl (cI, 7, .inl hd)), (a_pl, .inl (cI, 7, .inl pl)), (a_st, .inl (cI, 7, .inl st)), (a_ho, .inl (cI, 6, .inl ho)), (a_be, .inl (cI, 42, .inl be))] H := hP
  have hD : va_D A [(h0, .inr (0, [.ref a_kd, .ref a_hd, .ref a_pl, .ref a_st, .ref a_ho, .ref a_be, .int nc, .int nn, .int dy])), (a_kd, .inl (cI, 7, .inl kd)), (a_hd, .inl (cI, 7, .inl hd)), (a_pl, .inl (cI, 7, .inl pl)), (a_st, .inl (cI, 7, .inl st)), (a_ho, .inl (cI, 6, .inl ho)), (a_be, .inl (cI, 42, .inl be))] := hD
  exact hret r_1 () _ _ _ ls h hP hD hS dX0_believes_13

/-! DoubtCourt$Court.setBelief -/
abbrev rmX0_setBelief : Room := { frames := 1, cells := 0, slots := 0, locals := 22 }
theorem yoX0_setBelief : yX0_setBelief.cls ≠ "java/lang/invoke/MethodHandle" ∧ yX0_setBelief.cls ≠ "java/lang/invoke/VarHandle" ∧ (parseMethodDescriptor yX0_setBelief.desc).map (fun d => d.parameters.length) = some 3 := by decide +kernel
set_option maxHeartbeats 4000000 in
set_option maxRecDepth 100000 in
theorem c_X0_setBelief (l : Launch) (D : va_G) (cI cC cQ : ClassId) (h0 : Nat) (a_kd : Nat) (a_hd : Nat) (a_pl : Nat) (a_st : Nat) (a_ho : Nat) (a_be : Nat) (kd : Nat → Int32) (hd : Nat → Int32) (pl : Nat → Int32) (st : Nat → Int32) (ho : Nat → Int32) (be : Nat → Int32) (nc : Int32) (nn : Int32) (dy : Int32) (x1 : Int32) (x2 : Int32) (x3 : Int32) (Q : (Nat → Int32) → Prop) (h : wX0_setBelief x1 x2 x3 be Q) : Cv (S := (Nat → Int32)) l D cI cC cQ yX0_setBelief wsX0_setBelief rmX0_setBelief [.ref h0, .int x1, .int x2, .int x3] [(h0, .inr (0, [.ref a_kd, .ref a_hd, .ref a_pl, .ref a_st, .ref a_ho, .ref a_be, .int nc, .int nn, .int dy])), (a_kd, .inl (cI, 7, .inl kd)), (a_hd, .inl (cI, 7, .inl hd)), (a_pl, .inl (cI, 7, .inl pl)), (a_st, .inl (cI, 7, .inl st)), (a_ho, .inl (cI, 6, .inl ho)), (a_be, .inl (cI, 42, .inl be))] (fun u => [(h0, .inr (0, [.ref a_kd, .ref a_hd, .ref a_pl, .ref a_st, .ref a_ho, .ref a_be, .int nc, .int nn, .int dy])), (a_kd, .inl (cI, 7, .inl kd)), (a_hd, .inl (cI, 7, .inl hd)), (a_pl, .inl (cI, 7, .inl pl)), (a_st, .inl (cI, 7, .inl st)), (a_ho, .inl (cI, 6, .inl ho)), (a_be, .inl (cI, 42, .inl u))]) (fun u => Q u) := by
  refine Cv_mk (cc := cX0_setBelief) (maxL := 4) (by decide) rfl (Nat.le_of_ble_eq_true rfl) ?_
  intro p e s m args below meth c A Z ls hx hb hml hown hts hK hA hP hD hret hl
  have hS : va_S A s.heap s.heap [] := va_S.rf
  have hin0 : ∀ w ∈ u_ws RX0 TX0 9, w ∈ wsX0_setBelief := by decide +kernel
  have k_0 := hts (.fieldLink RX0 27 "DoubtCourt$Court" "believed" "[I") (by decide +kernel)
  have k_1 := hts (.initialized RX5) (by decide +kernel)
  have k_2 := hts (.static yX5_put) (by decide +kernel)
  have hl : lv_has ls 4 [(0, .ref h0), (1, .int x1), (2, .int x2), (3, .int x3)] := hl
  refine lv_aload_n hx hb dX0_setBelief_0 rfl (lv_at hl 0 rfl) ?_
  refine va_get (D := D) (ci := 0) (v := .ref a_be) (C := RX0) (T := TX0) (N := 9) hx hb hts hin0 hown hK.1 hP 0 rfl rfl 5 (by decide) (k_0) (fun _ h9 => h9) rfl dX0_setBelief_1 ?_
  refine lv_iload_n hx hb dX0_setBelief_4 rfl (lv_at hl 2 rfl) ?_
  refine lv_bipush (v := 7) hx hb dX0_setBelief_5 (by decide) ?_
  refine lv_imul hx hb dX0_setBelief_7 ?_
  refine lv_iload_n hx hb dX0_setBelief_8 rfl (lv_at hl 1 rfl) ?_
  refine lv_iadd hx hb dX0_setBelief_9 ?_
  refine lv_iload_n hx hb dX0_setBelief_10 rfl (lv_at hl 3 rfl) ?_
  refine kSN_v (wr := [(h0, .inr (0, [.ref a_kd, .ref a_hd, .ref a_pl, .ref a_st, .ref a_ho, .ref a_be, .int nc, .int nn, .int dy])), (a_kd, .inl (cI, 7, .inl kd)), (a_hd, .inl (cI, 7, .inl hd)), (a_pl, .inl (cI, 7, .inl pl)), (a_st, .inl (cI, 7, .inl st)), (a_ho, .inl (cI, 6, .inl ho))]) (As := [.ref a_be, .int ((x2 * (7 : Int32)) + x1), .int x3]) (n := 3) ⟨hx, hb, hml, hown, hts⟩ hK hP hD hS hA (c_X5_put l D cI cC cQ a_be be 42 ((x2 * (7 : Int32)) + x1) x3 _ h) gX0_setBelief_X5_put_n46 (hK.2 _ (List.mem_of_getElem? (i := 4) rfl)) (k_1) (k_2) rfl ⟨rfl, rfl⟩ yoX5_put ⟨Nat.le_of_ble_eq_true rfl, Nat.le_of_ble_eq_true rfl⟩ rfl hl.1 rfl (Nat.le_of_ble_eq_true rfl) dX0_setBelief_11 ⟨Nat.zero_le _, Nat.zero_le _⟩ [6] [0, 1, 2, 3, 4, 5] rfl (by decide) rfl (by decide) (by decide) (fun be_1 H locs h hP hD hS => ?_)
  have hP : va_P D vwCl [(h0, .inr (0, [.ref a_kd, .ref a_hd, .ref a_pl, .ref a_st, .ref a_ho, .ref a_be, .int nc, .int nn, .int dy])), (a_kd, .inl (cI, 7, .inl kd)), (a_hd, .inl (cI, 7, .inl hd)), (a_pl, .inl (cI, 7, .inl pl)), (a_st, .inl (cI, 7, .inl st)), (a_ho, .inl (cI, 6, .inl ho)), (a_be, .inl (cI, 42, .inl be_1))] H := hP
  have hD : va_D A [(h0, .inr (0, [.ref a_kd, .ref a_hd, .ref a_pl, .ref a_st, .ref a_ho, .ref a_be, .int nc, .int nn, .int dy])), (a_kd, .inl (cI, 7, .inl kd)), (a_hd, .inl (cI, 7, .inl hd)), (a_pl, .inl (cI, 7, .inl pl)), (a_st, .inl (cI, 7, .inl st)), (a_ho, .inl (cI, 6, .inl ho)), (a_be, .inl (cI, 42, .inl be_1))] := hD
  exact hret be_1 _ _ _ ls h hP hD hS dX0_setBelief_14

/-! DoubtCourt$Court.clear -/
abbrev rmX0_clear : Room := { frames := 0, cells := 0, slots := 0, locals := 0 }
theorem yoX0_clear : yX0_clear.cls ≠ "java/lang/invoke/MethodHandle" ∧ yX0_clear.cls ≠ "java/lang/invoke/VarHandle" ∧ (parseMethodDescriptor yX0_clear.desc).map (fun d => d.parameters.length) = some 0 := by decide +kernel
set_option maxHeartbeats 4000000 in
set_option maxRecDepth 100000 in
theorem c_X0_clear (l : Launch) (D : va_G) (cI cC cQ : ClassId) (h0 : Nat) (a_kd : Nat) (a_hd : Nat) (a_pl : Nat) (a_st : Nat) (a_ho : Nat) (a_be : Nat) (kd : Nat → Int32) (hd : Nat → Int32) (pl : Nat → Int32) (st : Nat → Int32) (ho : Nat → Int32) (be : Nat → Int32) (nc : Int32) (nn : Int32) (dy : Int32) (Q : (Nat → Int32) → Int32 → Int32 → Int32 → Prop) (h : wX0_clear be Q) : Cv (S := (Nat → Int32) × (Int32) × (Int32) × (Int32)) l D cI cC cQ yX0_clear wsX0_clear rmX0_clear [.ref h0] [(h0, .inr (0, [.ref a_kd, .ref a_hd, .ref a_pl, .ref a_st, .ref a_ho, .ref a_be, .int nc, .int nn, .int dy])), (a_kd, .inl (cI, 7, .inl kd)), (a_hd, .inl (cI, 7, .inl hd)), (a_pl, .inl (cI, 7, .inl pl)), (a_st, .inl (cI, 7, .inl st)), (a_ho, .inl (cI, 6, .inl ho)), (a_be, .inl (cI, 42, .inl be))] (fun u => [(h0, .inr (0, [.ref a_kd, .ref a_hd, .ref a_pl, .ref a_st, .ref a_ho, .ref a_be, .int u.2.1, .int u.2.2.1, .int u.2.2.2])), (a_kd, .inl (cI, 7, .inl kd)), (a_hd, .inl (cI, 7, .inl hd)), (a_pl, .inl (cI, 7, .inl pl)), (a_st, .inl (cI, 7, .inl st)), (a_ho, .inl (cI, 6, .inl ho)), (a_be, .inl (cI, 42, .inl u.1))]) (fun u => Q u.1 u.2.1 u.2.2.1 u.2.2.2) := by
  refine Cv_mk (cc := cX0_clear) (maxL := 2) (by decide) rfl (Nat.le_of_ble_eq_true rfl) ?_
  intro p e s m args below meth c A Z ls hx hb hml hown hts hK hA hP hD hret hl
  have hS : va_S A s.heap s.heap [] := va_S.rf
  have hin0 : ∀ w ∈ u_ws RX0 TX0 9, w ∈ wsX0_clear := by decide +kernel
  have k_0 := hts (.fieldLink RX0 27 "DoubtCourt$Court" "believed" "[I") (by decide +kernel)
  have k_1 := hts (.fieldLink RX0 30 "DoubtCourt$Court" "courtiers" "I") (by decide +kernel)
  have k_2 := hts (.fieldLink RX0 34 "DoubtCourt$Court" "newsTold" "I") (by decide +kernel)
  have k_3 := hts (.fieldLink RX0 37 "DoubtCourt$Court" "days" "I") (by decide +kernel)
  have hl : lv_has ls 2 [(0, .ref h0)] := hl
  have L2 : ∀ (n : Nat) {x1 : Int32} {be : Nat → Int32} {nc : Int32} {nn : Int32} {dy : Int32} {H : Heap} {locs : List Loc} {ls : Array Slot}, wX0_clear_L2 Q n x1 be → va_P D vwCl [(h0, .inr (0, [.ref a_kd, .ref a_hd, .ref a_pl, .ref a_st, .ref a_ho, .ref a_be, .int nc, .int nn, .int dy])), (a_kd, .inl (cI, 7, .inl kd)), (a_hd, .inl (cI, 7, .inl hd)), (a_pl, .inl (cI, 7, .inl pl)), (a_st, .inl (cI, 7, .inl st)), (a_ho, .inl (cI, 6, .inl ho)), (a_be, .inl (cI, 42, .inl be))] H → va_D A [(h0, .inr (0, [.ref a_kd, .ref a_hd, .ref a_pl, .ref a_st, .ref a_ho, .ref a_be, .int nc, .int nn, .int dy])), (a_kd, .inl (cI, 7, .inl kd)), (a_hd, .inl (cI, 7, .inl hd)), (a_pl, .inl (cI, 7, .inl pl)), (a_st, .inl (cI, 7, .inl st)), (a_ho, .inl (cI, 6, .inl ho)), (a_be, .inl (cI, 42, .inl be))] → va_S A s.heap H locs → lv_has ls 2 [(0, .ref h0), (1, .int x1)] → W p l e rmX0_clear s m args below meth c H locs 0 0 Z (F0 m 2 ls []) := by
    intro n
    induction n with
    | zero =>
      intro x1 be nc nn dy H locs ls h hP hD hS hl
      exact (show False from h).elim
    | succ n ih =>
      intro x1 be nc nn dy H locs ls h hP hD hS hl
      refine lv_iload_n hx hb dX0_clear_2 rfl (lv_at hl 1 rfl) ?_
      refine lv_aload_n hx hb dX0_clear_3 rfl (lv_at hl 0 rfl) ?_
      refine va_get (D := D) (ci := 0) (v := .ref a_be) (C := RX0) (T := TX0) (N := 9) hx hb hts hin0 hown hK.1 hP 0 rfl rfl 5 (by decide) (k_0) (fun _ h9 => h9) rfl dX0_clear_4 ?_
      refine va_alen (v := (42 : Int32)) hx hb hK.1 hP 6 0 rfl rfl rfl dX0_clear_7 ?_
      refine lv_icmp_ge (tgt := 24) hx hb dX0_clear_8 (by decide) (fun c_2 => ?_) (fun c_2 => ?_)
      · have h := h.1 c_2
        refine lv_aload_n hx hb dX0_clear_24 rfl (lv_at hl 0 rfl) ?_
        refine lv_iconst (v := 0) hx hb dX0_clear_25 (by decide) ?_
        refine va_put (D := D) (ci := 0) (v := .int (0 : Int32)) (ty := .int) (C := RX0) (T := TX0) (N := 9) hx hb hts hin0 tyX0 tyX0_ok nmX0 hown hK.1 hP hD hS 0 rfl rfl 6 (by decide) (k_1) (fun _ h9 => h9) rfl (by decide +kernel) rfl rfl (Nat.le_of_ble_eq_true rfl) dX0_clear_26 (fun H locs hP hD hS => ?_)
        have hP : va_P D vwCl [(h0, .inr (0, [.ref a_kd, .ref a_hd, .ref a_pl, .ref a_st, .ref a_ho, .ref a_be, .int (0 : Int32), .int nn, .int dy])), (a_kd, .inl (cI, 7, .inl kd)), (a_hd, .inl (cI, 7, .inl hd)), (a_pl, .inl (cI, 7, .inl pl)), (a_st, .inl (cI, 7, .inl st)), (a_ho, .inl (cI, 6, .inl ho)), (a_be, .inl (cI, 42, .inl be))] H := hP
        have hD : va_D A [(h0, .inr (0, [.ref a_kd, .ref a_hd, .ref a_pl, .ref a_st, .ref a_ho, .ref a_be, .int (0 : Int32), .int nn, .int dy])), (a_kd, .inl (cI, 7, .inl kd)), (a_hd, .inl (cI, 7, .inl hd)), (a_pl, .inl (cI, 7, .inl pl)), (a_st, .inl (cI, 7, .inl st)), (a_ho, .inl (cI, 6, .inl ho)), (a_be, .inl (cI, 42, .inl be))] := hD
        refine lv_aload_n hx hb dX0_clear_29 rfl (lv_at hl 0 rfl) ?_
        refine lv_iconst (v := 0) hx hb dX0_clear_30 (by decide) ?_
        refine va_put (D := D) (ci := 0) (v := .int (0 : Int32)) (ty := .int) (C := RX0) (T := TX0) (N := 9) hx hb hts hin0 tyX0 tyX0_ok nmX0 hown hK.1 hP hD hS 0 rfl rfl 7 (by decide) (k_2) (fun _ h9 => h9) rfl (by decide +kernel) rfl rfl (Nat.le_of_ble_eq_true rfl) dX0_clear_31 (fun H locs hP hD hS => ?_)
        have hP : va_P D vwCl [(h0, .inr (0, [.ref a_kd, .ref a_hd, .ref a_pl, .ref a_st, .ref a_ho, .ref a_be, .int (0 : Int32), .int (0 : Int32), .int dy])), (a_kd, .inl (cI, 7, .inl kd)), (a_hd, .inl (cI, 7, .inl hd)), (a_pl, .inl (cI, 7, .inl pl)), (a_st, .inl (cI, 7, .inl st)), (a_ho, .inl (cI, 6, .inl ho)), (a_be, .inl (cI, 42, .inl be))] H := hP
        have hD : va_D A [(h0, .inr (0, [.ref a_kd, .ref a_hd, .ref a_pl, .ref a_st, .ref a_ho, .ref a_be, .int (0 : Int32), .int (0 : Int32), .int dy])), (a_kd, .inl (cI, 7, .inl kd)), (a_hd, .inl (cI, 7, .inl hd)), (a_pl, .inl (cI, 7, .inl pl)), (a_st, .inl (cI, 7, .inl st)), (a_ho, .inl (cI, 6, .inl ho)), (a_be, .inl (cI, 42, .inl be))] := hD
        refine lv_aload_n hx hb dX0_clear_34 rfl (lv_at hl 0 rfl) ?_
        refine lv_iconst (v := 0) hx hb dX0_clear_35 (by decide) ?_
        refine va_put (D := D) (ci := 0) (v := .int (0 : Int32)) (ty := .int) (C := RX0) (T := TX0) (N := 9) hx hb hts hin0 tyX0 tyX0_ok nmX0 hown hK.1 hP hD hS 0 rfl rfl 8 (by decide) (k_3) (fun _ h9 => h9) rfl (by decide +kernel) rfl rfl (Nat.le_of_ble_eq_true rfl) dX0_clear_36 (fun H locs hP hD hS => ?_)
        have hP : va_P D vwCl [(h0, .inr (0, [.ref a_kd, .ref a_hd, .ref a_pl, .ref a_st, .ref a_ho, .ref a_be, .int (0 : Int32), .int (0 : Int32), .int (0 : Int32)])), (a_kd, .inl (cI, 7, .inl kd)), (a_hd, .inl (cI, 7, .inl hd)), (a_pl, .inl (cI, 7, .inl pl)), (a_st, .inl (cI, 7, .inl st)), (a_ho, .inl (cI, 6, .inl ho)), (a_be, .inl (cI, 42, .inl be))] H := hP
        have hD : va_D A [(h0, .inr (0, [.ref a_kd, .ref a_hd, .ref a_pl, .ref a_st, .ref a_ho, .ref a_be, .int (0 : Int32), .int (0 : Int32), .int (0 : Int32)])), (a_kd, .inl (cI, 7, .inl kd)), (a_hd, .inl (cI, 7, .inl hd)), (a_pl, .inl (cI, 7, .inl pl)), (a_st, .inl (cI, 7, .inl st)), (a_ho, .inl (cI, 6, .inl ho)), (a_be, .inl (cI, 42, .inl be))] := hD
        exact hret (be, (0 : Int32), (0 : Int32), (0 : Int32)) _ _ _ ls h hP hD hS dX0_clear_39
      · have h := h.2 c_2
        refine lv_aload_n hx hb dX0_clear_11 rfl (lv_at hl 0 rfl) ?_
        refine va_get (D := D) (ci := 0) (v := .ref a_be) (C := RX0) (T := TX0) (N := 9) hx hb hts hin0 hown hK.1 hP 0 rfl rfl 5 (by decide) (k_0) (fun _ h9 => h9) rfl dX0_clear_12 ?_
        refine lv_iload_n hx hb dX0_clear_15 rfl (lv_at hl 1 rfl) ?_
        refine lv_iconst (v := 0) hx hb dX0_clear_16 (by decide) ?_
        refine z_iast (k := x1.toNatClampNeg) hx hb hK.1 hP hD hS 6 rfl rfl h.1 dX0_clear_17 (fun H locs hP hD hS => ?_)
        have h := h.2
        have hP : va_P D vwCl [(h0, .inr (0, [.ref a_kd, .ref a_hd, .ref a_pl, .ref a_st, .ref a_ho, .ref a_be, .int nc, .int nn, .int dy])), (a_kd, .inl (cI, 7, .inl kd)), (a_hd, .inl (cI, 7, .inl hd)), (a_pl, .inl (cI, 7, .inl pl)), (a_st, .inl (cI, 7, .inl st)), (a_ho, .inl (cI, 6, .inl ho)), (a_be, .inl (cI, 42, .inl (upd be x1.toNatClampNeg (0 : Int32))))] H := hP
        have hD : va_D A [(h0, .inr (0, [.ref a_kd, .ref a_hd, .ref a_pl, .ref a_st, .ref a_ho, .ref a_be, .int nc, .int nn, .int dy])), (a_kd, .inl (cI, 7, .inl kd)), (a_hd, .inl (cI, 7, .inl hd)), (a_pl, .inl (cI, 7, .inl pl)), (a_st, .inl (cI, 7, .inl st)), (a_ho, .inl (cI, 6, .inl ho)), (a_be, .inl (cI, 42, .inl (upd be x1.toNatClampNeg (0 : Int32))))] := hD
        refine lv_iinc (v := (x1 + (1 : Int32))) (lv' := [(1, .int (x1 + (1 : Int32))), (0, .ref h0)]) hx hb dX0_clear_18 hl (k := 1) rfl rfl (by decide) rfl (fun ls hl => ?_)
        refine lv_goto (tgt := 2) hx hb dX0_clear_21 (by decide) ?_
        exact ih h hP hD hS (lv_sub hl [1, 0] rfl)
  refine lv_iconst (v := 0) hx hb dX0_clear_0 (by decide) ?_
  refine lv_istore_n (lv' := [(1, .int (0 : Int32)), (0, .ref h0)]) hx hb dX0_clear_1 rfl hl (by decide) rfl (fun ls hl => ?_)
  obtain ⟨n_3, h⟩ := h
  exact L2 n_3 h hP hD hS (lv_sub hl [1, 0] rfl)

/-! DoubtCourt$Court.copyFrom -/
abbrev rmX0_copyFrom : Room := { frames := 1, cells := 0, slots := 0, locals := 60 }
theorem yoX0_copyFrom : yX0_copyFrom.cls ≠ "java/lang/invoke/MethodHandle" ∧ yX0_copyFrom.cls ≠ "java/lang/invoke/VarHandle" ∧ (parseMethodDescriptor yX0_copyFrom.desc).map (fun d => d.parameters.length) = some 1 := by decide +kernel
set_option maxHeartbeats 4000000 in
set_option maxRecDepth 100000 in
theorem c_X0_copyFrom (l : Launch) (D : va_G) (cI cC cQ : ClassId) (h0 : Nat) (a_kd : Nat) (a_hd : Nat) (a_pl : Nat) (a_st : Nat) (a_ho : Nat) (a_be : Nat) (h0_o : Nat) (a_kd_o : Nat) (a_hd_o : Nat) (a_pl_o : Nat) (a_st_o : Nat) (a_ho_o : Nat) (a_be_o : Nat) (kd : Nat → Int32) (hd : Nat → Int32) (pl : Nat → Int32) (st : Nat → Int32) (ho : Nat → Int32) (be : Nat → Int32) (nc : Int32) (nn : Int32) (dy : Int32) (kd_o : Nat → Int32) (hd_o : Nat → Int32) (pl_o : Nat → Int32) (st_o : Nat → Int32) (ho_o : Nat → Int32) (be_o : Nat → Int32) (nc_o : Int32) (nn_o : Int32) (dy_o : Int32) (Q : (Nat → Int32) → (Nat → Int32) → (Nat → Int32) → (Nat → Int32) → (Nat → Int32) → (Nat → Int32) → Int32 → Int32 → Int32 → Prop) (h : wX0_copyFrom kd hd pl st ho be kd_o hd_o pl_o st_o ho_o be_o nc_o nn_o dy_o Q) : Cv (S := (Nat → Int32) × (Nat → Int32) × (Nat → Int32) × (Nat → Int32) × (Nat → Int32) × (Nat → Int32) × (Int32) × (Int32) × (Int32)) l D cI cC cQ yX0_copyFrom wsX0_copyFrom rmX0_copyFrom [.ref h0, .ref h0_o] [(h0, .inr (0, [.ref a_kd, .ref a_hd, .ref a_pl, .ref a_st, .ref a_ho, .ref a_be, .int nc, .int nn, .int dy])), (a_kd, .inl (cI, 7, .inl kd)), (a_hd, .inl (cI, 7, .inl hd)), (a_pl, .inl (cI, 7, .inl pl)), (a_st, .inl (cI, 7, .inl st)), (a_ho, .inl (cI, 6, .inl ho)), (a_be, .inl (cI, 42, .inl be)), (h0_o, .inr (0, [.ref a_kd_o, .ref a_hd_o, .ref a_pl_o, .ref a_st_o, .ref a_ho_o, .ref a_be_o, .int nc_o, .int nn_o, .int dy_o])), (a_kd_o, .inl (cI, 7, .inl kd_o)), (a_hd_o, .inl (cI, 7, .inl hd_o)), (a_pl_o, .inl (cI, 7, .inl pl_o)), (a_st_o, .inl (cI, 7, .inl st_o)), (a_ho_o, .inl (cI, 6, .inl ho_o)), (a_be_o, .inl (cI, 42, .inl be_o))] (fun u => [(h0, .inr (0, [.ref a_kd, .ref a_hd, .ref a_pl, .ref a_st, .ref a_ho, .ref a_be, .int u.2.2.2.2.2.2.1, .int u.2.2.2.2.2.2.2.1, .int u.2.2.2.2.2.2.2.2])), (a_kd, .inl (cI, 7, .inl u.1)), (a_hd, .inl (cI, 7, .inl u.2.1)), (a_pl, .inl (cI, 7, .inl u.2.2.1)), (a_st, .inl (cI, 7, .inl u.2.2.2.1)), (a_ho, .inl (cI, 6, .inl u.2.2.2.2.1)), (a_be, .inl (cI, 42, .inl u.2.2.2.2.2.1)), (h0_o, .inr (0, [.ref a_kd_o, .ref a_hd_o, .ref a_pl_o, .ref a_st_o, .ref a_ho_o, .ref a_be_o, .int nc_o, .int nn_o, .int dy_o])), (a_kd_o, .inl (cI, 7, .inl kd_o)), (a_hd_o, .inl (cI, 7, .inl hd_o)), (a_pl_o, .inl (cI, 7, .inl pl_o)), (a_st_o, .inl (cI, 7, .inl st_o)), (a_ho_o, .inl (cI, 6, .inl ho_o)), (a_be_o, .inl (cI, 42, .inl be_o))]) (fun u => Q u.1 u.2.1 u.2.2.1 u.2.2.2.1 u.2.2.2.2.1 u.2.2.2.2.2.1 u.2.2.2.2.2.2.1 u.2.2.2.2.2.2.2.1 u.2.2.2.2.2.2.2.2) := by
  refine Cv_mk (cc := cX0_copyFrom) (maxL := 2) (by decide) rfl (Nat.le_of_ble_eq_true rfl) ?_
  intro p e s m args below meth c A Z ls hx hb hml hown hts hK hA hP hD hret hl
  have hS : va_S A s.heap s.heap [] := va_S.rf
  have hin0 : ∀ w ∈ u_ws RX0 TX0 9, w ∈ wsX0_copyFrom := by decide +kernel
  have k_0 := hts (.fieldLink RX0 9 "DoubtCourt$Court" "kind" "[I") (by decide +kernel)
  have k_1 := hts (.methodLink RX0 40 arraycopyName) (by decide +kernel)
  have k_2 := hts (.native arraycopyName) (by decide +kernel)
  have k_3 := hts (.static arraycopyName) (by decide +kernel)
  have k_4 := hts (.initialized "java/lang/System") (by decide +kernel)
  have k_5 := hts (.fieldLink RX0 15 "DoubtCourt$Court" "heeded" "[I") (by decide +kernel)
  have k_6 := hts (.fieldLink RX0 18 "DoubtCourt$Court" "place" "[I") (by decide +kernel)
  have k_7 := hts (.fieldLink RX0 21 "DoubtCourt$Court" "sitting" "[I") (by decide +kernel)
  have k_8 := hts (.fieldLink RX0 24 "DoubtCourt$Court" "holder" "[I") (by decide +kernel)
  have k_9 := hts (.fieldLink RX0 27 "DoubtCourt$Court" "believed" "[I") (by decide +kernel)
  have k_10 := hts (.fieldLink RX0 30 "DoubtCourt$Court" "courtiers" "I") (by decide +kernel)
  have k_11 := hts (.fieldLink RX0 34 "DoubtCourt$Court" "newsTold" "I") (by decide +kernel)
  have k_12 := hts (.fieldLink RX0 37 "DoubtCourt$Court" "days" "I") (by decide +kernel)
  have hl : lv_has ls 2 [(0, .ref h0), (1, .ref h0_o)] := hl
  refine lv_aload_n hx hb dX0_copyFrom_0 rfl (lv_at hl 1 rfl) ?_
  refine va_get (D := D) (ci := 0) (v := .ref a_kd_o) (C := RX0) (T := TX0) (N := 9) hx hb hts hin0 hown hK.1 hP 7 rfl rfl 0 (by decide) (k_0) (fun _ h9 => h9) rfl dX0_copyFrom_1 ?_
  refine lv_iconst (v := 0) hx hb dX0_copyFrom_4 (by decide) ?_
  refine lv_aload_n hx hb dX0_copyFrom_5 rfl (lv_at hl 0 rfl) ?_
  refine va_get (D := D) (ci := 0) (v := .ref a_kd) (C := RX0) (T := TX0) (N := 9) hx hb hts hin0 hown hK.1 hP 0 rfl rfl 0 (by decide) (k_0) (fun _ h9 => h9) rfl dX0_copyFrom_6 ?_
  refine lv_iconst (v := 0) hx hb dX0_copyFrom_9 (by decide) ?_
  refine lv_bipush (v := 7) hx hb dX0_copyFrom_10 (by decide) ?_
  refine z_copy (sn := 0) (dn := 0) (nn := 7) hx hb (hml.trans hl.1.symm) hown (k_1) (k_2) (k_3) (k_4) hK.1 hP hD hS 8 1 rfl rfl (by decide) (by decide) (by decide) (by decide) (by decide) (by decide) (by decide) (by decide) (Nat.le_of_ble_eq_true rfl) (Nat.le_of_ble_eq_true rfl) dX0_copyFrom_12 (fun H locs hP hD hS => ?_)
  have hP : va_P D vwCl [(h0, .inr (0, [.ref a_kd, .ref a_hd, .ref a_pl, .ref a_st, .ref a_ho, .ref a_be, .int nc, .int nn, .int dy])), (a_kd, .inl (cI, 7, .inl (va_cpy kd_o kd 0 0 7))), (a_hd, .inl (cI, 7, .inl hd)), (a_pl, .inl (cI, 7, .inl pl)), (a_st, .inl (cI, 7, .inl st)), (a_ho, .inl (cI, 6, .inl ho)), (a_be, .inl (cI, 42, .inl be)), (h0_o, .inr (0, [.ref a_kd_o, .ref a_hd_o, .ref a_pl_o, .ref a_st_o, .ref a_ho_o, .ref a_be_o, .int nc_o, .int nn_o, .int dy_o])), (a_kd_o, .inl (cI, 7, .inl kd_o)), (a_hd_o, .inl (cI, 7, .inl hd_o)), (a_pl_o, .inl (cI, 7, .inl pl_o)), (a_st_o, .inl (cI, 7, .inl st_o)), (a_ho_o, .inl (cI, 6, .inl ho_o)), (a_be_o, .inl (cI, 42, .inl be_o))] H := hP
  have hD : va_D A [(h0, .inr (0, [.ref a_kd, .ref a_hd, .ref a_pl, .ref a_st, .ref a_ho, .ref a_be, .int nc, .int nn, .int dy])), (a_kd, .inl (cI, 7, .inl (va_cpy kd_o kd 0 0 7))), (a_hd, .inl (cI, 7, .inl hd)), (a_pl, .inl (cI, 7, .inl pl)), (a_st, .inl (cI, 7, .inl st)), (a_ho, .inl (cI, 6, .inl ho)), (a_be, .inl (cI, 42, .inl be)), (h0_o, .inr (0, [.ref a_kd_o, .ref a_hd_o, .ref a_pl_o, .ref a_st_o, .ref a_ho_o, .ref a_be_o, .int nc_o, .int nn_o, .int dy_o])), (a_kd_o, .inl (cI, 7, .inl kd_o)), (a_hd_o, .inl (cI, 7, .inl hd_o)), (a_pl_o, .inl (cI, 7, .inl pl_o)), (a_st_o, .inl (cI, 7, .inl st_o)), (a_ho_o, .inl (cI, 6, .inl ho_o)), (a_be_o, .inl (cI, 42, .inl be_o))] := hD
  refine lv_aload_n hx hb dX0_copyFrom_15 rfl (lv_at hl 1 rfl) ?_
  refine va_get (D := D) (ci := 0) (v := .ref a_hd_o) (C := RX0) (T := TX0) (N := 9) hx hb hts hin0 hown hK.1 hP 7 rfl rfl 1 (by decide) (k_5) (fun _ h9 => h9) rfl dX0_copyFrom_16 ?_
  refine lv_iconst (v := 0) hx hb dX0_copyFrom_19 (by decide) ?_
  refine lv_aload_n hx hb dX0_copyFrom_20 rfl (lv_at hl 0 rfl) ?_
  refine va_get (D := D) (ci := 0) (v := .ref a_hd) (C := RX0) (T := TX0) (N := 9) hx hb hts hin0 hown hK.1 hP 0 rfl rfl 1 (by decide) (k_5) (fun _ h9 => h9) rfl dX0_copyFrom_21 ?_
  refine lv_iconst (v := 0) hx hb dX0_copyFrom_24 (by decide) ?_
  refine lv_bipush (v := 7) hx hb dX0_copyFrom_25 (by decide) ?_
  refine z_copy (sn := 0) (dn := 0) (nn := 7) hx hb (hml.trans hl.1.symm) hown (k_1) (k_2) (k_3) (k_4) hK.1 hP hD hS 9 2 rfl rfl (by decide) (by decide) (by decide) (by decide) (by decide) (by decide) (by decide) (by decide) (Nat.le_of_ble_eq_true rfl) (Nat.le_of_ble_eq_true rfl) dX0_copyFrom_27 (fun H locs hP hD hS => ?_)
  have hP : va_P D vwCl [(h0, .inr (0, [.ref a_kd, .ref a_hd, .ref a_pl, .ref a_st, .ref a_ho, .ref a_be, .int nc, .int nn, .int dy])), (a_kd, .inl (cI, 7, .inl (va_cpy kd_o kd 0 0 7))), (a_hd, .inl (cI, 7, .inl (va_cpy hd_o hd 0 0 7))), (a_pl, .inl (cI, 7, .inl pl)), (a_st, .inl (cI, 7, .inl st)), (a_ho, .inl (cI, 6, .inl ho)), (a_be, .inl (cI, 42, .inl be)), (h0_o, .inr (0, [.ref a_kd_o, .ref a_hd_o, .ref a_pl_o, .ref a_st_o, .ref a_ho_o, .ref a_be_o, .int nc_o, .int nn_o, .int dy_o])), (a_kd_o, .inl (cI, 7, .inl kd_o)), (a_hd_o, .inl (cI, 7, .inl hd_o)), (a_pl_o, .inl (cI, 7, .inl pl_o)), (a_st_o, .inl (cI, 7, .inl st_o)), (a_ho_o, .inl (cI, 6, .inl ho_o)), (a_be_o, .inl (cI, 42, .inl be_o))] H := hP
  have hD : va_D A [(h0, .inr (0, [.ref a_kd, .ref a_hd, .ref a_pl, .ref a_st, .ref a_ho, .ref a_be, .int nc, .int nn, .int dy])), (a_kd, .inl (cI, 7, .inl (va_cpy kd_o kd 0 0 7))), (a_hd, .inl (cI, 7, .inl (va_cpy hd_o hd 0 0 7))), (a_pl, .inl (cI, 7, .inl pl)), (a_st, .inl (cI, 7, .inl st)), (a_ho, .inl (cI, 6, .inl ho)), (a_be, .inl (cI, 42, .inl be)), (h0_o, .inr (0, [.ref a_kd_o, .ref a_hd_o, .ref a_pl_o, .ref a_st_o, .ref a_ho_o, .ref a_be_o, .int nc_o, .int nn_o, .int dy_o])), (a_kd_o, .inl (cI, 7, .inl kd_o)), (a_hd_o, .inl (cI, 7, .inl hd_o)), (a_pl_o, .inl (cI, 7, .inl pl_o)), (a_st_o, .inl (cI, 7, .inl st_o)), (a_ho_o, .inl (cI, 6, .inl ho_o)), (a_be_o, .inl (cI, 42, .inl be_o))] := hD
  refine lv_aload_n hx hb dX0_copyFrom_30 rfl (lv_at hl 1 rfl) ?_
  refine va_get (D := D) (ci := 0) (v := .ref a_pl_o) (C := RX0) (T := TX0) (N := 9) hx hb hts hin0 hown hK.1 hP 7 rfl rfl 2 (by decide) (k_6) (fun _ h9 => h9) rfl dX0_copyFrom_31 ?_
  refine lv_iconst (v := 0) hx hb dX0_copyFrom_34 (by decide) ?_
  refine lv_aload_n hx hb dX0_copyFrom_35 rfl (lv_at hl 0 rfl) ?_
  refine va_get (D := D) (ci := 0) (v := .ref a_pl) (C := RX0) (T := TX0) (N := 9) hx hb hts hin0 hown hK.1 hP 0 rfl rfl 2 (by decide) (k_6) (fun _ h9 => h9) rfl dX0_copyFrom_36 ?_
  refine lv_iconst (v := 0) hx hb dX0_copyFrom_39 (by decide) ?_
  refine lv_bipush (v := 7) hx hb dX0_copyFrom_40 (by decide) ?_
  refine z_copy (sn := 0) (dn := 0) (nn := 7) hx hb (hml.trans hl.1.symm) hown (k_1) (k_2) (k_3) (k_4) hK.1 hP hD hS 10 3 rfl rfl (by decide) (by decide) (by decide) (by decide) (by decide) (by decide) (by decide) (by decide) (Nat.le_of_ble_eq_true rfl) (Nat.le_of_ble_eq_true rfl) dX0_copyFrom_42 (fun H locs hP hD hS => ?_)
  have hP : va_P D vwCl [(h0, .inr (0, [.ref a_kd, .ref a_hd, .ref a_pl, .ref a_st, .ref a_ho, .ref a_be, .int nc, .int nn, .int dy])), (a_kd, .inl (cI, 7, .inl (va_cpy kd_o kd 0 0 7))), (a_hd, .inl (cI, 7, .inl (va_cpy hd_o hd 0 0 7))), (a_pl, .inl (cI, 7, .inl (va_cpy pl_o pl 0 0 7))), (a_st, .inl (cI, 7, .inl st)), (a_ho, .inl (cI, 6, .inl ho)), (a_be, .inl (cI, 42, .inl be)), (h0_o, .inr (0, [.ref a_kd_o, .ref a_hd_o, .ref a_pl_o, .ref a_st_o, .ref a_ho_o, .ref a_be_o, .int nc_o, .int nn_o, .int dy_o])), (a_kd_o, .inl (cI, 7, .inl kd_o)), (a_hd_o, .inl (cI, 7, .inl hd_o)), (a_pl_o, .inl (cI, 7, .inl pl_o)), (a_st_o, .inl (cI, 7, .inl st_o)), (a_ho_o, .inl (cI, 6, .inl ho_o)), (a_be_o, .inl (cI, 42, .inl be_o))] H := hP
  have hD : va_D A [(h0, .inr (0, [.ref a_kd, .ref a_hd, .ref a_pl, .ref a_st, .ref a_ho, .ref a_be, .int nc, .int nn, .int dy])), (a_kd, .inl (cI, 7, .inl (va_cpy kd_o kd 0 0 7))), (a_hd, .inl (cI, 7, .inl (va_cpy hd_o hd 0 0 7))), (a_pl, .inl (cI, 7, .inl (va_cpy pl_o pl 0 0 7))), (a_st, .inl (cI, 7, .inl st)), (a_ho, .inl (cI, 6, .inl ho)), (a_be, .inl (cI, 42, .inl be)), (h0_o, .inr (0, [.ref a_kd_o, .ref a_hd_o, .ref a_pl_o, .ref a_st_o, .ref a_ho_o, .ref a_be_o, .int nc_o, .int nn_o, .int dy_o])), (a_kd_o, .inl (cI, 7, .inl kd_o)), (a_hd_o, .inl (cI, 7, .inl hd_o)), (a_pl_o, .inl (cI, 7, .inl pl_o)), (a_st_o, .inl (cI, 7, .inl st_o)), (a_ho_o, .inl (cI, 6, .inl ho_o)), (a_be_o, .inl (cI, 42, .inl be_o))] := hD
  refine lv_aload_n hx hb dX0_copyFrom_45 rfl (lv_at hl 1 rfl) ?_
  refine va_get (D := D) (ci := 0) (v := .ref a_st_o) (C := RX0) (T := TX0) (N := 9) hx hb hts hin0 hown hK.1 hP 7 rfl rfl 3 (by decide) (k_7) (fun _ h9 => h9) rfl dX0_copyFrom_46 ?_
  refine lv_iconst (v := 0) hx hb dX0_copyFrom_49 (by decide) ?_
  refine lv_aload_n hx hb dX0_copyFrom_50 rfl (lv_at hl 0 rfl) ?_
  refine va_get (D := D) (ci := 0) (v := .ref a_st) (C := RX0) (T := TX0) (N := 9) hx hb hts hin0 hown hK.1 hP 0 rfl rfl 3 (by decide) (k_7) (fun _ h9 => h9) rfl dX0_copyFrom_51 ?_
  refine lv_iconst (v := 0) hx hb dX0_copyFrom_54 (by decide) ?_
  refine lv_bipush (v := 7) hx hb dX0_copyFrom_55 (by decide) ?_
  refine z_copy (sn := 0) (dn := 0) (nn := 7) hx hb (hml.trans hl.1.symm) hown (k_1) (k_2) (k_3) (k_4) hK.1 hP hD hS 11 4 rfl rfl (by decide) (by decide) (by decide) (by decide) (by decide) (by decide) (by decide) (by decide) (Nat.le_of_ble_eq_true rfl) (Nat.le_of_ble_eq_true rfl) dX0_copyFrom_57 (fun H locs hP hD hS => ?_)
  have hP : va_P D vwCl [(h0, .inr (0, [.ref a_kd, .ref a_hd, .ref a_pl, .ref a_st, .ref a_ho, .ref a_be, .int nc, .int nn, .int dy])), (a_kd, .inl (cI, 7, .inl (va_cpy kd_o kd 0 0 7))), (a_hd, .inl (cI, 7, .inl (va_cpy hd_o hd 0 0 7))), (a_pl, .inl (cI, 7, .inl (va_cpy pl_o pl 0 0 7))), (a_st, .inl (cI, 7, .inl (va_cpy st_o st 0 0 7))), (a_ho, .inl (cI, 6, .inl ho)), (a_be, .inl (cI, 42, .inl be)), (h0_o, .inr (0, [.ref a_kd_o, .ref a_hd_o, .ref a_pl_o, .ref a_st_o, .ref a_ho_o, .ref a_be_o, .int nc_o, .int nn_o, .int dy_o])), (a_kd_o, .inl (cI, 7, .inl kd_o)), (a_hd_o, .inl (cI, 7, .inl hd_o)), (a_pl_o, .inl (cI, 7, .inl pl_o)), (a_st_o, .inl (cI, 7, .inl st_o)), (a_ho_o, .inl (cI, 6, .inl ho_o)), (a_be_o, .inl (cI, 42, .inl be_o))] H := hP
  have hD : va_D A [(h0, .inr (0, [.ref a_kd, .ref a_hd, .ref a_pl, .ref a_st, .ref a_ho, .ref a_be, .int nc, .int nn, .int dy])), (a_kd, .inl (cI, 7, .inl (va_cpy kd_o kd 0 0 7))), (a_hd, .inl (cI, 7, .inl (va_cpy hd_o hd 0 0 7))), (a_pl, .inl (cI, 7, .inl (va_cpy pl_o pl 0 0 7))), (a_st, .inl (cI, 7, .inl (va_cpy st_o st 0 0 7))), (a_ho, .inl (cI, 6, .inl ho)), (a_be, .inl (cI, 42, .inl be)), (h0_o, .inr (0, [.ref a_kd_o, .ref a_hd_o, .ref a_pl_o, .ref a_st_o, .ref a_ho_o, .ref a_be_o, .int nc_o, .int nn_o, .int dy_o])), (a_kd_o, .inl (cI, 7, .inl kd_o)), (a_hd_o, .inl (cI, 7, .inl hd_o)), (a_pl_o, .inl (cI, 7, .inl pl_o)), (a_st_o, .inl (cI, 7, .inl st_o)), (a_ho_o, .inl (cI, 6, .inl ho_o)), (a_be_o, .inl (cI, 42, .inl be_o))] := hD
  refine lv_aload_n hx hb dX0_copyFrom_60 rfl (lv_at hl 1 rfl) ?_
  refine va_get (D := D) (ci := 0) (v := .ref a_ho_o) (C := RX0) (T := TX0) (N := 9) hx hb hts hin0 hown hK.1 hP 7 rfl rfl 4 (by decide) (k_8) (fun _ h9 => h9) rfl dX0_copyFrom_61 ?_
  refine lv_iconst (v := 0) hx hb dX0_copyFrom_64 (by decide) ?_
  refine lv_aload_n hx hb dX0_copyFrom_65 rfl (lv_at hl 0 rfl) ?_
  refine va_get (D := D) (ci := 0) (v := .ref a_ho) (C := RX0) (T := TX0) (N := 9) hx hb hts hin0 hown hK.1 hP 0 rfl rfl 4 (by decide) (k_8) (fun _ h9 => h9) rfl dX0_copyFrom_66 ?_
  refine lv_iconst (v := 0) hx hb dX0_copyFrom_69 (by decide) ?_
  refine lv_bipush (v := 6) hx hb dX0_copyFrom_70 (by decide) ?_
  refine z_copy (sn := 0) (dn := 0) (nn := 6) hx hb (hml.trans hl.1.symm) hown (k_1) (k_2) (k_3) (k_4) hK.1 hP hD hS 12 5 rfl rfl (by decide) (by decide) (by decide) (by decide) (by decide) (by decide) (by decide) (by decide) (Nat.le_of_ble_eq_true rfl) (Nat.le_of_ble_eq_true rfl) dX0_copyFrom_72 (fun H locs hP hD hS => ?_)
  have hP : va_P D vwCl [(h0, .inr (0, [.ref a_kd, .ref a_hd, .ref a_pl, .ref a_st, .ref a_ho, .ref a_be, .int nc, .int nn, .int dy])), (a_kd, .inl (cI, 7, .inl (va_cpy kd_o kd 0 0 7))), (a_hd, .inl (cI, 7, .inl (va_cpy hd_o hd 0 0 7))), (a_pl, .inl (cI, 7, .inl (va_cpy pl_o pl 0 0 7))), (a_st, .inl (cI, 7, .inl (va_cpy st_o st 0 0 7))), (a_ho, .inl (cI, 6, .inl (va_cpy ho_o ho 0 0 6))), (a_be, .inl (cI, 42, .inl be)), (h0_o, .inr (0, [.ref a_kd_o, .ref a_hd_o, .ref a_pl_o, .ref a_st_o, .ref a_ho_o, .ref a_be_o, .int nc_o, .int nn_o, .int dy_o])), (a_kd_o, .inl (cI, 7, .inl kd_o)), (a_hd_o, .inl (cI, 7, .inl hd_o)), (a_pl_o, .inl (cI, 7, .inl pl_o)), (a_st_o, .inl (cI, 7, .inl st_o)), (a_ho_o, .inl (cI, 6, .inl ho_o)), (a_be_o, .inl (cI, 42, .inl be_o))] H := hP
  have hD : va_D A [(h0, .inr (0, [.ref a_kd, .ref a_hd, .ref a_pl, .ref a_st, .ref a_ho, .ref a_be, .int nc, .int nn, .int dy])), (a_kd, .inl (cI, 7, .inl (va_cpy kd_o kd 0 0 7))), (a_hd, .inl (cI, 7, .inl (va_cpy hd_o hd 0 0 7))), (a_pl, .inl (cI, 7, .inl (va_cpy pl_o pl 0 0 7))), (a_st, .inl (cI, 7, .inl (va_cpy st_o st 0 0 7))), (a_ho, .inl (cI, 6, .inl (va_cpy ho_o ho 0 0 6))), (a_be, .inl (cI, 42, .inl be)), (h0_o, .inr (0, [.ref a_kd_o, .ref a_hd_o, .ref a_pl_o, .ref a_st_o, .ref a_ho_o, .ref a_be_o, .int nc_o, .int nn_o, .int dy_o])), (a_kd_o, .inl (cI, 7, .inl kd_o)), (a_hd_o, .inl (cI, 7, .inl hd_o)), (a_pl_o, .inl (cI, 7, .inl pl_o)), (a_st_o, .inl (cI, 7, .inl st_o)), (a_ho_o, .inl (cI, 6, .inl ho_o)), (a_be_o, .inl (cI, 42, .inl be_o))] := hD
  refine lv_aload_n hx hb dX0_copyFrom_75 rfl (lv_at hl 1 rfl) ?_
  refine va_get (D := D) (ci := 0) (v := .ref a_be_o) (C := RX0) (T := TX0) (N := 9) hx hb hts hin0 hown hK.1 hP 7 rfl rfl 5 (by decide) (k_9) (fun _ h9 => h9) rfl dX0_copyFrom_76 ?_
  refine lv_iconst (v := 0) hx hb dX0_copyFrom_79 (by decide) ?_
  refine lv_aload_n hx hb dX0_copyFrom_80 rfl (lv_at hl 0 rfl) ?_
  refine va_get (D := D) (ci := 0) (v := .ref a_be) (C := RX0) (T := TX0) (N := 9) hx hb hts hin0 hown hK.1 hP 0 rfl rfl 5 (by decide) (k_9) (fun _ h9 => h9) rfl dX0_copyFrom_81 ?_
  refine lv_iconst (v := 0) hx hb dX0_copyFrom_84 (by decide) ?_
  refine lv_bipush (v := 42) hx hb dX0_copyFrom_85 (by decide) ?_
  refine z_copy (sn := 0) (dn := 0) (nn := 42) hx hb (hml.trans hl.1.symm) hown (k_1) (k_2) (k_3) (k_4) hK.1 hP hD hS 13 6 rfl rfl (by decide) (by decide) (by decide) (by decide) (by decide) (by decide) (by decide) (by decide) (Nat.le_of_ble_eq_true rfl) (Nat.le_of_ble_eq_true rfl) dX0_copyFrom_87 (fun H locs hP hD hS => ?_)
  have hP : va_P D vwCl [(h0, .inr (0, [.ref a_kd, .ref a_hd, .ref a_pl, .ref a_st, .ref a_ho, .ref a_be, .int nc, .int nn, .int dy])), (a_kd, .inl (cI, 7, .inl (va_cpy kd_o kd 0 0 7))), (a_hd, .inl (cI, 7, .inl (va_cpy hd_o hd 0 0 7))), (a_pl, .inl (cI, 7, .inl (va_cpy pl_o pl 0 0 7))), (a_st, .inl (cI, 7, .inl (va_cpy st_o st 0 0 7))), (a_ho, .inl (cI, 6, .inl (va_cpy ho_o ho 0 0 6))), (a_be, .inl (cI, 42, .inl (va_cpy be_o be 0 0 42))), (h0_o, .inr (0, [.ref a_kd_o, .ref a_hd_o, .ref a_pl_o, .ref a_st_o, .ref a_ho_o, .ref a_be_o, .int nc_o, .int nn_o, .int dy_o])), (a_kd_o, .inl (cI, 7, .inl kd_o)), (a_hd_o, .inl (cI, 7, .inl hd_o)), (a_pl_o, .inl (cI, 7, .inl pl_o)), (a_st_o, .inl (cI, 7, .inl st_o)), (a_ho_o, .inl (cI, 6, .inl ho_o)), (a_be_o, .inl (cI, 42, .inl be_o))] H := hP
  have hD : va_D A [(h0, .inr (0, [.ref a_kd, .ref a_hd, .ref a_pl, .ref a_st, .ref a_ho, .ref a_be, .int nc, .int nn, .int dy])), (a_kd, .inl (cI, 7, .inl (va_cpy kd_o kd 0 0 7))), (a_hd, .inl (cI, 7, .inl (va_cpy hd_o hd 0 0 7))), (a_pl, .inl (cI, 7, .inl (va_cpy pl_o pl 0 0 7))), (a_st, .inl (cI, 7, .inl (va_cpy st_o st 0 0 7))), (a_ho, .inl (cI, 6, .inl (va_cpy ho_o ho 0 0 6))), (a_be, .inl (cI, 42, .inl (va_cpy be_o be 0 0 42))), (h0_o, .inr (0, [.ref a_kd_o, .ref a_hd_o, .ref a_pl_o, .ref a_st_o, .ref a_ho_o, .ref a_be_o, .int nc_o, .int nn_o, .int dy_o])), (a_kd_o, .inl (cI, 7, .inl kd_o)), (a_hd_o, .inl (cI, 7, .inl hd_o)), (a_pl_o, .inl (cI, 7, .inl pl_o)), (a_st_o, .inl (cI, 7, .inl st_o)), (a_ho_o, .inl (cI, 6, .inl ho_o)), (a_be_o, .inl (cI, 42, .inl be_o))] := hD
  refine lv_aload_n hx hb dX0_copyFrom_90 rfl (lv_at hl 0 rfl) ?_
  refine lv_aload_n hx hb dX0_copyFrom_91 rfl (lv_at hl 1 rfl) ?_
  refine va_get (D := D) (ci := 0) (v := .int nc_o) (C := RX0) (T := TX0) (N := 9) hx hb hts hin0 hown hK.1 hP 7 rfl rfl 6 (by decide) (k_10) (fun _ h9 => h9) rfl dX0_copyFrom_92 ?_
  refine va_put (D := D) (ci := 0) (v := .int nc_o) (ty := .int) (C := RX0) (T := TX0) (N := 9) hx hb hts hin0 tyX0 tyX0_ok nmX0 hown hK.1 hP hD hS 0 rfl rfl 6 (by decide) (k_10) (fun _ h9 => h9) rfl (by decide +kernel) rfl rfl (Nat.le_of_ble_eq_true rfl) dX0_copyFrom_95 (fun H locs hP hD hS => ?_)
  have hP : va_P D vwCl [(h0, .inr (0, [.ref a_kd, .ref a_hd, .ref a_pl, .ref a_st, .ref a_ho, .ref a_be, .int nc_o, .int nn, .int dy])), (a_kd, .inl (cI, 7, .inl (va_cpy kd_o kd 0 0 7))), (a_hd, .inl (cI, 7, .inl (va_cpy hd_o hd 0 0 7))), (a_pl, .inl (cI, 7, .inl (va_cpy pl_o pl 0 0 7))), (a_st, .inl (cI, 7, .inl (va_cpy st_o st 0 0 7))), (a_ho, .inl (cI, 6, .inl (va_cpy ho_o ho 0 0 6))), (a_be, .inl (cI, 42, .inl (va_cpy be_o be 0 0 42))), (h0_o, .inr (0, [.ref a_kd_o, .ref a_hd_o, .ref a_pl_o, .ref a_st_o, .ref a_ho_o, .ref a_be_o, .int nc_o, .int nn_o, .int dy_o])), (a_kd_o, .inl (cI, 7, .inl kd_o)), (a_hd_o, .inl (cI, 7, .inl hd_o)), (a_pl_o, .inl (cI, 7, .inl pl_o)), (a_st_o, .inl (cI, 7, .inl st_o)), (a_ho_o, .inl (cI, 6, .inl ho_o)), (a_be_o, .inl (cI, 42, .inl be_o))] H := hP
  have hD : va_D A [(h0, .inr (0, [.ref a_kd, .ref a_hd, .ref a_pl, .ref a_st, .ref a_ho, .ref a_be, .int nc_o, .int nn, .int dy])), (a_kd, .inl (cI, 7, .inl (va_cpy kd_o kd 0 0 7))), (a_hd, .inl (cI, 7, .inl (va_cpy hd_o hd 0 0 7))), (a_pl, .inl (cI, 7, .inl (va_cpy pl_o pl 0 0 7))), (a_st, .inl (cI, 7, .inl (va_cpy st_o st 0 0 7))), (a_ho, .inl (cI, 6, .inl (va_cpy ho_o ho 0 0 6))), (a_be, .inl (cI, 42, .inl (va_cpy be_o be 0 0 42))), (h0_o, .inr (0, [.ref a_kd_o, .ref a_hd_o, .ref a_pl_o, .ref a_st_o, .ref a_ho_o, .ref a_be_o, .int nc_o, .int nn_o, .int dy_o])), (a_kd_o, .inl (cI, 7, .inl kd_o)), (a_hd_o, .inl (cI, 7, .inl hd_o)), (a_pl_o, .inl (cI, 7, .inl pl_o)), (a_st_o, .inl (cI, 7, .inl st_o)), (a_ho_o, .inl (cI, 6, .inl ho_o)), (a_be_o, .inl (cI, 42, .inl be_o))] := hD
  refine lv_aload_n hx hb dX0_copyFrom_98 rfl (lv_at hl 0 rfl) ?_
  refine lv_aload_n hx hb dX0_copyFrom_99 rfl (lv_at hl 1 rfl) ?_
  refine va_get (D := D) (ci := 0) (v := .int nn_o) (C := RX0) (T := TX0) (N := 9) hx hb hts hin0 hown hK.1 hP 7 rfl rfl 7 (by decide) (k_11) (fun _ h9 => h9) rfl dX0_copyFrom_100 ?_
  refine va_put (D := D) (ci := 0) (v := .int nn_o) (ty := .int) (C := RX0) (T := TX0) (N := 9) hx hb hts hin0 tyX0 tyX0_ok nmX0 hown hK.1 hP hD hS 0 rfl rfl 7 (by decide) (k_11) (fun _ h9 => h9) rfl (by decide +kernel) rfl rfl (Nat.le_of_ble_eq_true rfl) dX0_copyFrom_103 (fun H locs hP hD hS => ?_)
  have hP : va_P D vwCl [(h0, .inr (0, [.ref a_kd, .ref a_hd, .ref a_pl, .ref a_st, .ref a_ho, .ref a_be, .int nc_o, .int nn_o, .int dy])), (a_kd, .inl (cI, 7, .inl (va_cpy kd_o kd 0 0 7))), (a_hd, .inl (cI, 7, .inl (va_cpy hd_o hd 0 0 7))), (a_pl, .inl (cI, 7, .inl (va_cpy pl_o pl 0 0 7))), (a_st, .inl (cI, 7, .inl (va_cpy st_o st 0 0 7))), (a_ho, .inl (cI, 6, .inl (va_cpy ho_o ho 0 0 6))), (a_be, .inl (cI, 42, .inl (va_cpy be_o be 0 0 42))), (h0_o, .inr (0, [.ref a_kd_o, .ref a_hd_o, .ref a_pl_o, .ref a_st_o, .ref a_ho_o, .ref a_be_o, .int nc_o, .int nn_o, .int dy_o])), (a_kd_o, .inl (cI, 7, .inl kd_o)), (a_hd_o, .inl (cI, 7, .inl hd_o)), (a_pl_o, .inl (cI, 7, .inl pl_o)), (a_st_o, .inl (cI, 7, .inl st_o)), (a_ho_o, .inl (cI, 6, .inl ho_o)), (a_be_o, .inl (cI, 42, .inl be_o))] H := hP
  have hD : va_D A [(h0, .inr (0, [.ref a_kd, .ref a_hd, .ref a_pl, .ref a_st, .ref a_ho, .ref a_be, .int nc_o, .int nn_o, .int dy])), (a_kd, .inl (cI, 7, .inl (va_cpy kd_o kd 0 0 7))), (a_hd, .inl (cI, 7, .inl (va_cpy hd_o hd 0 0 7))), (a_pl, .inl (cI, 7, .inl (va_cpy pl_o pl 0 0 7))), (a_st, .inl (cI, 7, .inl (va_cpy st_o st 0 0 7))), (a_ho, .inl (cI, 6, .inl (va_cpy ho_o ho 0 0 6))), (a_be, .inl (cI, 42, .inl (va_cpy be_o be 0 0 42))), (h0_o, .inr (0, [.ref a_kd_o, .ref a_hd_o, .ref a_pl_o, .ref a_st_o, .ref a_ho_o, .ref a_be_o, .int nc_o, .int nn_o, .int dy_o])), (a_kd_o, .inl (cI, 7, .inl kd_o)), (a_hd_o, .inl (cI, 7, .inl hd_o)), (a_pl_o, .inl (cI, 7, .inl pl_o)), (a_st_o, .inl (cI, 7, .inl st_o)), (a_ho_o, .inl (cI, 6, .inl ho_o)), (a_be_o, .inl (cI, 42, .inl be_o))] := hD
  refine lv_aload_n hx hb dX0_copyFrom_106 rfl (lv_at hl 0 rfl) ?_
  refine lv_aload_n hx hb dX0_copyFrom_107 rfl (lv_at hl 1 rfl) ?_
  refine va_get (D := D) (ci := 0) (v := .int dy_o) (C := RX0) (T := TX0) (N := 9) hx hb hts hin0 hown hK.1 hP 7 rfl rfl 8 (by decide) (k_12) (fun _ h9 => h9) rfl dX0_copyFrom_108 ?_
  refine va_put (D := D) (ci := 0) (v := .int dy_o) (ty := .int) (C := RX0) (T := TX0) (N := 9) hx hb hts hin0 tyX0 tyX0_ok nmX0 hown hK.1 hP hD hS 0 rfl rfl 8 (by decide) (k_12) (fun _ h9 => h9) rfl (by decide +kernel) rfl rfl (Nat.le_of_ble_eq_true rfl) dX0_copyFrom_111 (fun H locs hP hD hS => ?_)
  have hP : va_P D vwCl [(h0, .inr (0, [.ref a_kd, .ref a_hd, .ref a_pl, .ref a_st, .ref a_ho, .ref a_be, .int nc_o, .int nn_o, .int dy_o])), (a_kd, .inl (cI, 7, .inl (va_cpy kd_o kd 0 0 7))), (a_hd, .inl (cI, 7, .inl (va_cpy hd_o hd 0 0 7))), (a_pl, .inl (cI, 7, .inl (va_cpy pl_o pl 0 0 7))), (a_st, .inl (cI, 7, .inl (va_cpy st_o st 0 0 7))), (a_ho, .inl (cI, 6, .inl (va_cpy ho_o ho 0 0 6))), (a_be, .inl (cI, 42, .inl (va_cpy be_o be 0 0 42))), (h0_o, .inr (0, [.ref a_kd_o, .ref a_hd_o, .ref a_pl_o, .ref a_st_o, .ref a_ho_o, .ref a_be_o, .int nc_o, .int nn_o, .int dy_o])), (a_kd_o, .inl (cI, 7, .inl kd_o)), (a_hd_o, .inl (cI, 7, .inl hd_o)), (a_pl_o, .inl (cI, 7, .inl pl_o)), (a_st_o, .inl (cI, 7, .inl st_o)), (a_ho_o, .inl (cI, 6, .inl ho_o)), (a_be_o, .inl (cI, 42, .inl be_o))] H := hP
  have hD : va_D A [(h0, .inr (0, [.ref a_kd, .ref a_hd, .ref a_pl, .ref a_st, .ref a_ho, .ref a_be, .int nc_o, .int nn_o, .int dy_o])), (a_kd, .inl (cI, 7, .inl (va_cpy kd_o kd 0 0 7))), (a_hd, .inl (cI, 7, .inl (va_cpy hd_o hd 0 0 7))), (a_pl, .inl (cI, 7, .inl (va_cpy pl_o pl 0 0 7))), (a_st, .inl (cI, 7, .inl (va_cpy st_o st 0 0 7))), (a_ho, .inl (cI, 6, .inl (va_cpy ho_o ho 0 0 6))), (a_be, .inl (cI, 42, .inl (va_cpy be_o be 0 0 42))), (h0_o, .inr (0, [.ref a_kd_o, .ref a_hd_o, .ref a_pl_o, .ref a_st_o, .ref a_ho_o, .ref a_be_o, .int nc_o, .int nn_o, .int dy_o])), (a_kd_o, .inl (cI, 7, .inl kd_o)), (a_hd_o, .inl (cI, 7, .inl hd_o)), (a_pl_o, .inl (cI, 7, .inl pl_o)), (a_st_o, .inl (cI, 7, .inl st_o)), (a_ho_o, .inl (cI, 6, .inl ho_o)), (a_be_o, .inl (cI, 42, .inl be_o))] := hD
  exact hret ((va_cpy kd_o kd 0 0 7), (va_cpy hd_o hd 0 0 7), (va_cpy pl_o pl 0 0 7), (va_cpy st_o st 0 0 7), (va_cpy ho_o ho 0 0 6), (va_cpy be_o be 0 0 42), nc_o, nn_o, dy_o) _ _ _ ls h hP hD hS dX0_copyFrom_114

/-! DoubtCourt$Court.addCourtier -/
abbrev rmX0_addCourtier : Room := { frames := 1, cells := 0, slots := 0, locals := 22 }
theorem yoX0_addCourtier : yX0_addCourtier.cls ≠ "java/lang/invoke/MethodHandle" ∧ yX0_addCourtier.cls ≠ "java/lang/invoke/VarHandle" ∧ (parseMethodDescriptor yX0_addCourtier.desc).map (fun d => d.parameters.length) = some 2 := by decide +kernel
set_option maxHeartbeats 4000000 in
set_option maxRecDepth 100000 in
theorem c_X0_addCourtier (l : Launch) (D : va_G) (cI cC cQ : ClassId) (h0 : Nat) (a_kd : Nat) (a_hd : Nat) (a_pl : Nat) (a_st : Nat) (a_ho : Nat) (a_be : Nat) (kd : Nat → Int32) (hd : Nat → Int32) (pl : Nat → Int32) (st : Nat → Int32) (ho : Nat → Int32) (be : Nat → Int32) (nc : Int32) (nn : Int32) (dy : Int32) (x1 : Int32) (x2 : Int32) (Q : Int32 → (Nat → Int32) → (Nat → Int32) → (Nat → Int32) → (Nat → Int32) → Int32 → Prop) (h : wX0_addCourtier x1 x2 kd hd pl st nc Q) : Ci (S := (Nat → Int32) × (Nat → Int32) × (Nat → Int32) × (Nat → Int32) × (Int32)) l D cI cC cQ yX0_addCourtier wsX0_addCourtier rmX0_addCourtier [.ref h0, .int x1, .int x2] [(h0, .inr (0, [.ref a_kd, .ref a_hd, .ref a_pl, .ref a_st, .ref a_ho, .ref a_be, .int nc, .int nn, .int dy])), (a_kd, .inl (cI, 7, .inl kd)), (a_hd, .inl (cI, 7, .inl hd)), (a_pl, .inl (cI, 7, .inl pl)), (a_st, .inl (cI, 7, .inl st)), (a_ho, .inl (cI, 6, .inl ho)), (a_be, .inl (cI, 42, .inl be))] (fun u => [(h0, .inr (0, [.ref a_kd, .ref a_hd, .ref a_pl, .ref a_st, .ref a_ho, .ref a_be, .int u.2.2.2.2, .int nn, .int dy])), (a_kd, .inl (cI, 7, .inl u.1)), (a_hd, .inl (cI, 7, .inl u.2.1)), (a_pl, .inl (cI, 7, .inl u.2.2.1)), (a_st, .inl (cI, 7, .inl u.2.2.2.1)), (a_ho, .inl (cI, 6, .inl ho)), (a_be, .inl (cI, 42, .inl be))]) (fun r u => (r = 0 ∨ r = 1) ∧ Q r u.1 u.2.1 u.2.2.1 u.2.2.2.1 u.2.2.2.2) := by
  refine Cz_mk (cc := cX0_addCourtier) (maxL := 3) (by decide) rfl (Nat.le_of_ble_eq_true rfl) ?_
  intro p e s m args below meth c A Z ls hx hb hml hown hts hK hA hP hD hret hl
  have hS : va_S A s.heap s.heap [] := va_S.rf
  have hin0 : ∀ w ∈ u_ws RX0 TX0 9, w ∈ wsX0_addCourtier := by decide +kernel
  have k_0 := hts (.fieldLink RX0 30 "DoubtCourt$Court" "courtiers" "I") (by decide +kernel)
  have k_1 := hts (.fieldLink RX0 9 "DoubtCourt$Court" "kind" "[I") (by decide +kernel)
  have k_2 := hts (.initialized RX5) (by decide +kernel)
  have k_3 := hts (.static yX5_put) (by decide +kernel)
  have k_4 := hts (.fieldLink RX0 15 "DoubtCourt$Court" "heeded" "[I") (by decide +kernel)
  have k_5 := hts (.fieldLink RX0 18 "DoubtCourt$Court" "place" "[I") (by decide +kernel)
  have k_6 := hts (.fieldLink RX0 21 "DoubtCourt$Court" "sitting" "[I") (by decide +kernel)
  have hl : lv_has ls 3 [(0, .ref h0), (1, .int x1), (2, .int x2)] := hl
  refine lv_aload_n hx hb dX0_addCourtier_0 rfl (lv_at hl 0 rfl) ?_
  refine va_get (D := D) (ci := 0) (v := .int nc) (C := RX0) (T := TX0) (N := 9) hx hb hts hin0 hown hK.1 hP 0 rfl rfl 6 (by decide) (k_0) (fun _ h9 => h9) rfl dX0_addCourtier_1 ?_
  refine lv_bipush (v := 7) hx hb dX0_addCourtier_4 (by decide) ?_
  refine lv_icmp_lt (tgt := 11) hx hb dX0_addCourtier_6 (by decide) (fun c_1 => ?_) (fun c_1 => ?_)
  · have h := h.1 c_1
    refine lv_aload_n hx hb dX0_addCourtier_11 rfl (lv_at hl 0 rfl) ?_
    refine va_get (D := D) (ci := 0) (v := .ref a_kd) (C := RX0) (T := TX0) (N := 9) hx hb hts hin0 hown hK.1 hP 0 rfl rfl 0 (by decide) (k_1) (fun _ h9 => h9) rfl dX0_addCourtier_12 ?_
    refine lv_aload_n hx hb dX0_addCourtier_15 rfl (lv_at hl 0 rfl) ?_
    refine va_get (D := D) (ci := 0) (v := .int nc) (C := RX0) (T := TX0) (N := 9) hx hb hts hin0 hown hK.1 hP 0 rfl rfl 6 (by decide) (k_0) (fun _ h9 => h9) rfl dX0_addCourtier_16 ?_
    refine lv_iload_n hx hb dX0_addCourtier_19 rfl (lv_at hl 1 rfl) ?_
    refine kSN_v (wr := [(h0, .inr (0, [.ref a_kd, .ref a_hd, .ref a_pl, .ref a_st, .ref a_ho, .ref a_be, .int nc, .int nn, .int dy])), (a_hd, .inl (cI, 7, .inl hd)), (a_pl, .inl (cI, 7, .inl pl)), (a_st, .inl (cI, 7, .inl st)), (a_ho, .inl (cI, 6, .inl ho)), (a_be, .inl (cI, 42, .inl be))]) (As := [.ref a_kd, .int nc, .int x1]) (n := 3) ⟨hx, hb, hml, hown, hts⟩ hK hP hD hS hA (c_X5_put l D cI cC cQ a_kd kd 7 nc x1 _ h) gX0_addCourtier_X5_put_n46 (hK.2 _ (List.mem_of_getElem? (i := 4) rfl)) (k_2) (k_3) rfl ⟨rfl, rfl⟩ yoX5_put ⟨Nat.le_of_ble_eq_true rfl, Nat.le_of_ble_eq_true rfl⟩ rfl hl.1 rfl (Nat.le_of_ble_eq_true rfl) dX0_addCourtier_20 ⟨Nat.zero_le _, Nat.zero_le _⟩ [1] [0, 2, 3, 4, 5, 6] rfl (by decide) rfl (by decide) (by decide) (fun kd_2 H locs h hP hD hS => ?_)
    have hP : va_P D vwCl [(h0, .inr (0, [.ref a_kd, .ref a_hd, .ref a_pl, .ref a_st, .ref a_ho, .ref a_be, .int nc, .int nn, .int dy])), (a_hd, .inl (cI, 7, .inl hd)), (a_pl, .inl (cI, 7, .inl pl)), (a_st, .inl (cI, 7, .inl st)), (a_ho, .inl (cI, 6, .inl ho)), (a_be, .inl (cI, 42, .inl be)), (a_kd, .inl (cI, 7, .inl kd_2))] H := hP
    have hD : va_D A [(h0, .inr (0, [.ref a_kd, .ref a_hd, .ref a_pl, .ref a_st, .ref a_ho, .ref a_be, .int nc, .int nn, .int dy])), (a_hd, .inl (cI, 7, .inl hd)), (a_pl, .inl (cI, 7, .inl pl)), (a_st, .inl (cI, 7, .inl st)), (a_ho, .inl (cI, 6, .inl ho)), (a_be, .inl (cI, 42, .inl be)), (a_kd, .inl (cI, 7, .inl kd_2))] := hD
    refine lv_aload_n hx hb dX0_addCourtier_23 rfl (lv_at hl 0 rfl) ?_
    refine va_get (D := D) (ci := 0) (v := .ref a_hd) (C := RX0) (T := TX0) (N := 9) hx hb hts hin0 hown hK.1 hP 0 rfl rfl 1 (by decide) (k_4) (fun _ h9 => h9) rfl dX0_addCourtier_24 ?_
    refine lv_aload_n hx hb dX0_addCourtier_27 rfl (lv_at hl 0 rfl) ?_
    refine va_get (D := D) (ci := 0) (v := .int nc) (C := RX0) (T := TX0) (N := 9) hx hb hts hin0 hown hK.1 hP 0 rfl rfl 6 (by decide) (k_0) (fun _ h9 => h9) rfl dX0_addCourtier_28 ?_
    refine lv_iload_n hx hb dX0_addCourtier_31 rfl (lv_at hl 2 rfl) ?_
    refine kSN_v (wr := [(h0, .inr (0, [.ref a_kd, .ref a_hd, .ref a_pl, .ref a_st, .ref a_ho, .ref a_be, .int nc, .int nn, .int dy])), (a_pl, .inl (cI, 7, .inl pl)), (a_st, .inl (cI, 7, .inl st)), (a_ho, .inl (cI, 6, .inl ho)), (a_be, .inl (cI, 42, .inl be)), (a_kd, .inl (cI, 7, .inl kd_2))]) (As := [.ref a_hd, .int nc, .int x2]) (n := 3) ⟨hx, hb, hml, hown, hts⟩ hK hP hD hS hA (c_X5_put l D cI cC cQ a_hd hd 7 nc x2 _ h) gX0_addCourtier_X5_put_n46 (hK.2 _ (List.mem_of_getElem? (i := 4) rfl)) (k_2) (k_3) rfl ⟨rfl, rfl⟩ yoX5_put ⟨Nat.le_of_ble_eq_true rfl, Nat.le_of_ble_eq_true rfl⟩ rfl hl.1 rfl (Nat.le_of_ble_eq_true rfl) dX0_addCourtier_32 ⟨Nat.zero_le _, Nat.zero_le _⟩ [1] [0, 2, 3, 4, 5, 6] rfl (by decide) rfl (by decide) (by decide) (fun hd_3 H locs h hP hD hS => ?_)
    have hP : va_P D vwCl [(h0, .inr (0, [.ref a_kd, .ref a_hd, .ref a_pl, .ref a_st, .ref a_ho, .ref a_be, .int nc, .int nn, .int dy])), (a_pl, .inl (cI, 7, .inl pl)), (a_st, .inl (cI, 7, .inl st)), (a_ho, .inl (cI, 6, .inl ho)), (a_be, .inl (cI, 42, .inl be)), (a_kd, .inl (cI, 7, .inl kd_2)), (a_hd, .inl (cI, 7, .inl hd_3))] H := hP
    have hD : va_D A [(h0, .inr (0, [.ref a_kd, .ref a_hd, .ref a_pl, .ref a_st, .ref a_ho, .ref a_be, .int nc, .int nn, .int dy])), (a_pl, .inl (cI, 7, .inl pl)), (a_st, .inl (cI, 7, .inl st)), (a_ho, .inl (cI, 6, .inl ho)), (a_be, .inl (cI, 42, .inl be)), (a_kd, .inl (cI, 7, .inl kd_2)), (a_hd, .inl (cI, 7, .inl hd_3))] := hD
    refine lv_aload_n hx hb dX0_addCourtier_35 rfl (lv_at hl 0 rfl) ?_
    refine va_get (D := D) (ci := 0) (v := .ref a_pl) (C := RX0) (T := TX0) (N := 9) hx hb hts hin0 hown hK.1 hP 0 rfl rfl 2 (by decide) (k_5) (fun _ h9 => h9) rfl dX0_addCourtier_36 ?_
    refine lv_aload_n hx hb dX0_addCourtier_39 rfl (lv_at hl 0 rfl) ?_
    refine va_get (D := D) (ci := 0) (v := .int nc) (C := RX0) (T := TX0) (N := 9) hx hb hts hin0 hown hK.1 hP 0 rfl rfl 6 (by decide) (k_0) (fun _ h9 => h9) rfl dX0_addCourtier_40 ?_
    refine lv_aload_n hx hb dX0_addCourtier_43 rfl (lv_at hl 0 rfl) ?_
    refine va_get (D := D) (ci := 0) (v := .int nc) (C := RX0) (T := TX0) (N := 9) hx hb hts hin0 hown hK.1 hP 0 rfl rfl 6 (by decide) (k_0) (fun _ h9 => h9) rfl dX0_addCourtier_44 ?_
    refine kSN_v (wr := [(h0, .inr (0, [.ref a_kd, .ref a_hd, .ref a_pl, .ref a_st, .ref a_ho, .ref a_be, .int nc, .int nn, .int dy])), (a_st, .inl (cI, 7, .inl st)), (a_ho, .inl (cI, 6, .inl ho)), (a_be, .inl (cI, 42, .inl be)), (a_kd, .inl (cI, 7, .inl kd_2)), (a_hd, .inl (cI, 7, .inl hd_3))]) (As := [.ref a_pl, .int nc, .int nc]) (n := 3) ⟨hx, hb, hml, hown, hts⟩ hK hP hD hS hA (c_X5_put l D cI cC cQ a_pl pl 7 nc nc _ h) gX0_addCourtier_X5_put_n46 (hK.2 _ (List.mem_of_getElem? (i := 4) rfl)) (k_2) (k_3) rfl ⟨rfl, rfl⟩ yoX5_put ⟨Nat.le_of_ble_eq_true rfl, Nat.le_of_ble_eq_true rfl⟩ rfl hl.1 rfl (Nat.le_of_ble_eq_true rfl) dX0_addCourtier_47 ⟨Nat.zero_le _, Nat.zero_le _⟩ [1] [0, 2, 3, 4, 5, 6] rfl (by decide) rfl (by decide) (by decide) (fun pl_4 H locs h hP hD hS => ?_)
    have hP : va_P D vwCl [(h0, .inr (0, [.ref a_kd, .ref a_hd, .ref a_pl, .ref a_st, .ref a_ho, .ref a_be, .int nc, .int nn, .int dy])), (a_st, .inl (cI, 7, .inl st)), (a_ho, .inl (cI, 6, .inl ho)), (a_be, .inl (cI, 42, .inl be)), (a_kd, .inl (cI, 7, .inl kd_2)), (a_hd, .inl (cI, 7, .inl hd_3)), (a_pl, .inl (cI, 7, .inl pl_4))] H := hP
    have hD : va_D A [(h0, .inr (0, [.ref a_kd, .ref a_hd, .ref a_pl, .ref a_st, .ref a_ho, .ref a_be, .int nc, .int nn, .int dy])), (a_st, .inl (cI, 7, .inl st)), (a_ho, .inl (cI, 6, .inl ho)), (a_be, .inl (cI, 42, .inl be)), (a_kd, .inl (cI, 7, .inl kd_2)), (a_hd, .inl (cI, 7, .inl hd_3)), (a_pl, .inl (cI, 7, .inl pl_4))] := hD
    refine lv_aload_n hx hb dX0_addCourtier_50 rfl (lv_at hl 0 rfl) ?_
    refine va_get (D := D) (ci := 0) (v := .ref a_st) (C := RX0) (T := TX0) (N := 9) hx hb hts hin0 hown hK.1 hP 0 rfl rfl 3 (by decide) (k_6) (fun _ h9 => h9) rfl dX0_addCourtier_51 ?_
    refine lv_aload_n hx hb dX0_addCourtier_54 rfl (lv_at hl 0 rfl) ?_
    refine va_get (D := D) (ci := 0) (v := .int nc) (C := RX0) (T := TX0) (N := 9) hx hb hts hin0 hown hK.1 hP 0 rfl rfl 6 (by decide) (k_0) (fun _ h9 => h9) rfl dX0_addCourtier_55 ?_
    refine lv_aload_n hx hb dX0_addCourtier_58 rfl (lv_at hl 0 rfl) ?_
    refine va_get (D := D) (ci := 0) (v := .int nc) (C := RX0) (T := TX0) (N := 9) hx hb hts hin0 hown hK.1 hP 0 rfl rfl 6 (by decide) (k_0) (fun _ h9 => h9) rfl dX0_addCourtier_59 ?_
    refine kSN_v (wr := [(h0, .inr (0, [.ref a_kd, .ref a_hd, .ref a_pl, .ref a_st, .ref a_ho, .ref a_be, .int nc, .int nn, .int dy])), (a_ho, .inl (cI, 6, .inl ho)), (a_be, .inl (cI, 42, .inl be)), (a_kd, .inl (cI, 7, .inl kd_2)), (a_hd, .inl (cI, 7, .inl hd_3)), (a_pl, .inl (cI, 7, .inl pl_4))]) (As := [.ref a_st, .int nc, .int nc]) (n := 3) ⟨hx, hb, hml, hown, hts⟩ hK hP hD hS hA (c_X5_put l D cI cC cQ a_st st 7 nc nc _ h) gX0_addCourtier_X5_put_n46 (hK.2 _ (List.mem_of_getElem? (i := 4) rfl)) (k_2) (k_3) rfl ⟨rfl, rfl⟩ yoX5_put ⟨Nat.le_of_ble_eq_true rfl, Nat.le_of_ble_eq_true rfl⟩ rfl hl.1 rfl (Nat.le_of_ble_eq_true rfl) dX0_addCourtier_62 ⟨Nat.zero_le _, Nat.zero_le _⟩ [1] [0, 2, 3, 4, 5, 6] rfl (by decide) rfl (by decide) (by decide) (fun st_5 H locs h hP hD hS => ?_)
    have hP : va_P D vwCl [(h0, .inr (0, [.ref a_kd, .ref a_hd, .ref a_pl, .ref a_st, .ref a_ho, .ref a_be, .int nc, .int nn, .int dy])), (a_ho, .inl (cI, 6, .inl ho)), (a_be, .inl (cI, 42, .inl be)), (a_kd, .inl (cI, 7, .inl kd_2)), (a_hd, .inl (cI, 7, .inl hd_3)), (a_pl, .inl (cI, 7, .inl pl_4)), (a_st, .inl (cI, 7, .inl st_5))] H := hP
    have hD : va_D A [(h0, .inr (0, [.ref a_kd, .ref a_hd, .ref a_pl, .ref a_st, .ref a_ho, .ref a_be, .int nc, .int nn, .int dy])), (a_ho, .inl (cI, 6, .inl ho)), (a_be, .inl (cI, 42, .inl be)), (a_kd, .inl (cI, 7, .inl kd_2)), (a_hd, .inl (cI, 7, .inl hd_3)), (a_pl, .inl (cI, 7, .inl pl_4)), (a_st, .inl (cI, 7, .inl st_5))] := hD
    refine lv_aload_n hx hb dX0_addCourtier_65 rfl (lv_at hl 0 rfl) ?_
    refine lv_dup hx hb dX0_addCourtier_66 rfl ?_
    refine va_get (D := D) (ci := 0) (v := .int nc) (C := RX0) (T := TX0) (N := 9) hx hb hts hin0 hown hK.1 hP 0 rfl rfl 6 (by decide) (k_0) (fun _ h9 => h9) rfl dX0_addCourtier_67 ?_
    refine lv_iconst (v := 1) hx hb dX0_addCourtier_70 (by decide) ?_
    refine lv_iadd hx hb dX0_addCourtier_71 ?_
    refine va_put (D := D) (ci := 0) (v := .int (nc + (1 : Int32))) (ty := .int) (C := RX0) (T := TX0) (N := 9) hx hb hts hin0 tyX0 tyX0_ok nmX0 hown hK.1 hP hD hS 0 rfl rfl 6 (by decide) (k_0) (fun _ h9 => h9) rfl (by decide +kernel) rfl rfl (Nat.le_of_ble_eq_true rfl) dX0_addCourtier_72 (fun H locs hP hD hS => ?_)
    have hP : va_P D vwCl [(h0, .inr (0, [.ref a_kd, .ref a_hd, .ref a_pl, .ref a_st, .ref a_ho, .ref a_be, .int (nc + (1 : Int32)), .int nn, .int dy])), (a_ho, .inl (cI, 6, .inl ho)), (a_be, .inl (cI, 42, .inl be)), (a_kd, .inl (cI, 7, .inl kd_2)), (a_hd, .inl (cI, 7, .inl hd_3)), (a_pl, .inl (cI, 7, .inl pl_4)), (a_st, .inl (cI, 7, .inl st_5))] H := hP
    have hD : va_D A [(h0, .inr (0, [.ref a_kd, .ref a_hd, .ref a_pl, .ref a_st, .ref a_ho, .ref a_be, .int (nc + (1 : Int32)), .int nn, .int dy])), (a_ho, .inl (cI, 6, .inl ho)), (a_be, .inl (cI, 42, .inl be)), (a_kd, .inl (cI, 7, .inl kd_2)), (a_hd, .inl (cI, 7, .inl hd_3)), (a_pl, .inl (cI, 7, .inl pl_4)), (a_st, .inl (cI, 7, .inl st_5))] := hD
    refine lv_iconst (v := 1) hx hb dX0_addCourtier_75 (by decide) ?_
    have hP := hP.sub (ws' := [(h0, .inr (0, [.ref a_kd, .ref a_hd, .ref a_pl, .ref a_st, .ref a_ho, .ref a_be, .int (nc + (1 : Int32)), .int nn, .int dy])), (a_kd, .inl (cI, 7, .inl kd_2)), (a_hd, .inl (cI, 7, .inl hd_3)), (a_pl, .inl (cI, 7, .inl pl_4)), (a_st, .inl (cI, 7, .inl st_5)), (a_ho, .inl (cI, 6, .inl ho)), (a_be, .inl (cI, 42, .inl be))]) [0, 3, 4, 5, 6, 1, 2] rfl
    have hD := hD.sub (ws' := [(h0, .inr (0, [.ref a_kd, .ref a_hd, .ref a_pl, .ref a_st, .ref a_ho, .ref a_be, .int (nc + (1 : Int32)), .int nn, .int dy])), (a_kd, .inl (cI, 7, .inl kd_2)), (a_hd, .inl (cI, 7, .inl hd_3)), (a_pl, .inl (cI, 7, .inl pl_4)), (a_st, .inl (cI, 7, .inl st_5)), (a_ho, .inl (cI, 6, .inl ho)), (a_be, .inl (cI, 42, .inl be))]) [0, 3, 4, 5, 6, 1, 2] (by decide) rfl
    exact hret (1 : Int32) (kd_2, hd_3, pl_4, st_5, (nc + (1 : Int32))) _ _ _ ls (by decide) h hP hD hS dX0_addCourtier_76
  · have h := h.2 c_1
    refine lv_iconst (v := 0) hx hb dX0_addCourtier_9 (by decide) ?_
    exact hret (0 : Int32) (kd, hd, pl, st, nc) _ _ _ ls (by decide) h hP hD hS dX0_addCourtier_10

/-! DoubtCourt$Court.addNews -/
abbrev rmX0_addNews : Room := { frames := 1, cells := 0, slots := 0, locals := 22 }
theorem yoX0_addNews : yX0_addNews.cls ≠ "java/lang/invoke/MethodHandle" ∧ yX0_addNews.cls ≠ "java/lang/invoke/VarHandle" ∧ (parseMethodDescriptor yX0_addNews.desc).map (fun d => d.parameters.length) = some 1 := by decide +kernel
set_option maxHeartbeats 4000000 in
set_option maxRecDepth 100000 in
theorem c_X0_addNews (l : Launch) (D : va_G) (cI cC cQ : ClassId) (h0 : Nat) (a_kd : Nat) (a_hd : Nat) (a_pl : Nat) (a_st : Nat) (a_ho : Nat) (a_be : Nat) (kd : Nat → Int32) (hd : Nat → Int32) (pl : Nat → Int32) (st : Nat → Int32) (ho : Nat → Int32) (be : Nat → Int32) (nc : Int32) (nn : Int32) (dy : Int32) (x1 : Int32) (Q : Int32 → (Nat → Int32) → Int32 → Prop) (h : wX0_addNews x1 ho nc nn Q) : Ci (S := (Nat → Int32) × (Int32)) l D cI cC cQ yX0_addNews wsX0_addNews rmX0_addNews [.ref h0, .int x1] [(h0, .inr (0, [.ref a_kd, .ref a_hd, .ref a_pl, .ref a_st, .ref a_ho, .ref a_be, .int nc, .int nn, .int dy])), (a_kd, .inl (cI, 7, .inl kd)), (a_hd, .inl (cI, 7, .inl hd)), (a_pl, .inl (cI, 7, .inl pl)), (a_st, .inl (cI, 7, .inl st)), (a_ho, .inl (cI, 6, .inl ho)), (a_be, .inl (cI, 42, .inl be))] (fun u => [(h0, .inr (0, [.ref a_kd, .ref a_hd, .ref a_pl, .ref a_st, .ref a_ho, .ref a_be, .int nc, .int u.2, .int dy])), (a_kd, .inl (cI, 7, .inl kd)), (a_hd, .inl (cI, 7, .inl hd)), (a_pl, .inl (cI, 7, .inl pl)), (a_st, .inl (cI, 7, .inl st)), (a_ho, .inl (cI, 6, .inl u.1)), (a_be, .inl (cI, 42, .inl be))]) (fun r u => (r = 0 ∨ r = 1) ∧ Q r u.1 u.2) := by
  refine Cz_mk (cc := cX0_addNews) (maxL := 2) (by decide) rfl (Nat.le_of_ble_eq_true rfl) ?_
  intro p e s m args below meth c A Z ls hx hb hml hown hts hK hA hP hD hret hl
  have hS : va_S A s.heap s.heap [] := va_S.rf
  have hin0 : ∀ w ∈ u_ws RX0 TX0 9, w ∈ wsX0_addNews := by decide +kernel
  have k_0 := hts (.fieldLink RX0 34 "DoubtCourt$Court" "newsTold" "I") (by decide +kernel)
  have k_1 := hts (.fieldLink RX0 24 "DoubtCourt$Court" "holder" "[I") (by decide +kernel)
  have k_2 := hts (.initialized RX5) (by decide +kernel)
  have k_3 := hts (.static yX5_put) (by decide +kernel)
  have hl : lv_has ls 2 [(0, .ref h0), (1, .int x1)] := hl
  refine lv_aload_n hx hb dX0_addNews_0 rfl (lv_at hl 0 rfl) ?_
  refine va_get (D := D) (ci := 0) (v := .int nn) (C := RX0) (T := TX0) (N := 9) hx hb hts hin0 hown hK.1 hP 0 rfl rfl 7 (by decide) (k_0) (fun _ h9 => h9) rfl dX0_addNews_1 ?_
  refine lv_bipush (v := 6) hx hb dX0_addNews_4 (by decide) ?_
  refine lv_icmp_ge (tgt := 17) hx hb dX0_addNews_6 (by decide) (fun c_1 => ?_) (fun c_1 => ?_)
  · have h := h.1 c_1
    refine lv_iconst (v := 0) hx hb dX0_addNews_17 (by decide) ?_
    exact hret (0 : Int32) (ho, nn) _ _ _ ls (by decide) h hP hD hS dX0_addNews_18
  · have h := h.2 c_1
    refine lv_aload_n hx hb dX0_addNews_9 rfl (lv_at hl 0 rfl) ?_
    refine lv_iload_n hx hb dX0_addNews_10 rfl (lv_at hl 1 rfl) ?_
    refine k0V_i (As := [.int x1]) (n := 1) ⟨hx, hb, hml, hown, hts⟩ hK hP hD hS hA (c_X0_isCourtier l D cI cC cQ h0 a_kd a_hd a_pl a_st a_ho a_be kd hd pl st ho be nc nn dy x1 _ h) gX0_addNews_X0_isCourtier rfl rfl ⟨rfl, rfl⟩ yoX0_isCourtier ⟨Nat.le_of_ble_eq_true rfl, Nat.le_of_ble_eq_true rfl⟩ (q0 := 0) (ci := 0) rfl rfl rfl rfl hl.1 rfl (Nat.le_of_ble_eq_true rfl) dX0_addNews_11 ⟨Nat.zero_le _, Nat.zero_le _⟩ (fun r_2 u H locs h hP hD hS => ?_)
    obtain ⟨b_3, h⟩ := h
    refine lv_if_ne (tgt := 19) hx hb dX0_addNews_14 (by decide) (fun c_4 => ?_) (fun c_4 => ?_)
    · have h := h.2 c_4
      refine lv_aload_n hx hb dX0_addNews_19 rfl (lv_at hl 0 rfl) ?_
      refine va_get (D := D) (ci := 0) (v := .ref a_ho) (C := RX0) (T := TX0) (N := 9) hx hb hts hin0 hown hK.1 hP 0 rfl rfl 4 (by decide) (k_1) (fun _ h9 => h9) rfl dX0_addNews_20 ?_
      refine lv_aload_n hx hb dX0_addNews_23 rfl (lv_at hl 0 rfl) ?_
      refine va_get (D := D) (ci := 0) (v := .int nn) (C := RX0) (T := TX0) (N := 9) hx hb hts hin0 hown hK.1 hP 0 rfl rfl 7 (by decide) (k_0) (fun _ h9 => h9) rfl dX0_addNews_24 ?_
      refine lv_iload_n hx hb dX0_addNews_27 rfl (lv_at hl 1 rfl) ?_
      refine kSN_v (wr := [(h0, .inr (0, [.ref a_kd, .ref a_hd, .ref a_pl, .ref a_st, .ref a_ho, .ref a_be, .int nc, .int nn, .int dy])), (a_kd, .inl (cI, 7, .inl kd)), (a_hd, .inl (cI, 7, .inl hd)), (a_pl, .inl (cI, 7, .inl pl)), (a_st, .inl (cI, 7, .inl st)), (a_be, .inl (cI, 42, .inl be))]) (As := [.ref a_ho, .int nn, .int x1]) (n := 3) ⟨hx, hb, hml, hown, hts⟩ hK hP hD hS hA (c_X5_put l D cI cC cQ a_ho ho 6 nn x1 _ h) gX0_addNews_X5_put_n46 (hK.2 _ (List.mem_of_getElem? (i := 4) rfl)) (k_2) (k_3) rfl ⟨rfl, rfl⟩ yoX5_put ⟨Nat.le_of_ble_eq_true rfl, Nat.le_of_ble_eq_true rfl⟩ rfl hl.1 rfl (Nat.le_of_ble_eq_true rfl) dX0_addNews_28 ⟨Nat.zero_le _, Nat.zero_le _⟩ [5] [0, 1, 2, 3, 4, 6] rfl (by decide) rfl (by decide) (by decide) (fun ho_5 H locs h hP hD hS => ?_)
      have hP : va_P D vwCl [(h0, .inr (0, [.ref a_kd, .ref a_hd, .ref a_pl, .ref a_st, .ref a_ho, .ref a_be, .int nc, .int nn, .int dy])), (a_kd, .inl (cI, 7, .inl kd)), (a_hd, .inl (cI, 7, .inl hd)), (a_pl, .inl (cI, 7, .inl pl)), (a_st, .inl (cI, 7, .inl st)), (a_be, .inl (cI, 42, .inl be)), (a_ho, .inl (cI, 6, .inl ho_5))] H := hP
      have hD : va_D A [(h0, .inr (0, [.ref a_kd, .ref a_hd, .ref a_pl, .ref a_st, .ref a_ho, .ref a_be, .int nc, .int nn, .int dy])), (a_kd, .inl (cI, 7, .inl kd)), (a_hd, .inl (cI, 7, .inl hd)), (a_pl, .inl (cI, 7, .inl pl)), (a_st, .inl (cI, 7, .inl st)), (a_be, .inl (cI, 42, .inl be)), (a_ho, .inl (cI, 6, .inl ho_5))] := hD
      refine lv_aload_n hx hb dX0_addNews_31 rfl (lv_at hl 0 rfl) ?_
      refine lv_dup hx hb dX0_addNews_32 rfl ?_
      refine va_get (D := D) (ci := 0) (v := .int nn) (C := RX0) (T := TX0) (N := 9) hx hb hts hin0 hown hK.1 hP 0 rfl rfl 7 (by decide) (k_0) (fun _ h9 => h9) rfl dX0_addNews_33 ?_
      refine lv_iconst (v := 1) hx hb dX0_addNews_36 (by decide) ?_
      refine lv_iadd hx hb dX0_addNews_37 ?_
      refine va_put (D := D) (ci := 0) (v := .int (nn + (1 : Int32))) (ty := .int) (C := RX0) (T := TX0) (N := 9) hx hb hts hin0 tyX0 tyX0_ok nmX0 hown hK.1 hP hD hS 0 rfl rfl 7 (by decide) (k_0) (fun _ h9 => h9) rfl (by decide +kernel) rfl rfl (Nat.le_of_ble_eq_true rfl) dX0_addNews_38 (fun H locs hP hD hS => ?_)
      have hP : va_P D vwCl [(h0, .inr (0, [.ref a_kd, .ref a_hd, .ref a_pl, .ref a_st, .ref a_ho, .ref a_be, .int nc, .int (nn + (1 : Int32)), .int dy])), (a_kd, .inl (cI, 7, .inl kd)), (a_hd, .inl (cI, 7, .inl hd)), (a_pl, .inl (cI, 7, .inl pl)), (a_st, .inl (cI, 7, .inl st)), (a_be, .inl (cI, 42, .inl be)), (a_ho, .inl (cI, 6, .inl ho_5))] H := hP
      have hD : va_D A [(h0, .inr (0, [.ref a_kd, .ref a_hd, .ref a_pl, .ref a_st, .ref a_ho, .ref a_be, .int nc, .int (nn + (1 : Int32)), .int dy])), (a_kd, .inl (cI, 7, .inl kd)), (a_hd, .inl (cI, 7, .inl hd)), (a_pl, .inl (cI, 7, .inl pl)), (a_st, .inl (cI, 7, .inl st)), (a_be, .inl (cI, 42, .inl be)), (a_ho, .inl (cI, 6, .inl ho_5))] := hD
      refine lv_iconst (v := 1) hx hb dX0_addNews_41 (by decide) ?_
      have hP := hP.sub (ws' := [(h0, .inr (0, [.ref a_kd, .ref a_hd, .ref a_pl, .ref a_st, .ref a_ho, .ref a_be, .int nc, .int (nn + (1 : Int32)), .int dy])), (a_kd, .inl (cI, 7, .inl kd)), (a_hd, .inl (cI, 7, .inl hd)), (a_pl, .inl (cI, 7, .inl pl)), (a_st, .inl (cI, 7, .inl st)), (a_ho, .inl (cI, 6, .inl ho_5)), (a_be, .inl (cI, 42, .inl be))]) [0, 1, 2, 3, 4, 6, 5] rfl
      have hD := hD.sub (ws' := [(h0, .inr (0, [.ref a_kd, .ref a_hd, .ref a_pl, .ref a_st, .ref a_ho, .ref a_be, .int nc, .int (nn + (1 : Int32)), .int dy])), (a_kd, .inl (cI, 7, .inl kd)), (a_hd, .inl (cI, 7, .inl hd)), (a_pl, .inl (cI, 7, .inl pl)), (a_st, .inl (cI, 7, .inl st)), (a_ho, .inl (cI, 6, .inl ho_5)), (a_be, .inl (cI, 42, .inl be))]) [0, 1, 2, 3, 4, 6, 5] (by decide) rfl
      exact hret (1 : Int32) (ho_5, (nn + (1 : Int32))) _ _ _ ls (by decide) h hP hD hS dX0_addNews_42
    · have h := h.1 c_4
      refine lv_iconst (v := 0) hx hb dX0_addNews_17 (by decide) ?_
      exact hret (0 : Int32) (ho, nn) _ _ _ ls (by decide) h hP hD hS dX0_addNews_18

/-! DoubtCourt$Court.settleHeeds -/
abbrev rmX0_settleHeeds : Room := { frames := 1, cells := 0, slots := 0, locals := 22 }
theorem yoX0_settleHeeds : yX0_settleHeeds.cls ≠ "java/lang/invoke/MethodHandle" ∧ yX0_settleHeeds.cls ≠ "java/lang/invoke/VarHandle" ∧ (parseMethodDescriptor yX0_settleHeeds.desc).map (fun d => d.parameters.length) = some 0 := by decide +kernel
set_option maxHeartbeats 4000000 in
set_option maxRecDepth 100000 in
theorem c_X0_settleHeeds (l : Launch) (D : va_G) (cI cC cQ : ClassId) (h0 : Nat) (a_kd : Nat) (a_hd : Nat) (a_pl : Nat) (a_st : Nat) (a_ho : Nat) (a_be : Nat) (kd : Nat → Int32) (hd : Nat → Int32) (pl : Nat → Int32) (st : Nat → Int32) (ho : Nat → Int32) (be : Nat → Int32) (nc : Int32) (nn : Int32) (dy : Int32) (Q : (Nat → Int32) → Prop) (h : wX0_settleHeeds hd nc Q) : Cv (S := (Nat → Int32)) l D cI cC cQ yX0_settleHeeds wsX0_settleHeeds rmX0_settleHeeds [.ref h0] [(h0, .inr (0, [.ref a_kd, .ref a_hd, .ref a_pl, .ref a_st, .ref a_ho, .ref a_be, .int nc, .int nn, .int dy])), (a_kd, .inl (cI, 7, .inl kd)), (a_hd, .inl (cI, 7, .inl hd)), (a_pl, .inl (cI, 7, .inl pl)), (a_st, .inl (cI, 7, .inl st)), (a_ho, .inl (cI, 6, .inl ho)), (a_be, .inl (cI, 42, .inl be))] (fun u => [(h0, .inr (0, [.ref a_kd, .ref a_hd, .ref a_pl, .ref a_st, .ref a_ho, .ref a_be, .int nc, .int nn, .int dy])), (a_kd, .inl (cI, 7, .inl kd)), (a_hd, .inl (cI, 7, .inl u)), (a_pl, .inl (cI, 7, .inl pl)), (a_st, .inl (cI, 7, .inl st)), (a_ho, .inl (cI, 6, .inl ho)), (a_be, .inl (cI, 42, .inl be))]) (fun u => Q u) := by
  refine Cv_mk (cc := cX0_settleHeeds) (maxL := 3) (by decide) rfl (Nat.le_of_ble_eq_true rfl) ?_
  intro p e s m args below meth c A Z ls hx hb hml hown hts hK hA hP hD hret hl
  have hS : va_S A s.heap s.heap [] := va_S.rf
  have hin0 : ∀ w ∈ u_ws RX0 TX0 9, w ∈ wsX0_settleHeeds := by decide +kernel
  have k_0 := hts (.fieldLink RX0 30 "DoubtCourt$Court" "courtiers" "I") (by decide +kernel)
  have k_1 := hts (.fieldLink RX0 15 "DoubtCourt$Court" "heeded" "[I") (by decide +kernel)
  have k_2 := hts (.initialized RX5) (by decide +kernel)
  have k_3 := hts (.static yX5_of) (by decide +kernel)
  have k_4 := hts (.static yX5_put) (by decide +kernel)
  have hl : lv_has ls 3 [(0, .ref h0)] := hl
  have L2 : ∀ (n : Nat) {x1 : Int32} {hd : Nat → Int32} {H : Heap} {locs : List Loc} {ls : Array Slot}, wX0_settleHeeds_L2 nc Q n x1 hd → va_P D vwCl [(h0, .inr (0, [.ref a_kd, .ref a_hd, .ref a_pl, .ref a_st, .ref a_ho, .ref a_be, .int nc, .int nn, .int dy])), (a_kd, .inl (cI, 7, .inl kd)), (a_hd, .inl (cI, 7, .inl hd)), (a_pl, .inl (cI, 7, .inl pl)), (a_st, .inl (cI, 7, .inl st)), (a_ho, .inl (cI, 6, .inl ho)), (a_be, .inl (cI, 42, .inl be))] H → va_D A [(h0, .inr (0, [.ref a_kd, .ref a_hd, .ref a_pl, .ref a_st, .ref a_ho, .ref a_be, .int nc, .int nn, .int dy])), (a_kd, .inl (cI, 7, .inl kd)), (a_hd, .inl (cI, 7, .inl hd)), (a_pl, .inl (cI, 7, .inl pl)), (a_st, .inl (cI, 7, .inl st)), (a_ho, .inl (cI, 6, .inl ho)), (a_be, .inl (cI, 42, .inl be))] → va_S A s.heap H locs → lv_has ls 3 [(0, .ref h0), (1, .int x1)] → W p l e rmX0_settleHeeds s m args below meth c H locs 0 0 Z (F0 m 2 ls []) := by
    intro n
    induction n with
    | zero =>
      intro x1 hd H locs ls h hP hD hS hl
      exact (show False from h).elim
    | succ n ih =>
      intro x1 hd H locs ls h hP hD hS hl
      refine lv_iload_n hx hb dX0_settleHeeds_2 rfl (lv_at hl 1 rfl) ?_
      refine lv_aload_n hx hb dX0_settleHeeds_3 rfl (lv_at hl 0 rfl) ?_
      refine va_get (D := D) (ci := 0) (v := .int nc) (C := RX0) (T := TX0) (N := 9) hx hb hts hin0 hown hK.1 hP 0 rfl rfl 6 (by decide) (k_0) (fun _ h9 => h9) rfl dX0_settleHeeds_4 ?_
      refine lv_icmp_ge (tgt := 48) hx hb dX0_settleHeeds_7 (by decide) (fun c_9 => ?_) (fun c_9 => ?_)
      · have h := h.1 c_9
        exact hret hd _ _ _ ls h hP hD hS dX0_settleHeeds_48
      · have h := h.2 c_9
        refine lv_aload_n hx hb dX0_settleHeeds_10 rfl (lv_at hl 0 rfl) ?_
        refine va_get (D := D) (ci := 0) (v := .ref a_hd) (C := RX0) (T := TX0) (N := 9) hx hb hts hin0 hown hK.1 hP 0 rfl rfl 1 (by decide) (k_1) (fun _ h9 => h9) rfl dX0_settleHeeds_11 ?_
        refine lv_iload_n hx hb dX0_settleHeeds_14 rfl (lv_at hl 1 rfl) ?_
        refine kSN_i (wr := [(h0, .inr (0, [.ref a_kd, .ref a_hd, .ref a_pl, .ref a_st, .ref a_ho, .ref a_be, .int nc, .int nn, .int dy])), (a_kd, .inl (cI, 7, .inl kd)), (a_pl, .inl (cI, 7, .inl pl)), (a_st, .inl (cI, 7, .inl st)), (a_ho, .inl (cI, 6, .inl ho)), (a_be, .inl (cI, 42, .inl be))]) (As := [.ref a_hd, .int x1]) (n := 2) ⟨hx, hb, hml, hown, hts⟩ hK hP hD hS hA (c_X5_of l D cI cC cQ a_hd hd 7 x1 _ h) gX0_settleHeeds_X5_of_n54 (hK.2 _ (List.mem_of_getElem? (i := 5) rfl)) (k_2) (k_3) rfl ⟨rfl, rfl⟩ yoX5_of ⟨Nat.le_of_ble_eq_true rfl, Nat.le_of_ble_eq_true rfl⟩ rfl hl.1 rfl (Nat.le_of_ble_eq_true rfl) dX0_settleHeeds_15 ⟨Nat.zero_le _, Nat.zero_le _⟩ [2] [0, 1, 3, 4, 5, 6] rfl (by decide) rfl (by decide) (by decide) (fun r_10 u H locs h hP hD hS => ?_)
        have hP : va_P D vwCl [(h0, .inr (0, [.ref a_kd, .ref a_hd, .ref a_pl, .ref a_st, .ref a_ho, .ref a_be, .int nc, .int nn, .int dy])), (a_kd, .inl (cI, 7, .inl kd)), (a_pl, .inl (cI, 7, .inl pl)), (a_st, .inl (cI, 7, .inl st)), (a_ho, .inl (cI, 6, .inl ho)), (a_be, .inl (cI, 42, .inl be)), (a_hd, .inl (cI, 7, .inl hd))] H := hP
        have hD : va_D A [(h0, .inr (0, [.ref a_kd, .ref a_hd, .ref a_pl, .ref a_st, .ref a_ho, .ref a_be, .int nc, .int nn, .int dy])), (a_kd, .inl (cI, 7, .inl kd)), (a_pl, .inl (cI, 7, .inl pl)), (a_st, .inl (cI, 7, .inl st)), (a_ho, .inl (cI, 6, .inl ho)), (a_be, .inl (cI, 42, .inl be)), (a_hd, .inl (cI, 7, .inl hd))] := hD
        refine lv_istore_n (lv' := [(2, .int r_10), (0, .ref h0), (1, .int x1)]) hx hb dX0_settleHeeds_18 rfl hl (by decide) rfl (fun ls hl => ?_)
        refine lv_iload_n hx hb dX0_settleHeeds_19 rfl (lv_at hl 0 rfl) ?_
        refine lv_iload_n hx hb dX0_settleHeeds_20 rfl (lv_at hl 2 rfl) ?_
        refine lv_icmp_eq (tgt := 32) hx hb dX0_settleHeeds_21 (by decide) (fun c_11 => ?_) (fun c_11 => ?_)
        · have h := h.1 c_11
          refine lv_aload_n hx hb dX0_settleHeeds_32 rfl (lv_at hl 1 rfl) ?_
          refine va_get (D := D) (ci := 0) (v := .ref a_hd) (C := RX0) (T := TX0) (N := 9) hx hb hts hin0 hown hK.1 hP 0 rfl rfl 1 (by decide) (k_1) (fun _ h9 => h9) rfl dX0_settleHeeds_33 ?_
          refine lv_iload_n hx hb dX0_settleHeeds_36 rfl (lv_at hl 2 rfl) ?_
          refine lv_bipush (v := -4) hx hb dX0_settleHeeds_37 (by decide) ?_
          refine kSN_v (wr := [(h0, .inr (0, [.ref a_kd, .ref a_hd, .ref a_pl, .ref a_st, .ref a_ho, .ref a_be, .int nc, .int nn, .int dy])), (a_kd, .inl (cI, 7, .inl kd)), (a_pl, .inl (cI, 7, .inl pl)), (a_st, .inl (cI, 7, .inl st)), (a_ho, .inl (cI, 6, .inl ho)), (a_be, .inl (cI, 42, .inl be))]) (As := [.ref a_hd, .int x1, .int (-4 : Int32)]) (n := 3) ⟨hx, hb, hml, hown, hts⟩ hK hP hD hS hA (c_X5_put l D cI cC cQ a_hd hd 7 x1 (-4 : Int32) _ h) gX0_settleHeeds_X5_put_n46 (hK.2 _ (List.mem_of_getElem? (i := 4) rfl)) (k_2) (k_4) rfl ⟨rfl, rfl⟩ yoX5_put ⟨Nat.le_of_ble_eq_true rfl, Nat.le_of_ble_eq_true rfl⟩ rfl hl.1 rfl (Nat.le_of_ble_eq_true rfl) dX0_settleHeeds_39 ⟨Nat.zero_le _, Nat.zero_le _⟩ [6] [0, 1, 2, 3, 4, 5] rfl (by decide) rfl (by decide) (by decide) (fun hd_12 H locs h hP hD hS => ?_)
          have hP : va_P D vwCl [(h0, .inr (0, [.ref a_kd, .ref a_hd, .ref a_pl, .ref a_st, .ref a_ho, .ref a_be, .int nc, .int nn, .int dy])), (a_kd, .inl (cI, 7, .inl kd)), (a_pl, .inl (cI, 7, .inl pl)), (a_st, .inl (cI, 7, .inl st)), (a_ho, .inl (cI, 6, .inl ho)), (a_be, .inl (cI, 42, .inl be)), (a_hd, .inl (cI, 7, .inl hd_12))] H := hP
          have hD : va_D A [(h0, .inr (0, [.ref a_kd, .ref a_hd, .ref a_pl, .ref a_st, .ref a_ho, .ref a_be, .int nc, .int nn, .int dy])), (a_kd, .inl (cI, 7, .inl kd)), (a_pl, .inl (cI, 7, .inl pl)), (a_st, .inl (cI, 7, .inl st)), (a_ho, .inl (cI, 6, .inl ho)), (a_be, .inl (cI, 42, .inl be)), (a_hd, .inl (cI, 7, .inl hd_12))] := hD
          refine lv_iinc (v := (x1 + (1 : Int32))) (lv' := [(1, .int (x1 + (1 : Int32))), (2, .int r_10), (0, .ref h0)]) hx hb dX0_settleHeeds_42 hl (k := 2) rfl rfl (by decide) rfl (fun ls hl => ?_)
          refine lv_goto (tgt := 2) hx hb dX0_settleHeeds_45 (by decide) ?_
          have hP := hP.sub (ws' := [(h0, .inr (0, [.ref a_kd, .ref a_hd, .ref a_pl, .ref a_st, .ref a_ho, .ref a_be, .int nc, .int nn, .int dy])), (a_kd, .inl (cI, 7, .inl kd)), (a_hd, .inl (cI, 7, .inl hd_12)), (a_pl, .inl (cI, 7, .inl pl)), (a_st, .inl (cI, 7, .inl st)), (a_ho, .inl (cI, 6, .inl ho)), (a_be, .inl (cI, 42, .inl be))]) [0, 1, 6, 2, 3, 4, 5] rfl
          have hD := hD.sub (ws' := [(h0, .inr (0, [.ref a_kd, .ref a_hd, .ref a_pl, .ref a_st, .ref a_ho, .ref a_be, .int nc, .int nn, .int dy])), (a_kd, .inl (cI, 7, .inl kd)), (a_hd, .inl (cI, 7, .inl hd_12)), (a_pl, .inl (cI, 7, .inl pl)), (a_st, .inl (cI, 7, .inl st)), (a_ho, .inl (cI, 6, .inl ho)), (a_be, .inl (cI, 42, .inl be))]) [0, 1, 6, 2, 3, 4, 5] (by decide) rfl
          exact ih h hP hD hS (lv_sub hl [2, 0] rfl)
        · have h := h.2 c_11
          refine lv_aload_n hx hb dX0_settleHeeds_24 rfl (lv_at hl 1 rfl) ?_
          refine lv_iload_n hx hb dX0_settleHeeds_25 rfl (lv_at hl 0 rfl) ?_
          refine kV_i (wr := []) (As := [.int r_10]) (n := 1) ⟨hx, hb, hml, hown, hts⟩ hK hP hD hS hA (c_X0_isCourtier l D cI cC cQ h0 a_kd a_hd a_pl a_st a_ho a_be kd hd pl st ho be nc nn dy r_10 _ h) gX0_settleHeeds_X0_isCourtier rfl rfl ⟨rfl, rfl⟩ yoX0_isCourtier ⟨Nat.le_of_ble_eq_true rfl, Nat.le_of_ble_eq_true rfl⟩ (q0 := 0) (ci := 0) rfl rfl rfl rfl hl.1 rfl (Nat.le_of_ble_eq_true rfl) dX0_settleHeeds_26 ⟨Nat.zero_le _, Nat.zero_le _⟩ [0, 1, 6, 2, 3, 4, 5] [] rfl (by decide) rfl (by decide) (by decide) (fun r_13 u H locs h hP hD hS => ?_)
          have hP : va_P D vwCl [(h0, .inr (0, [.ref a_kd, .ref a_hd, .ref a_pl, .ref a_st, .ref a_ho, .ref a_be, .int nc, .int nn, .int dy])), (a_kd, .inl (cI, 7, .inl kd)), (a_hd, .inl (cI, 7, .inl hd)), (a_pl, .inl (cI, 7, .inl pl)), (a_st, .inl (cI, 7, .inl st)), (a_ho, .inl (cI, 6, .inl ho)), (a_be, .inl (cI, 42, .inl be))] H := hP
          have hD : va_D A [(h0, .inr (0, [.ref a_kd, .ref a_hd, .ref a_pl, .ref a_st, .ref a_ho, .ref a_be, .int nc, .int nn, .int dy])), (a_kd, .inl (cI, 7, .inl kd)), (a_hd, .inl (cI, 7, .inl hd)), (a_pl, .inl (cI, 7, .inl pl)), (a_st, .inl (cI, 7, .inl st)), (a_ho, .inl (cI, 6, .inl ho)), (a_be, .inl (cI, 42, .inl be))] := hD
          obtain ⟨b_14, h⟩ := h
          refine lv_if_ne (tgt := 42) hx hb dX0_settleHeeds_29 (by decide) (fun c_15 => ?_) (fun c_15 => ?_)
          · have h := h.2 c_15
            refine lv_iinc (v := (x1 + (1 : Int32))) (lv' := [(1, .int (x1 + (1 : Int32))), (2, .int r_10), (0, .ref h0)]) hx hb dX0_settleHeeds_42 hl (k := 2) rfl rfl (by decide) rfl (fun ls hl => ?_)
            refine lv_goto (tgt := 2) hx hb dX0_settleHeeds_45 (by decide) ?_
            exact ih h hP hD hS (lv_sub hl [2, 0] rfl)
          · have h := h.1 c_15
            refine lv_aload_n hx hb dX0_settleHeeds_32 rfl (lv_at hl 1 rfl) ?_
            refine va_get (D := D) (ci := 0) (v := .ref a_hd) (C := RX0) (T := TX0) (N := 9) hx hb hts hin0 hown hK.1 hP 0 rfl rfl 1 (by decide) (k_1) (fun _ h9 => h9) rfl dX0_settleHeeds_33 ?_
            refine lv_iload_n hx hb dX0_settleHeeds_36 rfl (lv_at hl 2 rfl) ?_
            refine lv_bipush (v := -4) hx hb dX0_settleHeeds_37 (by decide) ?_
            refine kSN_v (wr := [(h0, .inr (0, [.ref a_kd, .ref a_hd, .ref a_pl, .ref a_st, .ref a_ho, .ref a_be, .int nc, .int nn, .int dy])), (a_kd, .inl (cI, 7, .inl kd)), (a_pl, .inl (cI, 7, .inl pl)), (a_st, .inl (cI, 7, .inl st)), (a_ho, .inl (cI, 6, .inl ho)), (a_be, .inl (cI, 42, .inl be))]) (As := [.ref a_hd, .int x1, .int (-4 : Int32)]) (n := 3) ⟨hx, hb, hml, hown, hts⟩ hK hP hD hS hA (c_X5_put l D cI cC cQ a_hd hd 7 x1 (-4 : Int32) _ h) gX0_settleHeeds_X5_put_n46 (hK.2 _ (List.mem_of_getElem? (i := 4) rfl)) (k_2) (k_4) rfl ⟨rfl, rfl⟩ yoX5_put ⟨Nat.le_of_ble_eq_true rfl, Nat.le_of_ble_eq_true rfl⟩ rfl hl.1 rfl (Nat.le_of_ble_eq_true rfl) dX0_settleHeeds_39 ⟨Nat.zero_le _, Nat.zero_le _⟩ [2] [0, 1, 3, 4, 5, 6] rfl (by decide) rfl (by decide) (by decide) (fun hd_16 H locs h hP hD hS => ?_)
            have hP : va_P D vwCl [(h0, .inr (0, [.ref a_kd, .ref a_hd, .ref a_pl, .ref a_st, .ref a_ho, .ref a_be, .int nc, .int nn, .int dy])), (a_kd, .inl (cI, 7, .inl kd)), (a_pl, .inl (cI, 7, .inl pl)), (a_st, .inl (cI, 7, .inl st)), (a_ho, .inl (cI, 6, .inl ho)), (a_be, .inl (cI, 42, .inl be)), (a_hd, .inl (cI, 7, .inl hd_16))] H := hP
            have hD : va_D A [(h0, .inr (0, [.ref a_kd, .ref a_hd, .ref a_pl, .ref a_st, .ref a_ho, .ref a_be, .int nc, .int nn, .int dy])), (a_kd, .inl (cI, 7, .inl kd)), (a_pl, .inl (cI, 7, .inl pl)), (a_st, .inl (cI, 7, .inl st)), (a_ho, .inl (cI, 6, .inl ho)), (a_be, .inl (cI, 42, .inl be)), (a_hd, .inl (cI, 7, .inl hd_16))] := hD
            refine lv_iinc (v := (x1 + (1 : Int32))) (lv' := [(1, .int (x1 + (1 : Int32))), (2, .int r_10), (0, .ref h0)]) hx hb dX0_settleHeeds_42 hl (k := 2) rfl rfl (by decide) rfl (fun ls hl => ?_)
            refine lv_goto (tgt := 2) hx hb dX0_settleHeeds_45 (by decide) ?_
            have hP := hP.sub (ws' := [(h0, .inr (0, [.ref a_kd, .ref a_hd, .ref a_pl, .ref a_st, .ref a_ho, .ref a_be, .int nc, .int nn, .int dy])), (a_kd, .inl (cI, 7, .inl kd)), (a_hd, .inl (cI, 7, .inl hd_16)), (a_pl, .inl (cI, 7, .inl pl)), (a_st, .inl (cI, 7, .inl st)), (a_ho, .inl (cI, 6, .inl ho)), (a_be, .inl (cI, 42, .inl be))]) [0, 1, 6, 2, 3, 4, 5] rfl
            have hD := hD.sub (ws' := [(h0, .inr (0, [.ref a_kd, .ref a_hd, .ref a_pl, .ref a_st, .ref a_ho, .ref a_be, .int nc, .int nn, .int dy])), (a_kd, .inl (cI, 7, .inl kd)), (a_hd, .inl (cI, 7, .inl hd_16)), (a_pl, .inl (cI, 7, .inl pl)), (a_st, .inl (cI, 7, .inl st)), (a_ho, .inl (cI, 6, .inl ho)), (a_be, .inl (cI, 42, .inl be))]) [0, 1, 6, 2, 3, 4, 5] (by decide) rfl
            exact ih h hP hD hS (lv_sub hl [2, 0] rfl)
  refine lv_iconst (v := 0) hx hb dX0_settleHeeds_0 (by decide) ?_
  refine lv_istore_n (lv' := [(1, .int (0 : Int32)), (0, .ref h0)]) hx hb dX0_settleHeeds_1 rfl hl (by decide) rfl (fun ls hl => ?_)
  obtain ⟨n_17, h⟩ := h
  exact L2 n_17 h hP hD hS (lv_sub hl [1, 0] rfl)

/-! DoubtCourt$Court.doubters -/
abbrev rmX0_doubters : Room := { frames := 2, cells := 0, slots := 0, locals := 43 }
theorem yoX0_doubters : yX0_doubters.cls ≠ "java/lang/invoke/MethodHandle" ∧ yX0_doubters.cls ≠ "java/lang/invoke/VarHandle" ∧ (parseMethodDescriptor yX0_doubters.desc).map (fun d => d.parameters.length) = some 1 := by decide +kernel
set_option maxHeartbeats 4000000 in
set_option maxRecDepth 100000 in
theorem c_X0_doubters (l : Launch) (D : va_G) (cI cC cQ : ClassId) (h0 : Nat) (a_kd : Nat) (a_hd : Nat) (a_pl : Nat) (a_st : Nat) (a_ho : Nat) (a_be : Nat) (kd : Nat → Int32) (hd : Nat → Int32) (pl : Nat → Int32) (st : Nat → Int32) (ho : Nat → Int32) (be : Nat → Int32) (nc : Int32) (nn : Int32) (dy : Int32) (x1 : Int32) (Q : Int32 → Prop) (h : wX0_doubters x1 be nc Q) : Ci (S := Unit) l D cI cC cQ yX0_doubters wsX0_doubters rmX0_doubters [.ref h0, .int x1] [(h0, .inr (0, [.ref a_kd, .ref a_hd, .ref a_pl, .ref a_st, .ref a_ho, .ref a_be, .int nc, .int nn, .int dy])), (a_kd, .inl (cI, 7, .inl kd)), (a_hd, .inl (cI, 7, .inl hd)), (a_pl, .inl (cI, 7, .inl pl)), (a_st, .inl (cI, 7, .inl st)), (a_ho, .inl (cI, 6, .inl ho)), (a_be, .inl (cI, 42, .inl be))] (fun _ => [(h0, .inr (0, [.ref a_kd, .ref a_hd, .ref a_pl, .ref a_st, .ref a_ho, .ref a_be, .int nc, .int nn, .int dy])), (a_kd, .inl (cI, 7, .inl kd)), (a_hd, .inl (cI, 7, .inl hd)), (a_pl, .inl (cI, 7, .inl pl)), (a_st, .inl (cI, 7, .inl st)), (a_ho, .inl (cI, 6, .inl ho)), (a_be, .inl (cI, 42, .inl be))]) (fun r _ => Q r) := by
  refine Ci_mk (cc := cX0_doubters) (maxL := 4) (by decide) rfl (Nat.le_of_ble_eq_true rfl) ?_
  intro p e s m args below meth c A Z ls hx hb hml hown hts hK hA hP hD hret hl
  have hS : va_S A s.heap s.heap [] := va_S.rf
  have hin0 : ∀ w ∈ u_ws RX0 TX0 9, w ∈ wsX0_doubters := by decide +kernel
  have k_0 := hts (.fieldLink RX0 30 "DoubtCourt$Court" "courtiers" "I") (by decide +kernel)
  have hl : lv_has ls 4 [(0, .ref h0), (1, .int x1)] := hl
  have L4 : ∀ (n : Nat) {x1 : Int32} {x2 : Int32} {x3 : Int32} {H : Heap} {locs : List Loc} {ls : Array Slot}, wX0_doubters_L4 x1 be nc Q n x2 x3 → va_P D vwCl [(h0, .inr (0, [.ref a_kd, .ref a_hd, .ref a_pl, .ref a_st, .ref a_ho, .ref a_be, .int nc, .int nn, .int dy])), (a_kd, .inl (cI, 7, .inl kd)), (a_hd, .inl (cI, 7, .inl hd)), (a_pl, .inl (cI, 7, .inl pl)), (a_st, .inl (cI, 7, .inl st)), (a_ho, .inl (cI, 6, .inl ho)), (a_be, .inl (cI, 42, .inl be))] H → va_D A [(h0, .inr (0, [.ref a_kd, .ref a_hd, .ref a_pl, .ref a_st, .ref a_ho, .ref a_be, .int nc, .int nn, .int dy])), (a_kd, .inl (cI, 7, .inl kd)), (a_hd, .inl (cI, 7, .inl hd)), (a_pl, .inl (cI, 7, .inl pl)), (a_st, .inl (cI, 7, .inl st)), (a_ho, .inl (cI, 6, .inl ho)), (a_be, .inl (cI, 42, .inl be))] → va_S A s.heap H locs → lv_has ls 4 [(0, .ref h0), (1, .int x1), (2, .int x2), (3, .int x3)] → W p l e rmX0_doubters s m args below meth c H locs 0 0 Z (F0 m 4 ls []) := by
    intro n
    induction n with
    | zero =>
      intro x1 x2 x3 H locs ls h hP hD hS hl
      exact (show False from h).elim
    | succ n ih =>
      intro x1 x2 x3 H locs ls h hP hD hS hl
      refine lv_iload_n hx hb dX0_doubters_4 rfl (lv_at hl 3 rfl) ?_
      refine lv_aload_n hx hb dX0_doubters_5 rfl (lv_at hl 0 rfl) ?_
      refine va_get (D := D) (ci := 0) (v := .int nc) (C := RX0) (T := TX0) (N := 9) hx hb hts hin0 hown hK.1 hP 0 rfl rfl 6 (by decide) (k_0) (fun _ h9 => h9) rfl dX0_doubters_6 ?_
      refine lv_icmp_ge (tgt := 34) hx hb dX0_doubters_9 (by decide) (fun c_5 => ?_) (fun c_5 => ?_)
      · have h := h.1 c_5
        refine lv_iload_n hx hb dX0_doubters_34 rfl (lv_at hl 2 rfl) ?_
        exact hret x2 () _ _ _ ls h hP hD hS dX0_doubters_35
      · have h := h.2 c_5
        refine lv_aload_n hx hb dX0_doubters_12 rfl (lv_at hl 0 rfl) ?_
        refine lv_iload_n hx hb dX0_doubters_13 rfl (lv_at hl 3 rfl) ?_
        refine lv_iload_n hx hb dX0_doubters_14 rfl (lv_at hl 1 rfl) ?_
        refine k0V_i (As := [.int x3, .int x1]) (n := 2) ⟨hx, hb, hml, hown, hts⟩ hK hP hD hS hA (c_X0_believes l D cI cC cQ h0 a_kd a_hd a_pl a_st a_ho a_be kd hd pl st ho be nc nn dy x3 x1 _ h) gX0_doubters_X0_believes rfl rfl ⟨rfl, rfl⟩ yoX0_believes ⟨Nat.le_of_ble_eq_true rfl, Nat.le_of_ble_eq_true rfl⟩ (q0 := 0) (ci := 0) rfl rfl rfl rfl hl.1 rfl (Nat.le_of_ble_eq_true rfl) dX0_doubters_15 ⟨Nat.zero_le _, Nat.zero_le _⟩ (fun r_6 u H locs h hP hD hS => ?_)
        refine lv_iconst (v := 4) hx hb dX0_doubters_18 (by decide) ?_
        refine lv_icmp_gt (tgt := 28) hx hb dX0_doubters_19 (by decide) (fun c_7 => ?_) (fun c_7 => ?_)
        · have h := h.1 c_7
          refine lv_iinc (v := (x3 + (1 : Int32))) (lv' := [(3, .int (x3 + (1 : Int32))), (0, .ref h0), (1, .int x1), (2, .int x2)]) hx hb dX0_doubters_28 hl (k := 3) rfl rfl (by decide) rfl (fun ls hl => ?_)
          refine lv_goto (tgt := 4) hx hb dX0_doubters_31 (by decide) ?_
          exact ih h hP hD hS (lv_sub hl [1, 2, 3, 0] rfl)
        · have h := h.2 c_7
          refine lv_iload_n hx hb dX0_doubters_22 rfl (lv_at hl 2 rfl) ?_
          refine lv_iconst (v := 1) hx hb dX0_doubters_23 (by decide) ?_
          refine lv_iload_n hx hb dX0_doubters_24 rfl (lv_at hl 3 rfl) ?_
          refine lv_ishl hx hb dX0_doubters_25 ?_
          refine lv_ior hx hb dX0_doubters_26 ?_
          refine lv_topi (fun v_8 ev_8 => ?_)
          have h := h v_8 ev_8
          refine lv_istore_n (lv' := [(2, .int v_8), (0, .ref h0), (1, .int x1), (3, .int x3)]) hx hb dX0_doubters_27 rfl hl (by decide) rfl (fun ls hl => ?_)
          refine lv_iinc (v := (x3 + (1 : Int32))) (lv' := [(3, .int (x3 + (1 : Int32))), (2, .int v_8), (0, .ref h0), (1, .int x1)]) hx hb dX0_doubters_28 hl (k := 3) rfl rfl (by decide) rfl (fun ls hl => ?_)
          refine lv_goto (tgt := 4) hx hb dX0_doubters_31 (by decide) ?_
          exact ih h hP hD hS (lv_sub hl [2, 3, 1, 0] rfl)
  refine lv_iconst (v := 0) hx hb dX0_doubters_0 (by decide) ?_
  refine lv_istore_n (lv' := [(2, .int (0 : Int32)), (0, .ref h0), (1, .int x1)]) hx hb dX0_doubters_1 rfl hl (by decide) rfl (fun ls hl => ?_)
  refine lv_iconst (v := 0) hx hb dX0_doubters_2 (by decide) ?_
  refine lv_istore_n (lv' := [(3, .int (0 : Int32)), (2, .int (0 : Int32)), (0, .ref h0), (1, .int x1)]) hx hb dX0_doubters_3 rfl hl (by decide) rfl (fun ls hl => ?_)
  obtain ⟨n_9, h⟩ := h
  exact L4 n_9 h hP hD hS (lv_sub hl [2, 3, 1, 0] rfl)

/-! DoubtCourt$Court.newsDoubted -/
abbrev rmX0_newsDoubted : Room := { frames := 2, cells := 0, slots := 0, locals := 43 }
theorem yoX0_newsDoubted : yX0_newsDoubted.cls ≠ "java/lang/invoke/MethodHandle" ∧ yX0_newsDoubted.cls ≠ "java/lang/invoke/VarHandle" ∧ (parseMethodDescriptor yX0_newsDoubted.desc).map (fun d => d.parameters.length) = some 1 := by decide +kernel
set_option maxHeartbeats 4000000 in
set_option maxRecDepth 100000 in
theorem c_X0_newsDoubted (l : Launch) (D : va_G) (cI cC cQ : ClassId) (h0 : Nat) (a_kd : Nat) (a_hd : Nat) (a_pl : Nat) (a_st : Nat) (a_ho : Nat) (a_be : Nat) (kd : Nat → Int32) (hd : Nat → Int32) (pl : Nat → Int32) (st : Nat → Int32) (ho : Nat → Int32) (be : Nat → Int32) (nc : Int32) (nn : Int32) (dy : Int32) (x1 : Int32) (Q : Int32 → Prop) (h : wX0_newsDoubted x1 be nn Q) : Ci (S := Unit) l D cI cC cQ yX0_newsDoubted wsX0_newsDoubted rmX0_newsDoubted [.ref h0, .int x1] [(h0, .inr (0, [.ref a_kd, .ref a_hd, .ref a_pl, .ref a_st, .ref a_ho, .ref a_be, .int nc, .int nn, .int dy])), (a_kd, .inl (cI, 7, .inl kd)), (a_hd, .inl (cI, 7, .inl hd)), (a_pl, .inl (cI, 7, .inl pl)), (a_st, .inl (cI, 7, .inl st)), (a_ho, .inl (cI, 6, .inl ho)), (a_be, .inl (cI, 42, .inl be))] (fun _ => [(h0, .inr (0, [.ref a_kd, .ref a_hd, .ref a_pl, .ref a_st, .ref a_ho, .ref a_be, .int nc, .int nn, .int dy])), (a_kd, .inl (cI, 7, .inl kd)), (a_hd, .inl (cI, 7, .inl hd)), (a_pl, .inl (cI, 7, .inl pl)), (a_st, .inl (cI, 7, .inl st)), (a_ho, .inl (cI, 6, .inl ho)), (a_be, .inl (cI, 42, .inl be))]) (fun r _ => Q r) := by
  refine Ci_mk (cc := cX0_newsDoubted) (maxL := 4) (by decide) rfl (Nat.le_of_ble_eq_true rfl) ?_
  intro p e s m args below meth c A Z ls hx hb hml hown hts hK hA hP hD hret hl
  have hS : va_S A s.heap s.heap [] := va_S.rf
  have hin0 : ∀ w ∈ u_ws RX0 TX0 9, w ∈ wsX0_newsDoubted := by decide +kernel
  have k_0 := hts (.fieldLink RX0 34 "DoubtCourt$Court" "newsTold" "I") (by decide +kernel)
  have hl : lv_has ls 4 [(0, .ref h0), (1, .int x1)] := hl
  have L4 : ∀ (n : Nat) {x1 : Int32} {x2 : Int32} {x3 : Int32} {H : Heap} {locs : List Loc} {ls : Array Slot}, wX0_newsDoubted_L4 x1 be nn Q n x2 x3 → va_P D vwCl [(h0, .inr (0, [.ref a_kd, .ref a_hd, .ref a_pl, .ref a_st, .ref a_ho, .ref a_be, .int nc, .int nn, .int dy])), (a_kd, .inl (cI, 7, .inl kd)), (a_hd, .inl (cI, 7, .inl hd)), (a_pl, .inl (cI, 7, .inl pl)), (a_st, .inl (cI, 7, .inl st)), (a_ho, .inl (cI, 6, .inl ho)), (a_be, .inl (cI, 42, .inl be))] H → va_D A [(h0, .inr (0, [.ref a_kd, .ref a_hd, .ref a_pl, .ref a_st, .ref a_ho, .ref a_be, .int nc, .int nn, .int dy])), (a_kd, .inl (cI, 7, .inl kd)), (a_hd, .inl (cI, 7, .inl hd)), (a_pl, .inl (cI, 7, .inl pl)), (a_st, .inl (cI, 7, .inl st)), (a_ho, .inl (cI, 6, .inl ho)), (a_be, .inl (cI, 42, .inl be))] → va_S A s.heap H locs → lv_has ls 4 [(0, .ref h0), (1, .int x1), (2, .int x2), (3, .int x3)] → W p l e rmX0_newsDoubted s m args below meth c H locs 0 0 Z (F0 m 4 ls []) := by
    intro n
    induction n with
    | zero =>
      intro x1 x2 x3 H locs ls h hP hD hS hl
      exact (show False from h).elim
    | succ n ih =>
      intro x1 x2 x3 H locs ls h hP hD hS hl
      refine lv_iload_n hx hb dX0_newsDoubted_4 rfl (lv_at hl 3 rfl) ?_
      refine lv_aload_n hx hb dX0_newsDoubted_5 rfl (lv_at hl 0 rfl) ?_
      refine va_get (D := D) (ci := 0) (v := .int nn) (C := RX0) (T := TX0) (N := 9) hx hb hts hin0 hown hK.1 hP 0 rfl rfl 7 (by decide) (k_0) (fun _ h9 => h9) rfl dX0_newsDoubted_6 ?_
      refine lv_icmp_ge (tgt := 34) hx hb dX0_newsDoubted_9 (by decide) (fun c_5 => ?_) (fun c_5 => ?_)
      · have h := h.1 c_5
        refine lv_iload_n hx hb dX0_newsDoubted_34 rfl (lv_at hl 2 rfl) ?_
        exact hret x2 () _ _ _ ls h hP hD hS dX0_newsDoubted_35
      · have h := h.2 c_5
        refine lv_aload_n hx hb dX0_newsDoubted_12 rfl (lv_at hl 0 rfl) ?_
        refine lv_iload_n hx hb dX0_newsDoubted_13 rfl (lv_at hl 1 rfl) ?_
        refine lv_iload_n hx hb dX0_newsDoubted_14 rfl (lv_at hl 3 rfl) ?_
        refine k0V_i (As := [.int x1, .int x3]) (n := 2) ⟨hx, hb, hml, hown, hts⟩ hK hP hD hS hA (c_X0_believes l D cI cC cQ h0 a_kd a_hd a_pl a_st a_ho a_be kd hd pl st ho be nc nn dy x1 x3 _ h) gX0_newsDoubted_X0_believes rfl rfl ⟨rfl, rfl⟩ yoX0_believes ⟨Nat.le_of_ble_eq_true rfl, Nat.le_of_ble_eq_true rfl⟩ (q0 := 0) (ci := 0) rfl rfl rfl rfl hl.1 rfl (Nat.le_of_ble_eq_true rfl) dX0_newsDoubted_15 ⟨Nat.zero_le _, Nat.zero_le _⟩ (fun r_6 u H locs h hP hD hS => ?_)
        refine lv_iconst (v := 4) hx hb dX0_newsDoubted_18 (by decide) ?_
        refine lv_icmp_gt (tgt := 28) hx hb dX0_newsDoubted_19 (by decide) (fun c_7 => ?_) (fun c_7 => ?_)
        · have h := h.1 c_7
          refine lv_iinc (v := (x3 + (1 : Int32))) (lv' := [(3, .int (x3 + (1 : Int32))), (0, .ref h0), (1, .int x1), (2, .int x2)]) hx hb dX0_newsDoubted_28 hl (k := 3) rfl rfl (by decide) rfl (fun ls hl => ?_)
          refine lv_goto (tgt := 4) hx hb dX0_newsDoubted_31 (by decide) ?_
          exact ih h hP hD hS (lv_sub hl [1, 2, 3, 0] rfl)
        · have h := h.2 c_7
          refine lv_iload_n hx hb dX0_newsDoubted_22 rfl (lv_at hl 2 rfl) ?_
          refine lv_iconst (v := 1) hx hb dX0_newsDoubted_23 (by decide) ?_
          refine lv_iload_n hx hb dX0_newsDoubted_24 rfl (lv_at hl 3 rfl) ?_
          refine lv_ishl hx hb dX0_newsDoubted_25 ?_
          refine lv_ior hx hb dX0_newsDoubted_26 ?_
          refine lv_topi (fun v_8 ev_8 => ?_)
          have h := h v_8 ev_8
          refine lv_istore_n (lv' := [(2, .int v_8), (0, .ref h0), (1, .int x1), (3, .int x3)]) hx hb dX0_newsDoubted_27 rfl hl (by decide) rfl (fun ls hl => ?_)
          refine lv_iinc (v := (x3 + (1 : Int32))) (lv' := [(3, .int (x3 + (1 : Int32))), (2, .int v_8), (0, .ref h0), (1, .int x1)]) hx hb dX0_newsDoubted_28 hl (k := 3) rfl rfl (by decide) rfl (fun ls hl => ?_)
          refine lv_goto (tgt := 4) hx hb dX0_newsDoubted_31 (by decide) ?_
          exact ih h hP hD hS (lv_sub hl [2, 3, 1, 0] rfl)
  refine lv_iconst (v := 0) hx hb dX0_newsDoubted_0 (by decide) ?_
  refine lv_istore_n (lv' := [(2, .int (0 : Int32)), (0, .ref h0), (1, .int x1)]) hx hb dX0_newsDoubted_1 rfl hl (by decide) rfl (fun ls hl => ?_)
  refine lv_iconst (v := 0) hx hb dX0_newsDoubted_2 (by decide) ?_
  refine lv_istore_n (lv' := [(3, .int (0 : Int32)), (2, .int (0 : Int32)), (0, .ref h0), (1, .int x1)]) hx hb dX0_newsDoubted_3 rfl hl (by decide) rfl (fun ls hl => ?_)
  obtain ⟨n_9, h⟩ := h
  exact L4 n_9 h hP hD hS (lv_sub hl [2, 3, 1, 0] rfl)

/-! DoubtCourt$Court.newsHeld -/
abbrev rmX0_newsHeld : Room := { frames := 1, cells := 0, slots := 0, locals := 21 }
theorem yoX0_newsHeld : yX0_newsHeld.cls ≠ "java/lang/invoke/MethodHandle" ∧ yX0_newsHeld.cls ≠ "java/lang/invoke/VarHandle" ∧ (parseMethodDescriptor yX0_newsHeld.desc).map (fun d => d.parameters.length) = some 1 := by decide +kernel
set_option maxHeartbeats 4000000 in
set_option maxRecDepth 100000 in
theorem c_X0_newsHeld (l : Launch) (D : va_G) (cI cC cQ : ClassId) (h0 : Nat) (a_kd : Nat) (a_hd : Nat) (a_pl : Nat) (a_st : Nat) (a_ho : Nat) (a_be : Nat) (kd : Nat → Int32) (hd : Nat → Int32) (pl : Nat → Int32) (st : Nat → Int32) (ho : Nat → Int32) (be : Nat → Int32) (nc : Int32) (nn : Int32) (dy : Int32) (x1 : Int32) (Q : Int32 → Prop) (h : wX0_newsHeld x1 ho nn Q) : Ci (S := Unit) l D cI cC cQ yX0_newsHeld wsX0_newsHeld rmX0_newsHeld [.ref h0, .int x1] [(h0, .inr (0, [.ref a_kd, .ref a_hd, .ref a_pl, .ref a_st, .ref a_ho, .ref a_be, .int nc, .int nn, .int dy])), (a_kd, .inl (cI, 7, .inl kd)), (a_hd, .inl (cI, 7, .inl hd)), (a_pl, .inl (cI, 7, .inl pl)), (a_st, .inl (cI, 7, .inl st)), (a_ho, .inl (cI, 6, .inl ho)), (a_be, .inl (cI, 42, .inl be))] (fun _ => [(h0, .inr (0, [.ref a_kd, .ref a_hd, .ref a_pl, .ref a_st, .ref a_ho, .ref a_be, .int nc, .int nn, .int dy])), (a_kd, .inl (cI, 7, .inl kd)), (a_hd, .inl (cI, 7, .inl hd)), (a_pl, .inl (cI, 7, .inl pl)), (a_st, .inl (cI, 7, .inl st)), (a_ho, .inl (cI, 6, .inl ho)), (a_be, .inl (cI, 42, .inl be))]) (fun r _ => Q r) := by
  refine Ci_mk (cc := cX0_newsHeld) (maxL := 4) (by decide) rfl (Nat.le_of_ble_eq_true rfl) ?_
  intro p e s m args below meth c A Z ls hx hb hml hown hts hK hA hP hD hret hl
  have hS : va_S A s.heap s.heap [] := va_S.rf
  have hin0 : ∀ w ∈ u_ws RX0 TX0 9, w ∈ wsX0_newsHeld := by decide +kernel
  have k_0 := hts (.fieldLink RX0 34 "DoubtCourt$Court" "newsTold" "I") (by decide +kernel)
  have k_1 := hts (.fieldLink RX0 24 "DoubtCourt$Court" "holder" "[I") (by decide +kernel)
  have k_2 := hts (.initialized RX5) (by decide +kernel)
  have k_3 := hts (.static yX5_of) (by decide +kernel)
  have hl : lv_has ls 4 [(0, .ref h0), (1, .int x1)] := hl
  have L4 : ∀ (n : Nat) {x1 : Int32} {x2 : Int32} {x3 : Int32} {H : Heap} {locs : List Loc} {ls : Array Slot}, wX0_newsHeld_L4 x1 ho nn Q n x2 x3 → va_P D vwCl [(h0, .inr (0, [.ref a_kd, .ref a_hd, .ref a_pl, .ref a_st, .ref a_ho, .ref a_be, .int nc, .int nn, .int dy])), (a_kd, .inl (cI, 7, .inl kd)), (a_hd, .inl (cI, 7, .inl hd)), (a_pl, .inl (cI, 7, .inl pl)), (a_st, .inl (cI, 7, .inl st)), (a_ho, .inl (cI, 6, .inl ho)), (a_be, .inl (cI, 42, .inl be))] H → va_D A [(h0, .inr (0, [.ref a_kd, .ref a_hd, .ref a_pl, .ref a_st, .ref a_ho, .ref a_be, .int nc, .int nn, .int dy])), (a_kd, .inl (cI, 7, .inl kd)), (a_hd, .inl (cI, 7, .inl hd)), (a_pl, .inl (cI, 7, .inl pl)), (a_st, .inl (cI, 7, .inl st)), (a_ho, .inl (cI, 6, .inl ho)), (a_be, .inl (cI, 42, .inl be))] → va_S A s.heap H locs → lv_has ls 4 [(0, .ref h0), (1, .int x1), (2, .int x2), (3, .int x3)] → W p l e rmX0_newsHeld s m args below meth c H locs 0 0 Z (F0 m 4 ls []) := by
    intro n
    induction n with
    | zero =>
      intro x1 x2 x3 H locs ls h hP hD hS hl
      exact (show False from h).elim
    | succ n ih =>
      intro x1 x2 x3 H locs ls h hP hD hS hl
      refine lv_iload_n hx hb dX0_newsHeld_4 rfl (lv_at hl 3 rfl) ?_
      refine lv_aload_n hx hb dX0_newsHeld_5 rfl (lv_at hl 0 rfl) ?_
      refine va_get (D := D) (ci := 0) (v := .int nn) (C := RX0) (T := TX0) (N := 9) hx hb hts hin0 hown hK.1 hP 0 rfl rfl 7 (by decide) (k_0) (fun _ h9 => h9) rfl dX0_newsHeld_6 ?_
      refine lv_icmp_ge (tgt := 36) hx hb dX0_newsHeld_9 (by decide) (fun c_5 => ?_) (fun c_5 => ?_)
      · have h := h.1 c_5
        refine lv_iload_n hx hb dX0_newsHeld_36 rfl (lv_at hl 2 rfl) ?_
        exact hret x2 () _ _ _ ls h hP hD hS dX0_newsHeld_37
      · have h := h.2 c_5
        refine lv_aload_n hx hb dX0_newsHeld_12 rfl (lv_at hl 0 rfl) ?_
        refine va_get (D := D) (ci := 0) (v := .ref a_ho) (C := RX0) (T := TX0) (N := 9) hx hb hts hin0 hown hK.1 hP 0 rfl rfl 4 (by decide) (k_1) (fun _ h9 => h9) rfl dX0_newsHeld_13 ?_
        refine lv_iload_n hx hb dX0_newsHeld_16 rfl (lv_at hl 3 rfl) ?_
        refine kSN_i (wr := [(h0, .inr (0, [.ref a_kd, .ref a_hd, .ref a_pl, .ref a_st, .ref a_ho, .ref a_be, .int nc, .int nn, .int dy])), (a_kd, .inl (cI, 7, .inl kd)), (a_hd, .inl (cI, 7, .inl hd)), (a_pl, .inl (cI, 7, .inl pl)), (a_st, .inl (cI, 7, .inl st)), (a_be, .inl (cI, 42, .inl be))]) (As := [.ref a_ho, .int x3]) (n := 2) ⟨hx, hb, hml, hown, hts⟩ hK hP hD hS hA (c_X5_of l D cI cC cQ a_ho ho 6 x3 _ h) gX0_newsHeld_X5_of_n54 (hK.2 _ (List.mem_of_getElem? (i := 5) rfl)) (k_2) (k_3) rfl ⟨rfl, rfl⟩ yoX5_of ⟨Nat.le_of_ble_eq_true rfl, Nat.le_of_ble_eq_true rfl⟩ rfl hl.1 rfl (Nat.le_of_ble_eq_true rfl) dX0_newsHeld_17 ⟨Nat.zero_le _, Nat.zero_le _⟩ [5] [0, 1, 2, 3, 4, 6] rfl (by decide) rfl (by decide) (by decide) (fun r_6 u H locs h hP hD hS => ?_)
        have hP : va_P D vwCl [(h0, .inr (0, [.ref a_kd, .ref a_hd, .ref a_pl, .ref a_st, .ref a_ho, .ref a_be, .int nc, .int nn, .int dy])), (a_kd, .inl (cI, 7, .inl kd)), (a_hd, .inl (cI, 7, .inl hd)), (a_pl, .inl (cI, 7, .inl pl)), (a_st, .inl (cI, 7, .inl st)), (a_be, .inl (cI, 42, .inl be)), (a_ho, .inl (cI, 6, .inl ho))] H := hP
        have hD : va_D A [(h0, .inr (0, [.ref a_kd, .ref a_hd, .ref a_pl, .ref a_st, .ref a_ho, .ref a_be, .int nc, .int nn, .int dy])), (a_kd, .inl (cI, 7, .inl kd)), (a_hd, .inl (cI, 7, .inl hd)), (a_pl, .inl (cI, 7, .inl pl)), (a_st, .inl (cI, 7, .inl st)), (a_be, .inl (cI, 42, .inl be)), (a_ho, .inl (cI, 6, .inl ho))] := hD
        refine lv_iload_n hx hb dX0_newsHeld_20 rfl (lv_at hl 1 rfl) ?_
        refine lv_icmp_ne (tgt := 30) hx hb dX0_newsHeld_21 (by decide) (fun c_7 => ?_) (fun c_7 => ?_)
        · have h := h.2 c_7
          refine lv_iinc (v := (x3 + (1 : Int32))) (lv' := [(3, .int (x3 + (1 : Int32))), (0, .ref h0), (1, .int x1), (2, .int x2)]) hx hb dX0_newsHeld_30 hl (k := 3) rfl rfl (by decide) rfl (fun ls hl => ?_)
          refine lv_goto (tgt := 4) hx hb dX0_newsHeld_33 (by decide) ?_
          have hP := hP.sub (ws' := [(h0, .inr (0, [.ref a_kd, .ref a_hd, .ref a_pl, .ref a_st, .ref a_ho, .ref a_be, .int nc, .int nn, .int dy])), (a_kd, .inl (cI, 7, .inl kd)), (a_hd, .inl (cI, 7, .inl hd)), (a_pl, .inl (cI, 7, .inl pl)), (a_st, .inl (cI, 7, .inl st)), (a_ho, .inl (cI, 6, .inl ho)), (a_be, .inl (cI, 42, .inl be))]) [0, 1, 2, 3, 4, 6, 5] rfl
          have hD := hD.sub (ws' := [(h0, .inr (0, [.ref a_kd, .ref a_hd, .ref a_pl, .ref a_st, .ref a_ho, .ref a_be, .int nc, .int nn, .int dy])), (a_kd, .inl (cI, 7, .inl kd)), (a_hd, .inl (cI, 7, .inl hd)), (a_pl, .inl (cI, 7, .inl pl)), (a_st, .inl (cI, 7, .inl st)), (a_ho, .inl (cI, 6, .inl ho)), (a_be, .inl (cI, 42, .inl be))]) [0, 1, 2, 3, 4, 6, 5] (by decide) rfl
          exact ih h hP hD hS (lv_sub hl [1, 2, 3, 0] rfl)
        · have h := h.1 c_7
          refine lv_iload_n hx hb dX0_newsHeld_24 rfl (lv_at hl 2 rfl) ?_
          refine lv_iconst (v := 1) hx hb dX0_newsHeld_25 (by decide) ?_
          refine lv_iload_n hx hb dX0_newsHeld_26 rfl (lv_at hl 3 rfl) ?_
          refine lv_ishl hx hb dX0_newsHeld_27 ?_
          refine lv_ior hx hb dX0_newsHeld_28 ?_
          refine lv_topi (fun v_8 ev_8 => ?_)
          have h := h v_8 ev_8
          refine lv_istore_n (lv' := [(2, .int v_8), (0, .ref h0), (1, .int x1), (3, .int x3)]) hx hb dX0_newsHeld_29 rfl hl (by decide) rfl (fun ls hl => ?_)
          refine lv_iinc (v := (x3 + (1 : Int32))) (lv' := [(3, .int (x3 + (1 : Int32))), (2, .int v_8), (0, .ref h0), (1, .int x1)]) hx hb dX0_newsHeld_30 hl (k := 3) rfl rfl (by decide) rfl (fun ls hl => ?_)
          refine lv_goto (tgt := 4) hx hb dX0_newsHeld_33 (by decide) ?_
          have hP := hP.sub (ws' := [(h0, .inr (0, [.ref a_kd, .ref a_hd, .ref a_pl, .ref a_st, .ref a_ho, .ref a_be, .int nc, .int nn, .int dy])), (a_kd, .inl (cI, 7, .inl kd)), (a_hd, .inl (cI, 7, .inl hd)), (a_pl, .inl (cI, 7, .inl pl)), (a_st, .inl (cI, 7, .inl st)), (a_ho, .inl (cI, 6, .inl ho)), (a_be, .inl (cI, 42, .inl be))]) [0, 1, 2, 3, 4, 6, 5] rfl
          have hD := hD.sub (ws' := [(h0, .inr (0, [.ref a_kd, .ref a_hd, .ref a_pl, .ref a_st, .ref a_ho, .ref a_be, .int nc, .int nn, .int dy])), (a_kd, .inl (cI, 7, .inl kd)), (a_hd, .inl (cI, 7, .inl hd)), (a_pl, .inl (cI, 7, .inl pl)), (a_st, .inl (cI, 7, .inl st)), (a_ho, .inl (cI, 6, .inl ho)), (a_be, .inl (cI, 42, .inl be))]) [0, 1, 2, 3, 4, 6, 5] (by decide) rfl
          exact ih h hP hD hS (lv_sub hl [2, 3, 1, 0] rfl)
  refine lv_iconst (v := 0) hx hb dX0_newsHeld_0 (by decide) ?_
  refine lv_istore_n (lv' := [(2, .int (0 : Int32)), (0, .ref h0), (1, .int x1)]) hx hb dX0_newsHeld_1 rfl hl (by decide) rfl (fun ls hl => ?_)
  refine lv_iconst (v := 0) hx hb dX0_newsHeld_2 (by decide) ?_
  refine lv_istore_n (lv' := [(3, .int (0 : Int32)), (2, .int (0 : Int32)), (0, .ref h0), (1, .int x1)]) hx hb dX0_newsHeld_3 rfl hl (by decide) rfl (fun ls hl => ?_)
  obtain ⟨n_9, h⟩ := h
  exact L4 n_9 h hP hD hS (lv_sub hl [2, 3, 1, 0] rfl)

/-! DoubtCourt$Court.knownInAll -/
abbrev rmX0_knownInAll : Room := { frames := 2, cells := 0, slots := 0, locals := 42 }
theorem yoX0_knownInAll : yX0_knownInAll.cls ≠ "java/lang/invoke/MethodHandle" ∧ yX0_knownInAll.cls ≠ "java/lang/invoke/VarHandle" ∧ (parseMethodDescriptor yX0_knownInAll.desc).map (fun d => d.parameters.length) = some 0 := by decide +kernel
set_option maxHeartbeats 4000000 in
set_option maxRecDepth 100000 in
theorem c_X0_knownInAll (l : Launch) (D : va_G) (cI cC cQ : ClassId) (h0 : Nat) (a_kd : Nat) (a_hd : Nat) (a_pl : Nat) (a_st : Nat) (a_ho : Nat) (a_be : Nat) (kd : Nat → Int32) (hd : Nat → Int32) (pl : Nat → Int32) (st : Nat → Int32) (ho : Nat → Int32) (be : Nat → Int32) (nc : Int32) (nn : Int32) (dy : Int32) (Q : Int32 → Prop) (h : wX0_knownInAll ho nn Q) : Ci (S := Unit) l D cI cC cQ yX0_knownInAll wsX0_knownInAll rmX0_knownInAll [.ref h0] [(h0, .inr (0, [.ref a_kd, .ref a_hd, .ref a_pl, .ref a_st, .ref a_ho, .ref a_be, .int nc, .int nn, .int dy])), (a_kd, .inl (cI, 7, .inl kd)), (a_hd, .inl (cI, 7, .inl hd)), (a_pl, .inl (cI, 7, .inl pl)), (a_st, .inl (cI, 7, .inl st)), (a_ho, .inl (cI, 6, .inl ho)), (a_be, .inl (cI, 42, .inl be))] (fun _ => [(h0, .inr (0, [.ref a_kd, .ref a_hd, .ref a_pl, .ref a_st, .ref a_ho, .ref a_be, .int nc, .int nn, .int dy])), (a_kd, .inl (cI, 7, .inl kd)), (a_hd, .inl (cI, 7, .inl hd)), (a_pl, .inl (cI, 7, .inl pl)), (a_st, .inl (cI, 7, .inl st)), (a_ho, .inl (cI, 6, .inl ho)), (a_be, .inl (cI, 42, .inl be))]) (fun r _ => Q r) := by
  refine Ci_mk (cc := cX0_knownInAll) (maxL := 3) (by decide) rfl (Nat.le_of_ble_eq_true rfl) ?_
  intro p e s m args below meth c A Z ls hx hb hml hown hts hK hA hP hD hret hl
  have hS : va_S A s.heap s.heap [] := va_S.rf
  have hin0 : ∀ w ∈ u_ws RX0 TX0 9, w ∈ wsX0_knownInAll := by decide +kernel
  have k_0 := hts (.fieldLink RX0 34 "DoubtCourt$Court" "newsTold" "I") (by decide +kernel)
  have hl : lv_has ls 3 [(0, .ref h0)] := hl
  have L4 : ∀ (n : Nat) {x1 : Int32} {x2 : Int32} {H : Heap} {locs : List Loc} {ls : Array Slot}, wX0_knownInAll_L4 ho nn Q n x1 x2 → va_P D vwCl [(h0, .inr (0, [.ref a_kd, .ref a_hd, .ref a_pl, .ref a_st, .ref a_ho, .ref a_be, .int nc, .int nn, .int dy])), (a_kd, .inl (cI, 7, .inl kd)), (a_hd, .inl (cI, 7, .inl hd)), (a_pl, .inl (cI, 7, .inl pl)), (a_st, .inl (cI, 7, .inl st)), (a_ho, .inl (cI, 6, .inl ho)), (a_be, .inl (cI, 42, .inl be))] H → va_D A [(h0, .inr (0, [.ref a_kd, .ref a_hd, .ref a_pl, .ref a_st, .ref a_ho, .ref a_be, .int nc, .int nn, .int dy])), (a_kd, .inl (cI, 7, .inl kd)), (a_hd, .inl (cI, 7, .inl hd)), (a_pl, .inl (cI, 7, .inl pl)), (a_st, .inl (cI, 7, .inl st)), (a_ho, .inl (cI, 6, .inl ho)), (a_be, .inl (cI, 42, .inl be))] → va_S A s.heap H locs → lv_has ls 3 [(0, .ref h0), (1, .int x1), (2, .int x2)] → W p l e rmX0_knownInAll s m args below meth c H locs 0 0 Z (F0 m 4 ls []) := by
    intro n
    induction n with
    | zero =>
      intro x1 x2 H locs ls h hP hD hS hl
      exact (show False from h).elim
    | succ n ih =>
      intro x1 x2 H locs ls h hP hD hS hl
      refine lv_iload_n hx hb dX0_knownInAll_4 rfl (lv_at hl 2 rfl) ?_
      refine lv_aload_n hx hb dX0_knownInAll_5 rfl (lv_at hl 0 rfl) ?_
      refine va_get (D := D) (ci := 0) (v := .int nn) (C := RX0) (T := TX0) (N := 9) hx hb hts hin0 hown hK.1 hP 0 rfl rfl 7 (by decide) (k_0) (fun _ h9 => h9) rfl dX0_knownInAll_6 ?_
      refine lv_icmp_ge (tgt := 34) hx hb dX0_knownInAll_9 (by decide) (fun c_7 => ?_) (fun c_7 => ?_)
      · have h := h.1 c_7
        refine lv_iload_n hx hb dX0_knownInAll_34 rfl (lv_at hl 1 rfl) ?_
        exact hret x1 () _ _ _ ls h hP hD hS dX0_knownInAll_35
      · have h := h.2 c_7
        refine lv_iload_n hx hb dX0_knownInAll_12 rfl (lv_at hl 1 rfl) ?_
        refine lv_aload_n hx hb dX0_knownInAll_13 rfl (lv_at hl 0 rfl) ?_
        refine lv_iload_n hx hb dX0_knownInAll_14 rfl (lv_at hl 2 rfl) ?_
        refine k0V_i (As := [.int x2]) (n := 1) ⟨hx, hb, hml, hown, hts⟩ hK hP hD hS hA (c_X0_isKnown l D cI cC cQ h0 a_kd a_hd a_pl a_st a_ho a_be kd hd pl st ho be nc nn dy x2 _ h) gX0_knownInAll_X0_isKnown rfl rfl ⟨rfl, rfl⟩ yoX0_isKnown ⟨Nat.le_of_ble_eq_true rfl, Nat.le_of_ble_eq_true rfl⟩ (q0 := 0) (ci := 0) rfl rfl rfl rfl hl.1 rfl (Nat.le_of_ble_eq_true rfl) dX0_knownInAll_15 ⟨Nat.zero_le _, Nat.zero_le _⟩ (fun r_8 u H locs h hP hD hS => ?_)
        obtain ⟨b_9, h⟩ := h
        refine lv_if_eq (tgt := 25) hx hb dX0_knownInAll_18 (by decide) (fun c_10 => ?_) (fun c_10 => ?_)
        · have h := h.1 c_10
          refine lv_iconst (v := 0) hx hb dX0_knownInAll_25 (by decide) ?_
          refine lv_iadd hx hb dX0_knownInAll_26 ?_
          refine lv_topi (fun v_11 ev_11 => ?_)
          have h := h v_11 ev_11
          refine lv_istore_n (lv' := [(1, .int v_11), (0, .ref h0), (2, .int x2)]) hx hb dX0_knownInAll_27 rfl hl (by decide) rfl (fun ls hl => ?_)
          refine lv_iinc (v := (x2 + (1 : Int32))) (lv' := [(2, .int (x2 + (1 : Int32))), (1, .int v_11), (0, .ref h0)]) hx hb dX0_knownInAll_28 hl (k := 2) rfl rfl (by decide) rfl (fun ls hl => ?_)
          refine lv_goto (tgt := 4) hx hb dX0_knownInAll_31 (by decide) ?_
          exact ih h hP hD hS (lv_sub hl [2, 1, 0] rfl)
        · have h := h.2 c_10
          refine lv_iconst (v := 1) hx hb dX0_knownInAll_21 (by decide) ?_
          refine lv_goto (tgt := 26) hx hb dX0_knownInAll_22 (by decide) ?_
          refine lv_iadd hx hb dX0_knownInAll_26 ?_
          refine lv_topi (fun v_12 ev_12 => ?_)
          have h := h v_12 ev_12
          refine lv_istore_n (lv' := [(1, .int v_12), (0, .ref h0), (2, .int x2)]) hx hb dX0_knownInAll_27 rfl hl (by decide) rfl (fun ls hl => ?_)
          refine lv_iinc (v := (x2 + (1 : Int32))) (lv' := [(2, .int (x2 + (1 : Int32))), (1, .int v_12), (0, .ref h0)]) hx hb dX0_knownInAll_28 hl (k := 2) rfl rfl (by decide) rfl (fun ls hl => ?_)
          refine lv_goto (tgt := 4) hx hb dX0_knownInAll_31 (by decide) ?_
          exact ih h hP hD hS (lv_sub hl [2, 1, 0] rfl)
  refine lv_iconst (v := 0) hx hb dX0_knownInAll_0 (by decide) ?_
  refine lv_istore_n (lv' := [(1, .int (0 : Int32)), (0, .ref h0)]) hx hb dX0_knownInAll_1 rfl hl (by decide) rfl (fun ls hl => ?_)
  refine lv_iconst (v := 0) hx hb dX0_knownInAll_2 (by decide) ?_
  refine lv_istore_n (lv' := [(2, .int (0 : Int32)), (1, .int (0 : Int32)), (0, .ref h0)]) hx hb dX0_knownInAll_3 rfl hl (by decide) rfl (fun ls hl => ?_)
  obtain ⟨n_13, h⟩ := h
  exact L4 n_13 h hP hD hS (lv_sub hl [2, 1, 0] rfl)

/-! DoubtCourt$Court.beliefsInAll -/
abbrev rmX0_beliefsInAll : Room := { frames := 2, cells := 0, slots := 0, locals := 43 }
theorem yoX0_beliefsInAll : yX0_beliefsInAll.cls ≠ "java/lang/invoke/MethodHandle" ∧ yX0_beliefsInAll.cls ≠ "java/lang/invoke/VarHandle" ∧ (parseMethodDescriptor yX0_beliefsInAll.desc).map (fun d => d.parameters.length) = some 0 := by decide +kernel
set_option maxHeartbeats 4000000 in
set_option maxRecDepth 100000 in
theorem c_X0_beliefsInAll (l : Launch) (D : va_G) (cI cC cQ : ClassId) (h0 : Nat) (a_kd : Nat) (a_hd : Nat) (a_pl : Nat) (a_st : Nat) (a_ho : Nat) (a_be : Nat) (kd : Nat → Int32) (hd : Nat → Int32) (pl : Nat → Int32) (st : Nat → Int32) (ho : Nat → Int32) (be : Nat → Int32) (nc : Int32) (nn : Int32) (dy : Int32) (Q : Int32 → Prop) (h : wX0_beliefsInAll be nc nn Q) : Ci (S := Unit) l D cI cC cQ yX0_beliefsInAll wsX0_beliefsInAll rmX0_beliefsInAll [.ref h0] [(h0, .inr (0, [.ref a_kd, .ref a_hd, .ref a_pl, .ref a_st, .ref a_ho, .ref a_be, .int nc, .int nn, .int dy])), (a_kd, .inl (cI, 7, .inl kd)), (a_hd, .inl (cI, 7, .inl hd)), (a_pl, .inl (cI, 7, .inl pl)), (a_st, .inl (cI, 7, .inl st)), (a_ho, .inl (cI, 6, .inl ho)), (a_be, .inl (cI, 42, .inl be))] (fun _ => [(h0, .inr (0, [.ref a_kd, .ref a_hd, .ref a_pl, .ref a_st, .ref a_ho, .ref a_be, .int nc, .int nn, .int dy])), (a_kd, .inl (cI, 7, .inl kd)), (a_hd, .inl (cI, 7, .inl hd)), (a_pl, .inl (cI, 7, .inl pl)), (a_st, .inl (cI, 7, .inl st)), (a_ho, .inl (cI, 6, .inl ho)), (a_be, .inl (cI, 42, .inl be))]) (fun r _ => Q r) := by
  refine Ci_mk (cc := cX0_beliefsInAll) (maxL := 4) (by decide) rfl (Nat.le_of_ble_eq_true rfl) ?_
  intro p e s m args below meth c A Z ls hx hb hml hown hts hK hA hP hD hret hl
  have hS : va_S A s.heap s.heap [] := va_S.rf
  have hin0 : ∀ w ∈ u_ws RX0 TX0 9, w ∈ wsX0_beliefsInAll := by decide +kernel
  have k_0 := hts (.fieldLink RX0 34 "DoubtCourt$Court" "newsTold" "I") (by decide +kernel)
  have k_1 := hts (.fieldLink RX0 30 "DoubtCourt$Court" "courtiers" "I") (by decide +kernel)
  have hl : lv_has ls 4 [(0, .ref h0)] := hl
  have L14 : ∀ {K4 : Int32 → Int32 → Prop} (n : Nat) {x1 : Int32} {x2 : Int32} {x3 : Int32} {H : Heap} {locs : List Loc} {ls : Array Slot}, wX0_beliefsInAll_L14 x2 be nc K4 n x1 x3 → va_P D vwCl [(h0, .inr (0, [.ref a_kd, .ref a_hd, .ref a_pl, .ref a_st, .ref a_ho, .ref a_be, .int nc, .int nn, .int dy])), (a_kd, .inl (cI, 7, .inl kd)), (a_hd, .inl (cI, 7, .inl hd)), (a_pl, .inl (cI, 7, .inl pl)), (a_st, .inl (cI, 7, .inl st)), (a_ho, .inl (cI, 6, .inl ho)), (a_be, .inl (cI, 42, .inl be))] H → va_D A [(h0, .inr (0, [.ref a_kd, .ref a_hd, .ref a_pl, .ref a_st, .ref a_ho, .ref a_be, .int nc, .int nn, .int dy])), (a_kd, .inl (cI, 7, .inl kd)), (a_hd, .inl (cI, 7, .inl hd)), (a_pl, .inl (cI, 7, .inl pl)), (a_st, .inl (cI, 7, .inl st)), (a_ho, .inl (cI, 6, .inl ho)), (a_be, .inl (cI, 42, .inl be))] → va_S A s.heap H locs → lv_has ls 4 [(0, .ref h0), (1, .int x1), (2, .int x2), (3, .int x3)] → (∀ (x1 : Int32) (x2 : Int32) (H : Heap) (locs : List Loc) (ls : Array Slot), K4 x1 x2 → va_P D vwCl [(h0, .inr (0, [.ref a_kd, .ref a_hd, .ref a_pl, .ref a_st, .ref a_ho, .ref a_be, .int nc, .int nn, .int dy])), (a_kd, .inl (cI, 7, .inl kd)), (a_hd, .inl (cI, 7, .inl hd)), (a_pl, .inl (cI, 7, .inl pl)), (a_st, .inl (cI, 7, .inl st)), (a_ho, .inl (cI, 6, .inl ho)), (a_be, .inl (cI, 42, .inl be))] H → va_D A [(h0, .inr (0, [.ref a_kd, .ref a_hd, .ref a_pl, .ref a_st, .ref a_ho, .ref a_be, .int nc, .int nn, .int dy])), (a_kd, .inl (cI, 7, .inl kd)), (a_hd, .inl (cI, 7, .inl hd)), (a_pl, .inl (cI, 7, .inl pl)), (a_st, .inl (cI, 7, .inl st)), (a_ho, .inl (cI, 6, .inl ho)), (a_be, .inl (cI, 42, .inl be))] → va_S A s.heap H locs → lv_has ls 4 [(0, .ref h0), (1, .int x1), (2, .int x2)] → W p l e rmX0_beliefsInAll s m args below meth c H locs 0 0 Z (F0 m 4 ls [])) → W p l e rmX0_beliefsInAll s m args below meth c H locs 0 0 Z (F0 m 14 ls []) := by
    intro K4
    intro n
    induction n with
    | zero =>
      intro x1 x2 x3 H locs ls h hP hD hS hl hk4
      exact (show False from h).elim
    | succ n ih =>
      intro x1 x2 x3 H locs ls h hP hD hS hl hk4
      refine lv_iload_n hx hb dX0_beliefsInAll_14 rfl (lv_at hl 3 rfl) ?_
      refine lv_aload_n hx hb dX0_beliefsInAll_15 rfl (lv_at hl 0 rfl) ?_
      refine va_get (D := D) (ci := 0) (v := .int nc) (C := RX0) (T := TX0) (N := 9) hx hb hts hin0 hown hK.1 hP 0 rfl rfl 6 (by decide) (k_1) (fun _ h9 => h9) rfl dX0_beliefsInAll_16 ?_
      refine lv_icmp_ge (tgt := 37) hx hb dX0_beliefsInAll_19 (by decide) (fun c_15 => ?_) (fun c_15 => ?_)
      · have h := h.1 c_15
        refine lv_iinc (v := (x2 + (1 : Int32))) (lv' := [(2, .int (x2 + (1 : Int32))), (0, .ref h0), (1, .int x1), (3, .int x3)]) hx hb dX0_beliefsInAll_37 hl (k := 2) rfl rfl (by decide) rfl (fun ls hl => ?_)
        refine lv_goto (tgt := 4) hx hb dX0_beliefsInAll_40 (by decide) ?_
        exact hk4 x1 (x2 + (1 : Int32)) _ _ _ h hP hD hS (lv_sub hl [1, 2, 0] rfl)
      · have h := h.2 c_15
        refine lv_iload_n hx hb dX0_beliefsInAll_22 rfl (lv_at hl 1 rfl) ?_
        refine lv_aload_n hx hb dX0_beliefsInAll_23 rfl (lv_at hl 0 rfl) ?_
        refine lv_iload_n hx hb dX0_beliefsInAll_24 rfl (lv_at hl 3 rfl) ?_
        refine lv_iload_n hx hb dX0_beliefsInAll_25 rfl (lv_at hl 2 rfl) ?_
        refine k0V_i (As := [.int x3, .int x2]) (n := 2) ⟨hx, hb, hml, hown, hts⟩ hK hP hD hS hA (c_X0_believes l D cI cC cQ h0 a_kd a_hd a_pl a_st a_ho a_be kd hd pl st ho be nc nn dy x3 x2 _ h) gX0_beliefsInAll_X0_believes rfl rfl ⟨rfl, rfl⟩ yoX0_believes ⟨Nat.le_of_ble_eq_true rfl, Nat.le_of_ble_eq_true rfl⟩ (q0 := 0) (ci := 0) rfl rfl rfl rfl hl.1 rfl (Nat.le_of_ble_eq_true rfl) dX0_beliefsInAll_26 ⟨Nat.zero_le _, Nat.zero_le _⟩ (fun r_16 u H locs h hP hD hS => ?_)
        refine lv_iadd hx hb dX0_beliefsInAll_29 ?_
        refine lv_topi (fun v_17 ev_17 => ?_)
        have h := h v_17 ev_17
        refine lv_istore_n (lv' := [(1, .int v_17), (0, .ref h0), (2, .int x2), (3, .int x3)]) hx hb dX0_beliefsInAll_30 rfl hl (by decide) rfl (fun ls hl => ?_)
        refine lv_iinc (v := (x3 + (1 : Int32))) (lv' := [(3, .int (x3 + (1 : Int32))), (1, .int v_17), (0, .ref h0), (2, .int x2)]) hx hb dX0_beliefsInAll_31 hl (k := 3) rfl rfl (by decide) rfl (fun ls hl => ?_)
        refine lv_goto (tgt := 14) hx hb dX0_beliefsInAll_34 (by decide) ?_
        exact ih h hP hD hS (lv_sub hl [2, 1, 3, 0] rfl) hk4
  have L4 : ∀ (n : Nat) {x1 : Int32} {x2 : Int32} {H : Heap} {locs : List Loc} {ls : Array Slot}, wX0_beliefsInAll_L4 be nc nn Q n x1 x2 → va_P D vwCl [(h0, .inr (0, [.ref a_kd, .ref a_hd, .ref a_pl, .ref a_st, .ref a_ho, .ref a_be, .int nc, .int nn, .int dy])), (a_kd, .inl (cI, 7, .inl kd)), (a_hd, .inl (cI, 7, .inl hd)), (a_pl, .inl (cI, 7, .inl pl)), (a_st, .inl (cI, 7, .inl st)), (a_ho, .inl (cI, 6, .inl ho)), (a_be, .inl (cI, 42, .inl be))] H → va_D A [(h0, .inr (0, [.ref a_kd, .ref a_hd, .ref a_pl, .ref a_st, .ref a_ho, .ref a_be, .int nc, .int nn, .int dy])), (a_kd, .inl (cI, 7, .inl kd)), (a_hd, .inl (cI, 7, .inl hd)), (a_pl, .inl (cI, 7, .inl pl)), (a_st, .inl (cI, 7, .inl st)), (a_ho, .inl (cI, 6, .inl ho)), (a_be, .inl (cI, 42, .inl be))] → va_S A s.heap H locs → lv_has ls 4 [(0, .ref h0), (1, .int x1), (2, .int x2)] → W p l e rmX0_beliefsInAll s m args below meth c H locs 0 0 Z (F0 m 4 ls []) := by
    intro n
    induction n with
    | zero =>
      intro x1 x2 H locs ls h hP hD hS hl
      exact (show False from h).elim
    | succ n ih =>
      intro x1 x2 H locs ls h hP hD hS hl
      refine lv_iload_n hx hb dX0_beliefsInAll_4 rfl (lv_at hl 2 rfl) ?_
      refine lv_aload_n hx hb dX0_beliefsInAll_5 rfl (lv_at hl 0 rfl) ?_
      refine va_get (D := D) (ci := 0) (v := .int nn) (C := RX0) (T := TX0) (N := 9) hx hb hts hin0 hown hK.1 hP 0 rfl rfl 7 (by decide) (k_0) (fun _ h9 => h9) rfl dX0_beliefsInAll_6 ?_
      refine lv_icmp_ge (tgt := 43) hx hb dX0_beliefsInAll_9 (by decide) (fun c_11 => ?_) (fun c_11 => ?_)
      · have h := h.1 c_11
        refine lv_iload_n hx hb dX0_beliefsInAll_43 rfl (lv_at hl 1 rfl) ?_
        exact hret x1 () _ _ _ ls h hP hD hS dX0_beliefsInAll_44
      · have h := h.2 c_11
        refine lv_iconst (v := 0) hx hb dX0_beliefsInAll_12 (by decide) ?_
        refine lv_istore_n (lv' := [(3, .int (0 : Int32)), (0, .ref h0), (1, .int x1), (2, .int x2)]) hx hb dX0_beliefsInAll_13 rfl hl (by decide) rfl (fun ls hl => ?_)
        obtain ⟨n_20, h⟩ := h
        refine L14 n_20 h hP hD hS (lv_sub hl [1, 2, 3, 0] rfl) (fun x1_18 x2_19 H locs ls h hP hD hS hl => ?_)
        exact ih h hP hD hS (lv_sub hl [0, 1, 2] rfl)
  refine lv_iconst (v := 0) hx hb dX0_beliefsInAll_0 (by decide) ?_
  refine lv_istore_n (lv' := [(1, .int (0 : Int32)), (0, .ref h0)]) hx hb dX0_beliefsInAll_1 rfl hl (by decide) rfl (fun ls hl => ?_)
  refine lv_iconst (v := 0) hx hb dX0_beliefsInAll_2 (by decide) ?_
  refine lv_istore_n (lv' := [(2, .int (0 : Int32)), (1, .int (0 : Int32)), (0, .ref h0)]) hx hb dX0_beliefsInAll_3 rfl hl (by decide) rfl (fun ls hl => ?_)
  obtain ⟨n_21, h⟩ := h
  exact L4 n_21 h hP hD hS (lv_sub hl [2, 1, 0] rfl)

/-! DoubtCourt$Court.changePlaces -/
abbrev rmX0_changePlaces : Room := { frames := 1, cells := 0, slots := 0, locals := 22 }
theorem yoX0_changePlaces : yX0_changePlaces.cls ≠ "java/lang/invoke/MethodHandle" ∧ yX0_changePlaces.cls ≠ "java/lang/invoke/VarHandle" ∧ (parseMethodDescriptor yX0_changePlaces.desc).map (fun d => d.parameters.length) = some 2 := by decide +kernel
set_option maxHeartbeats 4000000 in
set_option maxRecDepth 100000 in
theorem c_X0_changePlaces (l : Launch) (D : va_G) (cI cC cQ : ClassId) (h0 : Nat) (a_kd : Nat) (a_hd : Nat) (a_pl : Nat) (a_st : Nat) (a_ho : Nat) (a_be : Nat) (kd : Nat → Int32) (hd : Nat → Int32) (pl : Nat → Int32) (st : Nat → Int32) (ho : Nat → Int32) (be : Nat → Int32) (nc : Int32) (nn : Int32) (dy : Int32) (x1 : Int32) (x2 : Int32) (Q : (Nat → Int32) → (Nat → Int32) → Prop) (h : wX0_changePlaces x1 x2 pl st Q) : Cv (S := (Nat → Int32) × (Nat → Int32)) l D cI cC cQ yX0_changePlaces wsX0_changePlaces rmX0_changePlaces [.ref h0, .int x1, .int x2] [(h0, .inr (0, [.ref a_kd, .ref a_hd, .ref a_pl, .ref a_st, .ref a_ho, .ref a_be, .int nc, .int nn, .int dy])), (a_kd, .inl (cI, 7, .inl kd)), (a_hd, .inl (cI, 7, .inl hd)), (a_pl, .inl (cI, 7, .inl pl)), (a_st, .inl (cI, 7, .inl st)), (a_ho, .inl (cI, 6, .inl ho)), (a_be, .inl (cI, 42, .inl be))] (fun u => [(h0, .inr (0, [.ref a_kd, .ref a_hd, .ref a_pl, .ref a_st, .ref a_ho, .ref a_be, .int nc, .int nn, .int dy])), (a_kd, .inl (cI, 7, .inl kd)), (a_hd, .inl (cI, 7, .inl hd)), (a_pl, .inl (cI, 7, .inl u.1)), (a_st, .inl (cI, 7, .inl u.2)), (a_ho, .inl (cI, 6, .inl ho)), (a_be, .inl (cI, 42, .inl be))]) (fun u => Q u.1 u.2) := by
  refine Cv_mk (cc := cX0_changePlaces) (maxL := 4) (by decide) rfl (Nat.le_of_ble_eq_true rfl) ?_
  intro p e s m args below meth c A Z ls hx hb hml hown hts hK hA hP hD hret hl
  have hS : va_S A s.heap s.heap [] := va_S.rf
  have hin0 : ∀ w ∈ u_ws RX0 TX0 9, w ∈ wsX0_changePlaces := by decide +kernel
  have k_0 := hts (.fieldLink RX0 18 "DoubtCourt$Court" "place" "[I") (by decide +kernel)
  have k_1 := hts (.initialized RX5) (by decide +kernel)
  have k_2 := hts (.static yX5_of) (by decide +kernel)
  have k_3 := hts (.static yX5_put) (by decide +kernel)
  have k_4 := hts (.fieldLink RX0 21 "DoubtCourt$Court" "sitting" "[I") (by decide +kernel)
  have hl : lv_has ls 4 [(0, .ref h0), (1, .int x1), (2, .int x2)] := hl
  refine lv_aload_n hx hb dX0_changePlaces_0 rfl (lv_at hl 0 rfl) ?_
  refine va_get (D := D) (ci := 0) (v := .ref a_pl) (C := RX0) (T := TX0) (N := 9) hx hb hts hin0 hown hK.1 hP 0 rfl rfl 2 (by decide) (k_0) (fun _ h9 => h9) rfl dX0_changePlaces_1 ?_
  refine lv_iload_n hx hb dX0_changePlaces_4 rfl (lv_at hl 1 rfl) ?_
  refine kSN_i (wr := [(h0, .inr (0, [.ref a_kd, .ref a_hd, .ref a_pl, .ref a_st, .ref a_ho, .ref a_be, .int nc, .int nn, .int dy])), (a_kd, .inl (cI, 7, .inl kd)), (a_hd, .inl (cI, 7, .inl hd)), (a_st, .inl (cI, 7, .inl st)), (a_ho, .inl (cI, 6, .inl ho)), (a_be, .inl (cI, 42, .inl be))]) (As := [.ref a_pl, .int x1]) (n := 2) ⟨hx, hb, hml, hown, hts⟩ hK hP hD hS hA (c_X5_of l D cI cC cQ a_pl pl 7 x1 _ h) gX0_changePlaces_X5_of_n54 (hK.2 _ (List.mem_of_getElem? (i := 5) rfl)) (k_1) (k_2) rfl ⟨rfl, rfl⟩ yoX5_of ⟨Nat.le_of_ble_eq_true rfl, Nat.le_of_ble_eq_true rfl⟩ rfl hl.1 rfl (Nat.le_of_ble_eq_true rfl) dX0_changePlaces_5 ⟨Nat.zero_le _, Nat.zero_le _⟩ [3] [0, 1, 2, 4, 5, 6] rfl (by decide) rfl (by decide) (by decide) (fun r_1 u H locs h hP hD hS => ?_)
  have hP : va_P D vwCl [(h0, .inr (0, [.ref a_kd, .ref a_hd, .ref a_pl, .ref a_st, .ref a_ho, .ref a_be, .int nc, .int nn, .int dy])), (a_kd, .inl (cI, 7, .inl kd)), (a_hd, .inl (cI, 7, .inl hd)), (a_st, .inl (cI, 7, .inl st)), (a_ho, .inl (cI, 6, .inl ho)), (a_be, .inl (cI, 42, .inl be)), (a_pl, .inl (cI, 7, .inl pl))] H := hP
  have hD : va_D A [(h0, .inr (0, [.ref a_kd, .ref a_hd, .ref a_pl, .ref a_st, .ref a_ho, .ref a_be, .int nc, .int nn, .int dy])), (a_kd, .inl (cI, 7, .inl kd)), (a_hd, .inl (cI, 7, .inl hd)), (a_st, .inl (cI, 7, .inl st)), (a_ho, .inl (cI, 6, .inl ho)), (a_be, .inl (cI, 42, .inl be)), (a_pl, .inl (cI, 7, .inl pl))] := hD
  refine lv_istore_n (lv' := [(3, .int r_1), (0, .ref h0), (1, .int x1), (2, .int x2)]) hx hb dX0_changePlaces_8 rfl hl (by decide) rfl (fun ls hl => ?_)
  refine lv_aload_n hx hb dX0_changePlaces_9 rfl (lv_at hl 1 rfl) ?_
  refine va_get (D := D) (ci := 0) (v := .ref a_pl) (C := RX0) (T := TX0) (N := 9) hx hb hts hin0 hown hK.1 hP 0 rfl rfl 2 (by decide) (k_0) (fun _ h9 => h9) rfl dX0_changePlaces_10 ?_
  refine lv_iload_n hx hb dX0_changePlaces_13 rfl (lv_at hl 2 rfl) ?_
  refine lv_aload_n hx hb dX0_changePlaces_14 rfl (lv_at hl 1 rfl) ?_
  refine va_get (D := D) (ci := 0) (v := .ref a_pl) (C := RX0) (T := TX0) (N := 9) hx hb hts hin0 hown hK.1 hP 0 rfl rfl 2 (by decide) (k_0) (fun _ h9 => h9) rfl dX0_changePlaces_15 ?_
  refine lv_iload_n hx hb dX0_changePlaces_18 rfl (lv_at hl 3 rfl) ?_
  refine kSN_i (wr := [(h0, .inr (0, [.ref a_kd, .ref a_hd, .ref a_pl, .ref a_st, .ref a_ho, .ref a_be, .int nc, .int nn, .int dy])), (a_kd, .inl (cI, 7, .inl kd)), (a_hd, .inl (cI, 7, .inl hd)), (a_st, .inl (cI, 7, .inl st)), (a_ho, .inl (cI, 6, .inl ho)), (a_be, .inl (cI, 42, .inl be))]) (As := [.ref a_pl, .int x2]) (n := 2) ⟨hx, hb, hml, hown, hts⟩ hK hP hD hS hA (c_X5_of l D cI cC cQ a_pl pl 7 x2 _ h) gX0_changePlaces_X5_of_n54 (hK.2 _ (List.mem_of_getElem? (i := 5) rfl)) (k_1) (k_2) rfl ⟨rfl, rfl⟩ yoX5_of ⟨Nat.le_of_ble_eq_true rfl, Nat.le_of_ble_eq_true rfl⟩ rfl hl.1 rfl (Nat.le_of_ble_eq_true rfl) dX0_changePlaces_19 ⟨Nat.zero_le _, Nat.zero_le _⟩ [6] [0, 1, 2, 3, 4, 5] rfl (by decide) rfl (by decide) (by decide) (fun r_2 u H locs h hP hD hS => ?_)
  have hP : va_P D vwCl [(h0, .inr (0, [.ref a_kd, .ref a_hd, .ref a_pl, .ref a_st, .ref a_ho, .ref a_be, .int nc, .int nn, .int dy])), (a_kd, .inl (cI, 7, .inl kd)), (a_hd, .inl (cI, 7, .inl hd)), (a_st, .inl (cI, 7, .inl st)), (a_ho, .inl (cI, 6, .inl ho)), (a_be, .inl (cI, 42, .inl be)), (a_pl, .inl (cI, 7, .inl pl))] H := hP
  have hD : va_D A [(h0, .inr (0, [.ref a_kd, .ref a_hd, .ref a_pl, .ref a_st, .ref a_ho, .ref a_be, .int nc, .int nn, .int dy])), (a_kd, .inl (cI, 7, .inl kd)), (a_hd, .inl (cI, 7, .inl hd)), (a_st, .inl (cI, 7, .inl st)), (a_ho, .inl (cI, 6, .inl ho)), (a_be, .inl (cI, 42, .inl be)), (a_pl, .inl (cI, 7, .inl pl))] := hD
  refine kSN_v (wr := [(h0, .inr (0, [.ref a_kd, .ref a_hd, .ref a_pl, .ref a_st, .ref a_ho, .ref a_be, .int nc, .int nn, .int dy])), (a_kd, .inl (cI, 7, .inl kd)), (a_hd, .inl (cI, 7, .inl hd)), (a_st, .inl (cI, 7, .inl st)), (a_ho, .inl (cI, 6, .inl ho)), (a_be, .inl (cI, 42, .inl be))]) (As := [.ref a_pl, .int x1, .int r_2]) (n := 3) ⟨hx, hb, hml, hown, hts⟩ hK hP hD hS hA (c_X5_put l D cI cC cQ a_pl pl 7 x1 r_2 _ h) gX0_changePlaces_X5_put_n46 (hK.2 _ (List.mem_of_getElem? (i := 4) rfl)) (k_1) (k_3) rfl ⟨rfl, rfl⟩ yoX5_put ⟨Nat.le_of_ble_eq_true rfl, Nat.le_of_ble_eq_true rfl⟩ rfl hl.1 rfl (Nat.le_of_ble_eq_true rfl) dX0_changePlaces_22 ⟨Nat.zero_le _, Nat.zero_le _⟩ [6] [0, 1, 2, 3, 4, 5] rfl (by decide) rfl (by decide) (by decide) (fun pl_3 H locs h hP hD hS => ?_)
  have hP : va_P D vwCl [(h0, .inr (0, [.ref a_kd, .ref a_hd, .ref a_pl, .ref a_st, .ref a_ho, .ref a_be, .int nc, .int nn, .int dy])), (a_kd, .inl (cI, 7, .inl kd)), (a_hd, .inl (cI, 7, .inl hd)), (a_st, .inl (cI, 7, .inl st)), (a_ho, .inl (cI, 6, .inl ho)), (a_be, .inl (cI, 42, .inl be)), (a_pl, .inl (cI, 7, .inl pl_3))] H := hP
  have hD : va_D A [(h0, .inr (0, [.ref a_kd, .ref a_hd, .ref a_pl, .ref a_st, .ref a_ho, .ref a_be, .int nc, .int nn, .int dy])), (a_kd, .inl (cI, 7, .inl kd)), (a_hd, .inl (cI, 7, .inl hd)), (a_st, .inl (cI, 7, .inl st)), (a_ho, .inl (cI, 6, .inl ho)), (a_be, .inl (cI, 42, .inl be)), (a_pl, .inl (cI, 7, .inl pl_3))] := hD
  refine lv_aload_n hx hb dX0_changePlaces_25 rfl (lv_at hl 1 rfl) ?_
  refine va_get (D := D) (ci := 0) (v := .ref a_pl) (C := RX0) (T := TX0) (N := 9) hx hb hts hin0 hown hK.1 hP 0 rfl rfl 2 (by decide) (k_0) (fun _ h9 => h9) rfl dX0_changePlaces_26 ?_
  refine lv_iload_n hx hb dX0_changePlaces_29 rfl (lv_at hl 3 rfl) ?_
  refine lv_iload_n hx hb dX0_changePlaces_30 rfl (lv_at hl 0 rfl) ?_
  refine kSN_v (wr := [(h0, .inr (0, [.ref a_kd, .ref a_hd, .ref a_pl, .ref a_st, .ref a_ho, .ref a_be, .int nc, .int nn, .int dy])), (a_kd, .inl (cI, 7, .inl kd)), (a_hd, .inl (cI, 7, .inl hd)), (a_st, .inl (cI, 7, .inl st)), (a_ho, .inl (cI, 6, .inl ho)), (a_be, .inl (cI, 42, .inl be))]) (As := [.ref a_pl, .int x2, .int r_1]) (n := 3) ⟨hx, hb, hml, hown, hts⟩ hK hP hD hS hA (c_X5_put l D cI cC cQ a_pl pl_3 7 x2 r_1 _ h) gX0_changePlaces_X5_put_n46 (hK.2 _ (List.mem_of_getElem? (i := 4) rfl)) (k_1) (k_3) rfl ⟨rfl, rfl⟩ yoX5_put ⟨Nat.le_of_ble_eq_true rfl, Nat.le_of_ble_eq_true rfl⟩ rfl hl.1 rfl (Nat.le_of_ble_eq_true rfl) dX0_changePlaces_31 ⟨Nat.zero_le _, Nat.zero_le _⟩ [6] [0, 1, 2, 3, 4, 5] rfl (by decide) rfl (by decide) (by decide) (fun pl_4 H locs h hP hD hS => ?_)
  have hP : va_P D vwCl [(h0, .inr (0, [.ref a_kd, .ref a_hd, .ref a_pl, .ref a_st, .ref a_ho, .ref a_be, .int nc, .int nn, .int dy])), (a_kd, .inl (cI, 7, .inl kd)), (a_hd, .inl (cI, 7, .inl hd)), (a_st, .inl (cI, 7, .inl st)), (a_ho, .inl (cI, 6, .inl ho)), (a_be, .inl (cI, 42, .inl be)), (a_pl, .inl (cI, 7, .inl pl_4))] H := hP
  have hD : va_D A [(h0, .inr (0, [.ref a_kd, .ref a_hd, .ref a_pl, .ref a_st, .ref a_ho, .ref a_be, .int nc, .int nn, .int dy])), (a_kd, .inl (cI, 7, .inl kd)), (a_hd, .inl (cI, 7, .inl hd)), (a_st, .inl (cI, 7, .inl st)), (a_ho, .inl (cI, 6, .inl ho)), (a_be, .inl (cI, 42, .inl be)), (a_pl, .inl (cI, 7, .inl pl_4))] := hD
  refine lv_aload_n hx hb dX0_changePlaces_34 rfl (lv_at hl 1 rfl) ?_
  refine va_get (D := D) (ci := 0) (v := .ref a_st) (C := RX0) (T := TX0) (N := 9) hx hb hts hin0 hown hK.1 hP 0 rfl rfl 3 (by decide) (k_4) (fun _ h9 => h9) rfl dX0_changePlaces_35 ?_
  refine lv_aload_n hx hb dX0_changePlaces_38 rfl (lv_at hl 1 rfl) ?_
  refine va_get (D := D) (ci := 0) (v := .ref a_pl) (C := RX0) (T := TX0) (N := 9) hx hb hts hin0 hown hK.1 hP 0 rfl rfl 2 (by decide) (k_0) (fun _ h9 => h9) rfl dX0_changePlaces_39 ?_
  refine lv_iload_n hx hb dX0_changePlaces_42 rfl (lv_at hl 2 rfl) ?_
  refine kSN_i (wr := [(h0, .inr (0, [.ref a_kd, .ref a_hd, .ref a_pl, .ref a_st, .ref a_ho, .ref a_be, .int nc, .int nn, .int dy])), (a_kd, .inl (cI, 7, .inl kd)), (a_hd, .inl (cI, 7, .inl hd)), (a_st, .inl (cI, 7, .inl st)), (a_ho, .inl (cI, 6, .inl ho)), (a_be, .inl (cI, 42, .inl be))]) (As := [.ref a_pl, .int x1]) (n := 2) ⟨hx, hb, hml, hown, hts⟩ hK hP hD hS hA (c_X5_of l D cI cC cQ a_pl pl_4 7 x1 _ h) gX0_changePlaces_X5_of_n54 (hK.2 _ (List.mem_of_getElem? (i := 5) rfl)) (k_1) (k_2) rfl ⟨rfl, rfl⟩ yoX5_of ⟨Nat.le_of_ble_eq_true rfl, Nat.le_of_ble_eq_true rfl⟩ rfl hl.1 rfl (Nat.le_of_ble_eq_true rfl) dX0_changePlaces_43 ⟨Nat.zero_le _, Nat.zero_le _⟩ [6] [0, 1, 2, 3, 4, 5] rfl (by decide) rfl (by decide) (by decide) (fun r_5 u H locs h hP hD hS => ?_)
  have hP : va_P D vwCl [(h0, .inr (0, [.ref a_kd, .ref a_hd, .ref a_pl, .ref a_st, .ref a_ho, .ref a_be, .int nc, .int nn, .int dy])), (a_kd, .inl (cI, 7, .inl kd)), (a_hd, .inl (cI, 7, .inl hd)), (a_st, .inl (cI, 7, .inl st)), (a_ho, .inl (cI, 6, .inl ho)), (a_be, .inl (cI, 42, .inl be)), (a_pl, .inl (cI, 7, .inl pl_4))] H := hP
  have hD : va_D A [(h0, .inr (0, [.ref a_kd, .ref a_hd, .ref a_pl, .ref a_st, .ref a_ho, .ref a_be, .int nc, .int nn, .int dy])), (a_kd, .inl (cI, 7, .inl kd)), (a_hd, .inl (cI, 7, .inl hd)), (a_st, .inl (cI, 7, .inl st)), (a_ho, .inl (cI, 6, .inl ho)), (a_be, .inl (cI, 42, .inl be)), (a_pl, .inl (cI, 7, .inl pl_4))] := hD
  refine lv_iload_n hx hb dX0_changePlaces_46 rfl (lv_at hl 2 rfl) ?_
  refine kSN_v (wr := [(h0, .inr (0, [.ref a_kd, .ref a_hd, .ref a_pl, .ref a_st, .ref a_ho, .ref a_be, .int nc, .int nn, .int dy])), (a_kd, .inl (cI, 7, .inl kd)), (a_hd, .inl (cI, 7, .inl hd)), (a_ho, .inl (cI, 6, .inl ho)), (a_be, .inl (cI, 42, .inl be)), (a_pl, .inl (cI, 7, .inl pl_4))]) (As := [.ref a_st, .int r_5, .int x1]) (n := 3) ⟨hx, hb, hml, hown, hts⟩ hK hP hD hS hA (c_X5_put l D cI cC cQ a_st st 7 r_5 x1 _ h) gX0_changePlaces_X5_put_n46 (hK.2 _ (List.mem_of_getElem? (i := 4) rfl)) (k_1) (k_3) rfl ⟨rfl, rfl⟩ yoX5_put ⟨Nat.le_of_ble_eq_true rfl, Nat.le_of_ble_eq_true rfl⟩ rfl hl.1 rfl (Nat.le_of_ble_eq_true rfl) dX0_changePlaces_47 ⟨Nat.zero_le _, Nat.zero_le _⟩ [3] [0, 1, 2, 4, 5, 6] rfl (by decide) rfl (by decide) (by decide) (fun st_6 H locs h hP hD hS => ?_)
  have hP : va_P D vwCl [(h0, .inr (0, [.ref a_kd, .ref a_hd, .ref a_pl, .ref a_st, .ref a_ho, .ref a_be, .int nc, .int nn, .int dy])), (a_kd, .inl (cI, 7, .inl kd)), (a_hd, .inl (cI, 7, .inl hd)), (a_ho, .inl (cI, 6, .inl ho)), (a_be, .inl (cI, 42, .inl be)), (a_pl, .inl (cI, 7, .inl pl_4)), (a_st, .inl (cI, 7, .inl st_6))] H := hP
  have hD : va_D A [(h0, .inr (0, [.ref a_kd, .ref a_hd, .ref a_pl, .ref a_st, .ref a_ho, .ref a_be, .int nc, .int nn, .int dy])), (a_kd, .inl (cI, 7, .inl kd)), (a_hd, .inl (cI, 7, .inl hd)), (a_ho, .inl (cI, 6, .inl ho)), (a_be, .inl (cI, 42, .inl be)), (a_pl, .inl (cI, 7, .inl pl_4)), (a_st, .inl (cI, 7, .inl st_6))] := hD
  refine lv_aload_n hx hb dX0_changePlaces_50 rfl (lv_at hl 1 rfl) ?_
  refine va_get (D := D) (ci := 0) (v := .ref a_st) (C := RX0) (T := TX0) (N := 9) hx hb hts hin0 hown hK.1 hP 0 rfl rfl 3 (by decide) (k_4) (fun _ h9 => h9) rfl dX0_changePlaces_51 ?_
  refine lv_iload_n hx hb dX0_changePlaces_54 rfl (lv_at hl 0 rfl) ?_
  refine lv_iload_n hx hb dX0_changePlaces_55 rfl (lv_at hl 3 rfl) ?_
  refine kSN_v (wr := [(h0, .inr (0, [.ref a_kd, .ref a_hd, .ref a_pl, .ref a_st, .ref a_ho, .ref a_be, .int nc, .int nn, .int dy])), (a_kd, .inl (cI, 7, .inl kd)), (a_hd, .inl (cI, 7, .inl hd)), (a_ho, .inl (cI, 6, .inl ho)), (a_be, .inl (cI, 42, .inl be)), (a_pl, .inl (cI, 7, .inl pl_4))]) (As := [.ref a_st, .int r_1, .int x2]) (n := 3) ⟨hx, hb, hml, hown, hts⟩ hK hP hD hS hA (c_X5_put l D cI cC cQ a_st st_6 7 r_1 x2 _ h) gX0_changePlaces_X5_put_n46 (hK.2 _ (List.mem_of_getElem? (i := 4) rfl)) (k_1) (k_3) rfl ⟨rfl, rfl⟩ yoX5_put ⟨Nat.le_of_ble_eq_true rfl, Nat.le_of_ble_eq_true rfl⟩ rfl hl.1 rfl (Nat.le_of_ble_eq_true rfl) dX0_changePlaces_56 ⟨Nat.zero_le _, Nat.zero_le _⟩ [6] [0, 1, 2, 3, 4, 5] rfl (by decide) rfl (by decide) (by decide) (fun st_7 H locs h hP hD hS => ?_)
  have hP : va_P D vwCl [(h0, .inr (0, [.ref a_kd, .ref a_hd, .ref a_pl, .ref a_st, .ref a_ho, .ref a_be, .int nc, .int nn, .int dy])), (a_kd, .inl (cI, 7, .inl kd)), (a_hd, .inl (cI, 7, .inl hd)), (a_ho, .inl (cI, 6, .inl ho)), (a_be, .inl (cI, 42, .inl be)), (a_pl, .inl (cI, 7, .inl pl_4)), (a_st, .inl (cI, 7, .inl st_7))] H := hP
  have hD : va_D A [(h0, .inr (0, [.ref a_kd, .ref a_hd, .ref a_pl, .ref a_st, .ref a_ho, .ref a_be, .int nc, .int nn, .int dy])), (a_kd, .inl (cI, 7, .inl kd)), (a_hd, .inl (cI, 7, .inl hd)), (a_ho, .inl (cI, 6, .inl ho)), (a_be, .inl (cI, 42, .inl be)), (a_pl, .inl (cI, 7, .inl pl_4)), (a_st, .inl (cI, 7, .inl st_7))] := hD
  have hP := hP.sub (ws' := [(h0, .inr (0, [.ref a_kd, .ref a_hd, .ref a_pl, .ref a_st, .ref a_ho, .ref a_be, .int nc, .int nn, .int dy])), (a_kd, .inl (cI, 7, .inl kd)), (a_hd, .inl (cI, 7, .inl hd)), (a_pl, .inl (cI, 7, .inl pl_4)), (a_st, .inl (cI, 7, .inl st_7)), (a_ho, .inl (cI, 6, .inl ho)), (a_be, .inl (cI, 42, .inl be))]) [0, 1, 2, 5, 6, 3, 4] rfl
  have hD := hD.sub (ws' := [(h0, .inr (0, [.ref a_kd, .ref a_hd, .ref a_pl, .ref a_st, .ref a_ho, .ref a_be, .int nc, .int nn, .int dy])), (a_kd, .inl (cI, 7, .inl kd)), (a_hd, .inl (cI, 7, .inl hd)), (a_pl, .inl (cI, 7, .inl pl_4)), (a_st, .inl (cI, 7, .inl st_7)), (a_ho, .inl (cI, 6, .inl ho)), (a_be, .inl (cI, 42, .inl be))]) [0, 1, 2, 5, 6, 3, 4] (by decide) rfl
  exact hret (pl_4, st_7) _ _ _ ls h hP hD hS dX0_changePlaces_59

/-! DoubtCourt$Court.goUp -/
abbrev rmX0_goUp : Room := { frames := 1, cells := 0, slots := 0, locals := 22 }
theorem yoX0_goUp : yX0_goUp.cls ≠ "java/lang/invoke/MethodHandle" ∧ yX0_goUp.cls ≠ "java/lang/invoke/VarHandle" ∧ (parseMethodDescriptor yX0_goUp.desc).map (fun d => d.parameters.length) = some 1 := by decide +kernel
set_option maxHeartbeats 4000000 in
set_option maxRecDepth 100000 in
theorem c_X0_goUp (l : Launch) (D : va_G) (cI cC cQ : ClassId) (h0 : Nat) (a_kd : Nat) (a_hd : Nat) (a_pl : Nat) (a_st : Nat) (a_ho : Nat) (a_be : Nat) (kd : Nat → Int32) (hd : Nat → Int32) (pl : Nat → Int32) (st : Nat → Int32) (ho : Nat → Int32) (be : Nat → Int32) (nc : Int32) (nn : Int32) (dy : Int32) (x1 : Int32) (Q : (Nat → Int32) → Prop) (h : wX0_goUp x1 pl st ho Q) : Cv (S := (Nat → Int32)) l D cI cC cQ yX0_goUp wsX0_goUp rmX0_goUp [.ref h0, .int x1] [(h0, .inr (0, [.ref a_kd, .ref a_hd, .ref a_pl, .ref a_st, .ref a_ho, .ref a_be, .int nc, .int nn, .int dy])), (a_kd, .inl (cI, 7, .inl kd)), (a_hd, .inl (cI, 7, .inl hd)), (a_pl, .inl (cI, 7, .inl pl)), (a_st, .inl (cI, 7, .inl st)), (a_ho, .inl (cI, 6, .inl ho)), (a_be, .inl (cI, 42, .inl be))] (fun u => [(h0, .inr (0, [.ref a_kd, .ref a_hd, .ref a_pl, .ref a_st, .ref a_ho, .ref a_be, .int nc, .int nn, .int dy])), (a_kd, .inl (cI, 7, .inl kd)), (a_hd, .inl (cI, 7, .inl hd)), (a_pl, .inl (cI, 7, .inl pl)), (a_st, .inl (cI, 7, .inl st)), (a_ho, .inl (cI, 6, .inl u)), (a_be, .inl (cI, 42, .inl be))]) (fun u => Q u) := by
  refine Cv_mk (cc := cX0_goUp) (maxL := 3) (by decide) rfl (Nat.le_of_ble_eq_true rfl) ?_
  intro p e s m args below meth c A Z ls hx hb hml hown hts hK hA hP hD hret hl
  have hS : va_S A s.heap s.heap [] := va_S.rf
  have hin0 : ∀ w ∈ u_ws RX0 TX0 9, w ∈ wsX0_goUp := by decide +kernel
  have k_0 := hts (.fieldLink RX0 18 "DoubtCourt$Court" "place" "[I") (by decide +kernel)
  have k_1 := hts (.fieldLink RX0 24 "DoubtCourt$Court" "holder" "[I") (by decide +kernel)
  have k_2 := hts (.initialized RX5) (by decide +kernel)
  have k_3 := hts (.static yX5_of) (by decide +kernel)
  have k_4 := hts (.fieldLink RX0 21 "DoubtCourt$Court" "sitting" "[I") (by decide +kernel)
  have k_5 := hts (.static yX5_put) (by decide +kernel)
  have hl : lv_has ls 3 [(0, .ref h0), (1, .int x1)] := hl
  refine lv_aload_n hx hb dX0_goUp_0 rfl (lv_at hl 0 rfl) ?_
  refine va_get (D := D) (ci := 0) (v := .ref a_pl) (C := RX0) (T := TX0) (N := 9) hx hb hts hin0 hown hK.1 hP 0 rfl rfl 2 (by decide) (k_0) (fun _ h9 => h9) rfl dX0_goUp_1 ?_
  refine lv_aload_n hx hb dX0_goUp_4 rfl (lv_at hl 0 rfl) ?_
  refine va_get (D := D) (ci := 0) (v := .ref a_ho) (C := RX0) (T := TX0) (N := 9) hx hb hts hin0 hown hK.1 hP 0 rfl rfl 4 (by decide) (k_1) (fun _ h9 => h9) rfl dX0_goUp_5 ?_
  refine lv_iload_n hx hb dX0_goUp_8 rfl (lv_at hl 1 rfl) ?_
  refine kSN_i (wr := [(h0, .inr (0, [.ref a_kd, .ref a_hd, .ref a_pl, .ref a_st, .ref a_ho, .ref a_be, .int nc, .int nn, .int dy])), (a_kd, .inl (cI, 7, .inl kd)), (a_hd, .inl (cI, 7, .inl hd)), (a_pl, .inl (cI, 7, .inl pl)), (a_st, .inl (cI, 7, .inl st)), (a_be, .inl (cI, 42, .inl be))]) (As := [.ref a_ho, .int x1]) (n := 2) ⟨hx, hb, hml, hown, hts⟩ hK hP hD hS hA (c_X5_of l D cI cC cQ a_ho ho 6 x1 _ h) gX0_goUp_X5_of_n54 (hK.2 _ (List.mem_of_getElem? (i := 5) rfl)) (k_2) (k_3) rfl ⟨rfl, rfl⟩ yoX5_of ⟨Nat.le_of_ble_eq_true rfl, Nat.le_of_ble_eq_true rfl⟩ rfl hl.1 rfl (Nat.le_of_ble_eq_true rfl) dX0_goUp_9 ⟨Nat.zero_le _, Nat.zero_le _⟩ [5] [0, 1, 2, 3, 4, 6] rfl (by decide) rfl (by decide) (by decide) (fun r_1 u H locs h hP hD hS => ?_)
  have hP : va_P D vwCl [(h0, .inr (0, [.ref a_kd, .ref a_hd, .ref a_pl, .ref a_st, .ref a_ho, .ref a_be, .int nc, .int nn, .int dy])), (a_kd, .inl (cI, 7, .inl kd)), (a_hd, .inl (cI, 7, .inl hd)), (a_pl, .inl (cI, 7, .inl pl)), (a_st, .inl (cI, 7, .inl st)), (a_be, .inl (cI, 42, .inl be)), (a_ho, .inl (cI, 6, .inl ho))] H := hP
  have hD : va_D A [(h0, .inr (0, [.ref a_kd, .ref a_hd, .ref a_pl, .ref a_st, .ref a_ho, .ref a_be, .int nc, .int nn, .int dy])), (a_kd, .inl (cI, 7, .inl kd)), (a_hd, .inl (cI, 7, .inl hd)), (a_pl, .inl (cI, 7, .inl pl)), (a_st, .inl (cI, 7, .inl st)), (a_be, .inl (cI, 42, .inl be)), (a_ho, .inl (cI, 6, .inl ho))] := hD
  refine kSN_i (wr := [(h0, .inr (0, [.ref a_kd, .ref a_hd, .ref a_pl, .ref a_st, .ref a_ho, .ref a_be, .int nc, .int nn, .int dy])), (a_kd, .inl (cI, 7, .inl kd)), (a_hd, .inl (cI, 7, .inl hd)), (a_st, .inl (cI, 7, .inl st)), (a_be, .inl (cI, 42, .inl be)), (a_ho, .inl (cI, 6, .inl ho))]) (As := [.ref a_pl, .int r_1]) (n := 2) ⟨hx, hb, hml, hown, hts⟩ hK hP hD hS hA (c_X5_of l D cI cC cQ a_pl pl 7 r_1 _ h) gX0_goUp_X5_of_n54 (hK.2 _ (List.mem_of_getElem? (i := 5) rfl)) (k_2) (k_3) rfl ⟨rfl, rfl⟩ yoX5_of ⟨Nat.le_of_ble_eq_true rfl, Nat.le_of_ble_eq_true rfl⟩ rfl hl.1 rfl (Nat.le_of_ble_eq_true rfl) dX0_goUp_12 ⟨Nat.zero_le _, Nat.zero_le _⟩ [3] [0, 1, 2, 4, 5, 6] rfl (by decide) rfl (by decide) (by decide) (fun r_2 u H locs h hP hD hS => ?_)
  have hP : va_P D vwCl [(h0, .inr (0, [.ref a_kd, .ref a_hd, .ref a_pl, .ref a_st, .ref a_ho, .ref a_be, .int nc, .int nn, .int dy])), (a_kd, .inl (cI, 7, .inl kd)), (a_hd, .inl (cI, 7, .inl hd)), (a_st, .inl (cI, 7, .inl st)), (a_be, .inl (cI, 42, .inl be)), (a_ho, .inl (cI, 6, .inl ho)), (a_pl, .inl (cI, 7, .inl pl))] H := hP
  have hD : va_D A [(h0, .inr (0, [.ref a_kd, .ref a_hd, .ref a_pl, .ref a_st, .ref a_ho, .ref a_be, .int nc, .int nn, .int dy])), (a_kd, .inl (cI, 7, .inl kd)), (a_hd, .inl (cI, 7, .inl hd)), (a_st, .inl (cI, 7, .inl st)), (a_be, .inl (cI, 42, .inl be)), (a_ho, .inl (cI, 6, .inl ho)), (a_pl, .inl (cI, 7, .inl pl))] := hD
  refine lv_istore_n (lv' := [(2, .int r_2), (0, .ref h0), (1, .int x1)]) hx hb dX0_goUp_15 rfl hl (by decide) rfl (fun ls hl => ?_)
  refine lv_aload_n hx hb dX0_goUp_16 rfl (lv_at hl 1 rfl) ?_
  refine va_get (D := D) (ci := 0) (v := .ref a_ho) (C := RX0) (T := TX0) (N := 9) hx hb hts hin0 hown hK.1 hP 0 rfl rfl 4 (by decide) (k_1) (fun _ h9 => h9) rfl dX0_goUp_17 ?_
  refine lv_iload_n hx hb dX0_goUp_20 rfl (lv_at hl 2 rfl) ?_
  refine lv_iload_n hx hb dX0_goUp_21 rfl (lv_at hl 0 rfl) ?_
  refine lv_if_ne (tgt := 30) hx hb dX0_goUp_22 (by decide) (fun c_3 => ?_) (fun c_3 => ?_)
  · have h := h.2 c_3
    refine lv_aload_n hx hb dX0_goUp_30 rfl (lv_at hl 1 rfl) ?_
    refine va_get (D := D) (ci := 0) (v := .ref a_st) (C := RX0) (T := TX0) (N := 9) hx hb hts hin0 hown hK.1 hP 0 rfl rfl 3 (by decide) (k_4) (fun _ h9 => h9) rfl dX0_goUp_31 ?_
    refine lv_iload_n hx hb dX0_goUp_34 rfl (lv_at hl 0 rfl) ?_
    refine lv_iconst (v := 1) hx hb dX0_goUp_35 (by decide) ?_
    refine lv_isub hx hb dX0_goUp_36 ?_
    refine kSN_i (wr := [(h0, .inr (0, [.ref a_kd, .ref a_hd, .ref a_pl, .ref a_st, .ref a_ho, .ref a_be, .int nc, .int nn, .int dy])), (a_kd, .inl (cI, 7, .inl kd)), (a_hd, .inl (cI, 7, .inl hd)), (a_be, .inl (cI, 42, .inl be)), (a_ho, .inl (cI, 6, .inl ho)), (a_pl, .inl (cI, 7, .inl pl))]) (As := [.ref a_st, .int (r_2 - (1 : Int32))]) (n := 2) ⟨hx, hb, hml, hown, hts⟩ hK hP hD hS hA (c_X5_of l D cI cC cQ a_st st 7 (r_2 - (1 : Int32)) _ h) gX0_goUp_X5_of_n54 (hK.2 _ (List.mem_of_getElem? (i := 5) rfl)) (k_2) (k_3) rfl ⟨rfl, rfl⟩ yoX5_of ⟨Nat.le_of_ble_eq_true rfl, Nat.le_of_ble_eq_true rfl⟩ rfl hl.1 rfl (Nat.le_of_ble_eq_true rfl) dX0_goUp_37 ⟨Nat.zero_le _, Nat.zero_le _⟩ [3] [0, 1, 2, 4, 5, 6] rfl (by decide) rfl (by decide) (by decide) (fun r_4 u H locs h hP hD hS => ?_)
    have hP : va_P D vwCl [(h0, .inr (0, [.ref a_kd, .ref a_hd, .ref a_pl, .ref a_st, .ref a_ho, .ref a_be, .int nc, .int nn, .int dy])), (a_kd, .inl (cI, 7, .inl kd)), (a_hd, .inl (cI, 7, .inl hd)), (a_be, .inl (cI, 42, .inl be)), (a_ho, .inl (cI, 6, .inl ho)), (a_pl, .inl (cI, 7, .inl pl)), (a_st, .inl (cI, 7, .inl st))] H := hP
    have hD : va_D A [(h0, .inr (0, [.ref a_kd, .ref a_hd, .ref a_pl, .ref a_st, .ref a_ho, .ref a_be, .int nc, .int nn, .int dy])), (a_kd, .inl (cI, 7, .inl kd)), (a_hd, .inl (cI, 7, .inl hd)), (a_be, .inl (cI, 42, .inl be)), (a_ho, .inl (cI, 6, .inl ho)), (a_pl, .inl (cI, 7, .inl pl)), (a_st, .inl (cI, 7, .inl st))] := hD
    refine kSN_v (wr := [(h0, .inr (0, [.ref a_kd, .ref a_hd, .ref a_pl, .ref a_st, .ref a_ho, .ref a_be, .int nc, .int nn, .int dy])), (a_kd, .inl (cI, 7, .inl kd)), (a_hd, .inl (cI, 7, .inl hd)), (a_be, .inl (cI, 42, .inl be)), (a_pl, .inl (cI, 7, .inl pl)), (a_st, .inl (cI, 7, .inl st))]) (As := [.ref a_ho, .int x1, .int r_4]) (n := 3) ⟨hx, hb, hml, hown, hts⟩ hK hP hD hS hA (c_X5_put l D cI cC cQ a_ho ho 6 x1 r_4 _ h) gX0_goUp_X5_put_n46 (hK.2 _ (List.mem_of_getElem? (i := 4) rfl)) (k_2) (k_5) rfl ⟨rfl, rfl⟩ yoX5_put ⟨Nat.le_of_ble_eq_true rfl, Nat.le_of_ble_eq_true rfl⟩ rfl hl.1 rfl (Nat.le_of_ble_eq_true rfl) dX0_goUp_40 ⟨Nat.zero_le _, Nat.zero_le _⟩ [4] [0, 1, 2, 3, 5, 6] rfl (by decide) rfl (by decide) (by decide) (fun ho_5 H locs h hP hD hS => ?_)
    have hP : va_P D vwCl [(h0, .inr (0, [.ref a_kd, .ref a_hd, .ref a_pl, .ref a_st, .ref a_ho, .ref a_be, .int nc, .int nn, .int dy])), (a_kd, .inl (cI, 7, .inl kd)), (a_hd, .inl (cI, 7, .inl hd)), (a_be, .inl (cI, 42, .inl be)), (a_pl, .inl (cI, 7, .inl pl)), (a_st, .inl (cI, 7, .inl st)), (a_ho, .inl (cI, 6, .inl ho_5))] H := hP
    have hD : va_D A [(h0, .inr (0, [.ref a_kd, .ref a_hd, .ref a_pl, .ref a_st, .ref a_ho, .ref a_be, .int nc, .int nn, .int dy])), (a_kd, .inl (cI, 7, .inl kd)), (a_hd, .inl (cI, 7, .inl hd)), (a_be, .inl (cI, 42, .inl be)), (a_pl, .inl (cI, 7, .inl pl)), (a_st, .inl (cI, 7, .inl st)), (a_ho, .inl (cI, 6, .inl ho_5))] := hD
    have hP := hP.sub (ws' := [(h0, .inr (0, [.ref a_kd, .ref a_hd, .ref a_pl, .ref a_st, .ref a_ho, .ref a_be, .int nc, .int nn, .int dy])), (a_kd, .inl (cI, 7, .inl kd)), (a_hd, .inl (cI, 7, .inl hd)), (a_pl, .inl (cI, 7, .inl pl)), (a_st, .inl (cI, 7, .inl st)), (a_ho, .inl (cI, 6, .inl ho_5)), (a_be, .inl (cI, 42, .inl be))]) [0, 1, 2, 4, 5, 6, 3] rfl
    have hD := hD.sub (ws' := [(h0, .inr (0, [.ref a_kd, .ref a_hd, .ref a_pl, .ref a_st, .ref a_ho, .ref a_be, .int nc, .int nn, .int dy])), (a_kd, .inl (cI, 7, .inl kd)), (a_hd, .inl (cI, 7, .inl hd)), (a_pl, .inl (cI, 7, .inl pl)), (a_st, .inl (cI, 7, .inl st)), (a_ho, .inl (cI, 6, .inl ho_5)), (a_be, .inl (cI, 42, .inl be))]) [0, 1, 2, 4, 5, 6, 3] (by decide) rfl
    exact hret ho_5 _ _ _ ls h hP hD hS dX0_goUp_43
  · have h := h.1 c_3
    refine lv_bipush (v := 9) hx hb dX0_goUp_25 (by decide) ?_
    refine lv_goto (tgt := 40) hx hb dX0_goUp_27 (by decide) ?_
    refine kSN_v (wr := [(h0, .inr (0, [.ref a_kd, .ref a_hd, .ref a_pl, .ref a_st, .ref a_ho, .ref a_be, .int nc, .int nn, .int dy])), (a_kd, .inl (cI, 7, .inl kd)), (a_hd, .inl (cI, 7, .inl hd)), (a_st, .inl (cI, 7, .inl st)), (a_be, .inl (cI, 42, .inl be)), (a_pl, .inl (cI, 7, .inl pl))]) (As := [.ref a_ho, .int x1, .int (9 : Int32)]) (n := 3) ⟨hx, hb, hml, hown, hts⟩ hK hP hD hS hA (c_X5_put l D cI cC cQ a_ho ho 6 x1 (9 : Int32) _ h) gX0_goUp_X5_put_n46 (hK.2 _ (List.mem_of_getElem? (i := 4) rfl)) (k_2) (k_5) rfl ⟨rfl, rfl⟩ yoX5_put ⟨Nat.le_of_ble_eq_true rfl, Nat.le_of_ble_eq_true rfl⟩ rfl hl.1 rfl (Nat.le_of_ble_eq_true rfl) dX0_goUp_40 ⟨Nat.zero_le _, Nat.zero_le _⟩ [5] [0, 1, 2, 3, 4, 6] rfl (by decide) rfl (by decide) (by decide) (fun ho_6 H locs h hP hD hS => ?_)
    have hP : va_P D vwCl [(h0, .inr (0, [.ref a_kd, .ref a_hd, .ref a_pl, .ref a_st, .ref a_ho, .ref a_be, .int nc, .int nn, .int dy])), (a_kd, .inl (cI, 7, .inl kd)), (a_hd, .inl (cI, 7, .inl hd)), (a_st, .inl (cI, 7, .inl st)), (a_be, .inl (cI, 42, .inl be)), (a_pl, .inl (cI, 7, .inl pl)), (a_ho, .inl (cI, 6, .inl ho_6))] H := hP
    have hD : va_D A [(h0, .inr (0, [.ref a_kd, .ref a_hd, .ref a_pl, .ref a_st, .ref a_ho, .ref a_be, .int nc, .int nn, .int dy])), (a_kd, .inl (cI, 7, .inl kd)), (a_hd, .inl (cI, 7, .inl hd)), (a_st, .inl (cI, 7, .inl st)), (a_be, .inl (cI, 42, .inl be)), (a_pl, .inl (cI, 7, .inl pl)), (a_ho, .inl (cI, 6, .inl ho_6))] := hD
    have hP := hP.sub (ws' := [(h0, .inr (0, [.ref a_kd, .ref a_hd, .ref a_pl, .ref a_st, .ref a_ho, .ref a_be, .int nc, .int nn, .int dy])), (a_kd, .inl (cI, 7, .inl kd)), (a_hd, .inl (cI, 7, .inl hd)), (a_pl, .inl (cI, 7, .inl pl)), (a_st, .inl (cI, 7, .inl st)), (a_ho, .inl (cI, 6, .inl ho_6)), (a_be, .inl (cI, 42, .inl be))]) [0, 1, 2, 5, 3, 6, 4] rfl
    have hD := hD.sub (ws' := [(h0, .inr (0, [.ref a_kd, .ref a_hd, .ref a_pl, .ref a_st, .ref a_ho, .ref a_be, .int nc, .int nn, .int dy])), (a_kd, .inl (cI, 7, .inl kd)), (a_hd, .inl (cI, 7, .inl hd)), (a_pl, .inl (cI, 7, .inl pl)), (a_st, .inl (cI, 7, .inl st)), (a_ho, .inl (cI, 6, .inl ho_6)), (a_be, .inl (cI, 42, .inl be))]) [0, 1, 2, 5, 3, 6, 4] (by decide) rfl
    exact hret ho_6 _ _ _ ls h hP hD hS dX0_goUp_43

/-! DoubtCourt$Court.nearest -/
abbrev rmX0_nearest : Room := { frames := 1, cells := 0, slots := 0, locals := 21 }
theorem yoX0_nearest : yX0_nearest.cls ≠ "java/lang/invoke/MethodHandle" ∧ yX0_nearest.cls ≠ "java/lang/invoke/VarHandle" ∧ (parseMethodDescriptor yX0_nearest.desc).map (fun d => d.parameters.length) = some 2 := by decide +kernel
set_option maxHeartbeats 4000000 in
set_option maxRecDepth 100000 in
theorem c_X0_nearest (l : Launch) (D : va_G) (cI cC cQ : ClassId) (h0 : Nat) (a_kd : Nat) (a_hd : Nat) (a_pl : Nat) (a_st : Nat) (a_ho : Nat) (a_be : Nat) (kd : Nat → Int32) (hd : Nat → Int32) (pl : Nat → Int32) (st : Nat → Int32) (ho : Nat → Int32) (be : Nat → Int32) (nc : Int32) (nn : Int32) (dy : Int32) (x1 : Int32) (x2 : Int32) (Q : Int32 → Prop) (h : wX0_nearest x1 x2 st nc Q) : Ci (S := Unit) l D cI cC cQ yX0_nearest wsX0_nearest rmX0_nearest [.ref h0, .int x1, .int x2] [(h0, .inr (0, [.ref a_kd, .ref a_hd, .ref a_pl, .ref a_st, .ref a_ho, .ref a_be, .int nc, .int nn, .int dy])), (a_kd, .inl (cI, 7, .inl kd)), (a_hd, .inl (cI, 7, .inl hd)), (a_pl, .inl (cI, 7, .inl pl)), (a_st, .inl (cI, 7, .inl st)), (a_ho, .inl (cI, 6, .inl ho)), (a_be, .inl (cI, 42, .inl be))] (fun _ => [(h0, .inr (0, [.ref a_kd, .ref a_hd, .ref a_pl, .ref a_st, .ref a_ho, .ref a_be, .int nc, .int nn, .int dy])), (a_kd, .inl (cI, 7, .inl kd)), (a_hd, .inl (cI, 7, .inl hd)), (a_pl, .inl (cI, 7, .inl pl)), (a_st, .inl (cI, 7, .inl st)), (a_ho, .inl (cI, 6, .inl ho)), (a_be, .inl (cI, 42, .inl be))]) (fun r _ => Q r) := by
  refine Ci_mk (cc := cX0_nearest) (maxL := 8) (by decide) rfl (Nat.le_of_ble_eq_true rfl) ?_
  intro p e s m args below meth c A Z ls hx hb hml hown hts hK hA hP hD hret hl
  have hS : va_S A s.heap s.heap [] := va_S.rf
  have hin0 : ∀ w ∈ u_ws RX0 TX0 9, w ∈ wsX0_nearest := by decide +kernel
  have k_0 := hts (.fieldLink RX0 30 "DoubtCourt$Court" "courtiers" "I") (by decide +kernel)
  have k_1 := hts (.fieldLink RX0 21 "DoubtCourt$Court" "sitting" "[I") (by decide +kernel)
  have k_2 := hts (.initialized RX5) (by decide +kernel)
  have k_3 := hts (.static yX5_of) (by decide +kernel)
  have k_4 := hts (.methodLink RX0 103 Lib.Math.abs.name) (by decide +kernel)
  have k_5 := hts (.static Lib.Math.abs.name) (by decide +kernel)
  have k_6 := hts (.initialized "java/lang/Math") (by decide +kernel)
  have k_7 := hts (.code Lib.Math.abs.name Lib.Math.abs.code 1 (some .int)) (by decide +kernel)
  have k_8 := hts (.static yX5_hasBit) (by decide +kernel)
  have hl : lv_has ls 8 [(0, .ref h0), (1, .int x1), (2, .int x2)] := hl
  have L9 : ∀ (n : Nat) {x1 : Int32} {x2 : Int32} {x3 : Int32} {x4 : Int32} {x5 : Int32} {H : Heap} {locs : List Loc} {ls : Array Slot}, wX0_nearest_L9 x1 x2 st nc Q n x3 x4 x5 → va_P D vwCl [(h0, .inr (0, [.ref a_kd, .ref a_hd, .ref a_pl, .ref a_st, .ref a_ho, .ref a_be, .int nc, .int nn, .int dy])), (a_kd, .inl (cI, 7, .inl kd)), (a_hd, .inl (cI, 7, .inl hd)), (a_pl, .inl (cI, 7, .inl pl)), (a_st, .inl (cI, 7, .inl st)), (a_ho, .inl (cI, 6, .inl ho)), (a_be, .inl (cI, 42, .inl be))] H → va_D A [(h0, .inr (0, [.ref a_kd, .ref a_hd, .ref a_pl, .ref a_st, .ref a_ho, .ref a_be, .int nc, .int nn, .int dy])), (a_kd, .inl (cI, 7, .inl kd)), (a_hd, .inl (cI, 7, .inl hd)), (a_pl, .inl (cI, 7, .inl pl)), (a_st, .inl (cI, 7, .inl st)), (a_ho, .inl (cI, 6, .inl ho)), (a_be, .inl (cI, 42, .inl be))] → va_S A s.heap H locs → lv_has ls 8 [(0, .ref h0), (1, .int x1), (2, .int x2), (3, .int x3), (4, .int x4), (5, .int x5)] → W p l e rmX0_nearest s m args below meth c H locs 0 0 Z (F0 m 9 ls []) := by
    intro n
    induction n with
    | zero =>
      intro x1 x2 x3 x4 x5 H locs ls h hP hD hS hl
      exact (show False from h).elim
    | succ n ih =>
      intro x1 x2 x3 x4 x5 H locs ls h hP hD hS hl
      refine lv_iload hx hb dX0_nearest_9 (lv_at hl 5 rfl) ?_
      refine lv_aload_n hx hb dX0_nearest_11 rfl (lv_at hl 0 rfl) ?_
      refine va_get (D := D) (ci := 0) (v := .int nc) (C := RX0) (T := TX0) (N := 9) hx hb hts hin0 hown hK.1 hP 0 rfl rfl 6 (by decide) (k_0) (fun _ h9 => h9) rfl dX0_nearest_12 ?_
      refine lv_icmp_ge (tgt := 67) hx hb dX0_nearest_15 (by decide) (fun c_8 => ?_) (fun c_8 => ?_)
      · have h := h.1 c_8
        refine lv_iload_n hx hb dX0_nearest_67 rfl (lv_at hl 3 rfl) ?_
        exact hret x3 () _ _ _ ls h hP hD hS dX0_nearest_68
      · have h := h.2 c_8
        refine lv_aload_n hx hb dX0_nearest_18 rfl (lv_at hl 0 rfl) ?_
        refine va_get (D := D) (ci := 0) (v := .ref a_st) (C := RX0) (T := TX0) (N := 9) hx hb hts hin0 hown hK.1 hP 0 rfl rfl 3 (by decide) (k_1) (fun _ h9 => h9) rfl dX0_nearest_19 ?_
        refine lv_iload hx hb dX0_nearest_22 (lv_at hl 5 rfl) ?_
        refine kSN_i (wr := [(h0, .inr (0, [.ref a_kd, .ref a_hd, .ref a_pl, .ref a_st, .ref a_ho, .ref a_be, .int nc, .int nn, .int dy])), (a_kd, .inl (cI, 7, .inl kd)), (a_hd, .inl (cI, 7, .inl hd)), (a_pl, .inl (cI, 7, .inl pl)), (a_ho, .inl (cI, 6, .inl ho)), (a_be, .inl (cI, 42, .inl be))]) (As := [.ref a_st, .int x5]) (n := 2) ⟨hx, hb, hml, hown, hts⟩ hK hP hD hS hA (c_X5_of l D cI cC cQ a_st st 7 x5 _ h) gX0_nearest_X5_of_n54 (hK.2 _ (List.mem_of_getElem? (i := 5) rfl)) (k_2) (k_3) rfl ⟨rfl, rfl⟩ yoX5_of ⟨Nat.le_of_ble_eq_true rfl, Nat.le_of_ble_eq_true rfl⟩ rfl hl.1 rfl (Nat.le_of_ble_eq_true rfl) dX0_nearest_24 ⟨Nat.zero_le _, Nat.zero_le _⟩ [4] [0, 1, 2, 3, 5, 6] rfl (by decide) rfl (by decide) (by decide) (fun r_9 u H locs h hP hD hS => ?_)
        have hP : va_P D vwCl [(h0, .inr (0, [.ref a_kd, .ref a_hd, .ref a_pl, .ref a_st, .ref a_ho, .ref a_be, .int nc, .int nn, .int dy])), (a_kd, .inl (cI, 7, .inl kd)), (a_hd, .inl (cI, 7, .inl hd)), (a_pl, .inl (cI, 7, .inl pl)), (a_ho, .inl (cI, 6, .inl ho)), (a_be, .inl (cI, 42, .inl be)), (a_st, .inl (cI, 7, .inl st))] H := hP
        have hD : va_D A [(h0, .inr (0, [.ref a_kd, .ref a_hd, .ref a_pl, .ref a_st, .ref a_ho, .ref a_be, .int nc, .int nn, .int dy])), (a_kd, .inl (cI, 7, .inl kd)), (a_hd, .inl (cI, 7, .inl hd)), (a_pl, .inl (cI, 7, .inl pl)), (a_ho, .inl (cI, 6, .inl ho)), (a_be, .inl (cI, 42, .inl be)), (a_st, .inl (cI, 7, .inl st))] := hD
        refine lv_istore (lv' := [(6, .int r_9), (0, .ref h0), (1, .int x1), (2, .int x2), (3, .int x3), (4, .int x4), (5, .int x5)]) hx hb dX0_nearest_27 hl (by decide) rfl (fun ls hl => ?_)
        refine lv_iload hx hb dX0_nearest_29 (lv_at hl 6 rfl) ?_
        refine lv_iload_n hx hb dX0_nearest_31 rfl (lv_at hl 3 rfl) ?_
        refine lv_isub hx hb dX0_nearest_32 ?_
        refine va_mabs hx hb (hml.trans hl.1.symm) hown (k_4) (k_5) (k_6) (k_7) (Nat.le_of_ble_eq_true rfl) (Nat.le_of_ble_eq_true rfl) (Nat.zero_le _) (Nat.zero_le _) dX0_nearest_33 ?_
        refine lv_topi (fun v_10 ev_10 => ?_)
        have h := h v_10 ev_10
        refine lv_istore (lv' := [(7, .int v_10), (6, .int r_9), (0, .ref h0), (1, .int x1), (2, .int x2), (3, .int x3), (4, .int x4), (5, .int x5)]) hx hb dX0_nearest_36 hl (by decide) rfl (fun ls hl => ?_)
        refine lv_iload_n hx hb dX0_nearest_38 rfl (lv_at hl 3 rfl) ?_
        refine lv_iload hx hb dX0_nearest_39 (lv_at hl 1 rfl) ?_
        refine kSN_i (wr := [(h0, .inr (0, [.ref a_kd, .ref a_hd, .ref a_pl, .ref a_st, .ref a_ho, .ref a_be, .int nc, .int nn, .int dy])), (a_kd, .inl (cI, 7, .inl kd)), (a_hd, .inl (cI, 7, .inl hd)), (a_pl, .inl (cI, 7, .inl pl)), (a_ho, .inl (cI, 6, .inl ho)), (a_be, .inl (cI, 42, .inl be)), (a_st, .inl (cI, 7, .inl st))]) (As := [.int x1, .int r_9]) (n := 2) ⟨hx, hb, hml, hown, hts⟩ hK hP hD hS hA (c_X5_hasBit l D cI cC cQ   x1 r_9 _ h) gX0_nearest_X5_hasBit_n96 (hK.2 _ (List.mem_of_getElem? (i := 8) rfl)) (k_2) (k_8) rfl ⟨rfl, rfl⟩ yoX5_hasBit ⟨Nat.le_of_ble_eq_true rfl, Nat.le_of_ble_eq_true rfl⟩ rfl hl.1 rfl (Nat.le_of_ble_eq_true rfl) dX0_nearest_41 ⟨Nat.zero_le _, Nat.zero_le _⟩ [] [0, 1, 2, 3, 4, 5, 6] rfl (by decide) rfl (by decide) (by decide) (fun r_11 u H locs h hP hD hS => ?_)
        have hP : va_P D vwCl [(h0, .inr (0, [.ref a_kd, .ref a_hd, .ref a_pl, .ref a_st, .ref a_ho, .ref a_be, .int nc, .int nn, .int dy])), (a_kd, .inl (cI, 7, .inl kd)), (a_hd, .inl (cI, 7, .inl hd)), (a_pl, .inl (cI, 7, .inl pl)), (a_ho, .inl (cI, 6, .inl ho)), (a_be, .inl (cI, 42, .inl be)), (a_st, .inl (cI, 7, .inl st))] H := hP
        have hD : va_D A [(h0, .inr (0, [.ref a_kd, .ref a_hd, .ref a_pl, .ref a_st, .ref a_ho, .ref a_be, .int nc, .int nn, .int dy])), (a_kd, .inl (cI, 7, .inl kd)), (a_hd, .inl (cI, 7, .inl hd)), (a_pl, .inl (cI, 7, .inl pl)), (a_ho, .inl (cI, 6, .inl ho)), (a_be, .inl (cI, 42, .inl be)), (a_st, .inl (cI, 7, .inl st))] := hD
        obtain ⟨b_12, h⟩ := h
        refine lv_if_eq (tgt := 61) hx hb dX0_nearest_44 (by decide) (fun c_13 => ?_) (fun c_13 => ?_)
        · have h := h.1 c_13
          refine lv_iinc (v := (x5 + (1 : Int32))) (lv' := [(5, .int (x5 + (1 : Int32))), (7, .int v_10), (6, .int r_9), (0, .ref h0), (1, .int x1), (2, .int x2), (3, .int x3), (4, .int x4)]) hx hb dX0_nearest_61 hl (k := 7) rfl rfl (by decide) rfl (fun ls hl => ?_)
          refine lv_goto (tgt := 9) hx hb dX0_nearest_64 (by decide) ?_
          have hP := hP.sub (ws' := [(h0, .inr (0, [.ref a_kd, .ref a_hd, .ref a_pl, .ref a_st, .ref a_ho, .ref a_be, .int nc, .int nn, .int dy])), (a_kd, .inl (cI, 7, .inl kd)), (a_hd, .inl (cI, 7, .inl hd)), (a_pl, .inl (cI, 7, .inl pl)), (a_st, .inl (cI, 7, .inl st)), (a_ho, .inl (cI, 6, .inl ho)), (a_be, .inl (cI, 42, .inl be))]) [0, 1, 2, 3, 6, 4, 5] rfl
          have hD := hD.sub (ws' := [(h0, .inr (0, [.ref a_kd, .ref a_hd, .ref a_pl, .ref a_st, .ref a_ho, .ref a_be, .int nc, .int nn, .int dy])), (a_kd, .inl (cI, 7, .inl kd)), (a_hd, .inl (cI, 7, .inl hd)), (a_pl, .inl (cI, 7, .inl pl)), (a_st, .inl (cI, 7, .inl st)), (a_ho, .inl (cI, 6, .inl ho)), (a_be, .inl (cI, 42, .inl be))]) [0, 1, 2, 3, 6, 4, 5] (by decide) rfl
          exact ih h hP hD hS (lv_sub hl [3, 4, 5, 6, 7, 0] rfl)
        · have h := h.2 c_13
          refine lv_iload hx hb dX0_nearest_47 (lv_at hl 0 rfl) ?_
          refine lv_iload hx hb dX0_nearest_49 (lv_at hl 6 rfl) ?_
          refine lv_icmp_ge (tgt := 61) hx hb dX0_nearest_51 (by decide) (fun c_14 => ?_) (fun c_14 => ?_)
          · have h := h.1 c_14
            refine lv_iinc (v := (x5 + (1 : Int32))) (lv' := [(5, .int (x5 + (1 : Int32))), (7, .int v_10), (6, .int r_9), (0, .ref h0), (1, .int x1), (2, .int x2), (3, .int x3), (4, .int x4)]) hx hb dX0_nearest_61 hl (k := 7) rfl rfl (by decide) rfl (fun ls hl => ?_)
            refine lv_goto (tgt := 9) hx hb dX0_nearest_64 (by decide) ?_
            have hP := hP.sub (ws' := [(h0, .inr (0, [.ref a_kd, .ref a_hd, .ref a_pl, .ref a_st, .ref a_ho, .ref a_be, .int nc, .int nn, .int dy])), (a_kd, .inl (cI, 7, .inl kd)), (a_hd, .inl (cI, 7, .inl hd)), (a_pl, .inl (cI, 7, .inl pl)), (a_st, .inl (cI, 7, .inl st)), (a_ho, .inl (cI, 6, .inl ho)), (a_be, .inl (cI, 42, .inl be))]) [0, 1, 2, 3, 6, 4, 5] rfl
            have hD := hD.sub (ws' := [(h0, .inr (0, [.ref a_kd, .ref a_hd, .ref a_pl, .ref a_st, .ref a_ho, .ref a_be, .int nc, .int nn, .int dy])), (a_kd, .inl (cI, 7, .inl kd)), (a_hd, .inl (cI, 7, .inl hd)), (a_pl, .inl (cI, 7, .inl pl)), (a_st, .inl (cI, 7, .inl st)), (a_ho, .inl (cI, 6, .inl ho)), (a_be, .inl (cI, 42, .inl be))]) [0, 1, 2, 3, 6, 4, 5] (by decide) rfl
            exact ih h hP hD hS (lv_sub hl [3, 4, 5, 6, 7, 0] rfl)
          · have h := h.2 c_14
            refine lv_iload hx hb dX0_nearest_54 (lv_at hl 1 rfl) ?_
            refine lv_istore_n (lv' := [(3, .int r_9), (7, .int v_10), (6, .int r_9), (0, .ref h0), (1, .int x1), (2, .int x2), (4, .int x4), (5, .int x5)]) hx hb dX0_nearest_56 rfl hl (by decide) rfl (fun ls hl => ?_)
            refine lv_iload hx hb dX0_nearest_57 (lv_at hl 1 rfl) ?_
            refine lv_istore (lv' := [(4, .int v_10), (3, .int r_9), (7, .int v_10), (6, .int r_9), (0, .ref h0), (1, .int x1), (2, .int x2), (5, .int x5)]) hx hb dX0_nearest_59 hl (by decide) rfl (fun ls hl => ?_)
            refine lv_iinc (v := (x5 + (1 : Int32))) (lv' := [(5, .int (x5 + (1 : Int32))), (4, .int v_10), (3, .int r_9), (7, .int v_10), (6, .int r_9), (0, .ref h0), (1, .int x1), (2, .int x2)]) hx hb dX0_nearest_61 hl (k := 7) rfl rfl (by decide) rfl (fun ls hl => ?_)
            refine lv_goto (tgt := 9) hx hb dX0_nearest_64 (by decide) ?_
            have hP := hP.sub (ws' := [(h0, .inr (0, [.ref a_kd, .ref a_hd, .ref a_pl, .ref a_st, .ref a_ho, .ref a_be, .int nc, .int nn, .int dy])), (a_kd, .inl (cI, 7, .inl kd)), (a_hd, .inl (cI, 7, .inl hd)), (a_pl, .inl (cI, 7, .inl pl)), (a_st, .inl (cI, 7, .inl st)), (a_ho, .inl (cI, 6, .inl ho)), (a_be, .inl (cI, 42, .inl be))]) [0, 1, 2, 3, 6, 4, 5] rfl
            have hD := hD.sub (ws' := [(h0, .inr (0, [.ref a_kd, .ref a_hd, .ref a_pl, .ref a_st, .ref a_ho, .ref a_be, .int nc, .int nn, .int dy])), (a_kd, .inl (cI, 7, .inl kd)), (a_hd, .inl (cI, 7, .inl hd)), (a_pl, .inl (cI, 7, .inl pl)), (a_st, .inl (cI, 7, .inl st)), (a_ho, .inl (cI, 6, .inl ho)), (a_be, .inl (cI, 42, .inl be))]) [0, 1, 2, 3, 6, 4, 5] (by decide) rfl
            exact ih h hP hD hS (lv_sub hl [5, 6, 7, 2, 1, 0] rfl)
  refine lv_iconst (v := 0) hx hb dX0_nearest_0 (by decide) ?_
  refine lv_istore_n (lv' := [(3, .int (0 : Int32)), (0, .ref h0), (1, .int x1), (2, .int x2)]) hx hb dX0_nearest_1 rfl hl (by decide) rfl (fun ls hl => ?_)
  refine lv_bipush (v := 14) hx hb dX0_nearest_2 (by decide) ?_
  refine lv_istore (lv' := [(4, .int (14 : Int32)), (3, .int (0 : Int32)), (0, .ref h0), (1, .int x1), (2, .int x2)]) hx hb dX0_nearest_4 hl (by decide) rfl (fun ls hl => ?_)
  refine lv_iconst (v := 0) hx hb dX0_nearest_6 (by decide) ?_
  refine lv_istore (lv' := [(5, .int (0 : Int32)), (4, .int (14 : Int32)), (3, .int (0 : Int32)), (0, .ref h0), (1, .int x1), (2, .int x2)]) hx hb dX0_nearest_7 hl (by decide) rfl (fun ls hl => ?_)
  obtain ⟨n_15, h⟩ := h
  exact L9 n_15 h hP hD hS (lv_sub hl [3, 4, 5, 2, 1, 0] rfl)

/-! DoubtCourt$Court.move -/
abbrev rmX0_move : Room := { frames := 2, cells := 0, slots := 0, locals := 48 }
theorem yoX0_move : yX0_move.cls ≠ "java/lang/invoke/MethodHandle" ∧ yX0_move.cls ≠ "java/lang/invoke/VarHandle" ∧ (parseMethodDescriptor yX0_move.desc).map (fun d => d.parameters.length) = some 2 := by decide +kernel
set_option maxHeartbeats 4000000 in
set_option maxRecDepth 100000 in
theorem c_X0_move (l : Launch) (D : va_G) (cI cC cQ : ClassId) (h0 : Nat) (a_kd : Nat) (a_hd : Nat) (a_pl : Nat) (a_st : Nat) (a_ho : Nat) (a_be : Nat) (kd : Nat → Int32) (hd : Nat → Int32) (pl : Nat → Int32) (st : Nat → Int32) (ho : Nat → Int32) (be : Nat → Int32) (nc : Int32) (nn : Int32) (dy : Int32) (x1 : Int32) (x2 : Int32) (Q : (Nat → Int32) → Prop) (h : wX0_move x1 x2 pl st ho nc Q) : Cv (S := (Nat → Int32)) l D cI cC cQ yX0_move wsX0_move rmX0_move [.ref h0, .int x1, .int x2] [(h0, .inr (0, [.ref a_kd, .ref a_hd, .ref a_pl, .ref a_st, .ref a_ho, .ref a_be, .int nc, .int nn, .int dy])), (a_kd, .inl (cI, 7, .inl kd)), (a_hd, .inl (cI, 7, .inl hd)), (a_pl, .inl (cI, 7, .inl pl)), (a_st, .inl (cI, 7, .inl st)), (a_ho, .inl (cI, 6, .inl ho)), (a_be, .inl (cI, 42, .inl be))] (fun u => [(h0, .inr (0, [.ref a_kd, .ref a_hd, .ref a_pl, .ref a_st, .ref a_ho, .ref a_be, .int nc, .int nn, .int dy])), (a_kd, .inl (cI, 7, .inl kd)), (a_hd, .inl (cI, 7, .inl hd)), (a_pl, .inl (cI, 7, .inl pl)), (a_st, .inl (cI, 7, .inl st)), (a_ho, .inl (cI, 6, .inl u)), (a_be, .inl (cI, 42, .inl be))]) (fun u => Q u) := by
  refine Cv_mk (cc := cX0_move) (maxL := 3) (by decide) rfl (Nat.le_of_ble_eq_true rfl) ?_
  intro p e s m args below meth c A Z ls hx hb hml hown hts hK hA hP hD hret hl
  have hS : va_S A s.heap s.heap [] := va_S.rf
  have hin0 : ∀ w ∈ u_ws RX0 TX0 9, w ∈ wsX0_move := by decide +kernel
  have k_0 := hts (.fieldLink RX0 24 "DoubtCourt$Court" "holder" "[I") (by decide +kernel)
  have k_1 := hts (.initialized RX5) (by decide +kernel)
  have k_2 := hts (.static yX5_of) (by decide +kernel)
  have k_3 := hts (.static yX5_hasBit) (by decide +kernel)
  have k_4 := hts (.fieldLink RX0 18 "DoubtCourt$Court" "place" "[I") (by decide +kernel)
  have k_5 := hts (.static yX5_put) (by decide +kernel)
  have hl : lv_has ls 3 [(0, .ref h0), (1, .int x1), (2, .int x2)] := hl
  refine lv_iload_n hx hb dX0_move_0 rfl (lv_at hl 2 rfl) ?_
  refine lv_aload_n hx hb dX0_move_1 rfl (lv_at hl 0 rfl) ?_
  refine va_get (D := D) (ci := 0) (v := .ref a_ho) (C := RX0) (T := TX0) (N := 9) hx hb hts hin0 hown hK.1 hP 0 rfl rfl 4 (by decide) (k_0) (fun _ h9 => h9) rfl dX0_move_2 ?_
  refine lv_iload_n hx hb dX0_move_5 rfl (lv_at hl 1 rfl) ?_
  refine kSN_i (wr := [(h0, .inr (0, [.ref a_kd, .ref a_hd, .ref a_pl, .ref a_st, .ref a_ho, .ref a_be, .int nc, .int nn, .int dy])), (a_kd, .inl (cI, 7, .inl kd)), (a_hd, .inl (cI, 7, .inl hd)), (a_pl, .inl (cI, 7, .inl pl)), (a_st, .inl (cI, 7, .inl st)), (a_be, .inl (cI, 42, .inl be))]) (As := [.ref a_ho, .int x1]) (n := 2) ⟨hx, hb, hml, hown, hts⟩ hK hP hD hS hA (c_X5_of l D cI cC cQ a_ho ho 6 x1 _ h) gX0_move_X5_of_n54 (hK.2 _ (List.mem_of_getElem? (i := 5) rfl)) (k_1) (k_2) rfl ⟨rfl, rfl⟩ yoX5_of ⟨Nat.le_of_ble_eq_true rfl, Nat.le_of_ble_eq_true rfl⟩ rfl hl.1 rfl (Nat.le_of_ble_eq_true rfl) dX0_move_6 ⟨Nat.zero_le _, Nat.zero_le _⟩ [5] [0, 1, 2, 3, 4, 6] rfl (by decide) rfl (by decide) (by decide) (fun r_1 u H locs h hP hD hS => ?_)
  have hP : va_P D vwCl [(h0, .inr (0, [.ref a_kd, .ref a_hd, .ref a_pl, .ref a_st, .ref a_ho, .ref a_be, .int nc, .int nn, .int dy])), (a_kd, .inl (cI, 7, .inl kd)), (a_hd, .inl (cI, 7, .inl hd)), (a_pl, .inl (cI, 7, .inl pl)), (a_st, .inl (cI, 7, .inl st)), (a_be, .inl (cI, 42, .inl be)), (a_ho, .inl (cI, 6, .inl ho))] H := hP
  have hD : va_D A [(h0, .inr (0, [.ref a_kd, .ref a_hd, .ref a_pl, .ref a_st, .ref a_ho, .ref a_be, .int nc, .int nn, .int dy])), (a_kd, .inl (cI, 7, .inl kd)), (a_hd, .inl (cI, 7, .inl hd)), (a_pl, .inl (cI, 7, .inl pl)), (a_st, .inl (cI, 7, .inl st)), (a_be, .inl (cI, 42, .inl be)), (a_ho, .inl (cI, 6, .inl ho))] := hD
  refine kSN_i (wr := [(h0, .inr (0, [.ref a_kd, .ref a_hd, .ref a_pl, .ref a_st, .ref a_ho, .ref a_be, .int nc, .int nn, .int dy])), (a_kd, .inl (cI, 7, .inl kd)), (a_hd, .inl (cI, 7, .inl hd)), (a_pl, .inl (cI, 7, .inl pl)), (a_st, .inl (cI, 7, .inl st)), (a_be, .inl (cI, 42, .inl be)), (a_ho, .inl (cI, 6, .inl ho))]) (As := [.int x2, .int r_1]) (n := 2) ⟨hx, hb, hml, hown, hts⟩ hK hP hD hS hA (c_X5_hasBit l D cI cC cQ   x2 r_1 _ h) gX0_move_X5_hasBit_n96 (hK.2 _ (List.mem_of_getElem? (i := 8) rfl)) (k_1) (k_3) rfl ⟨rfl, rfl⟩ yoX5_hasBit ⟨Nat.le_of_ble_eq_true rfl, Nat.le_of_ble_eq_true rfl⟩ rfl hl.1 rfl (Nat.le_of_ble_eq_true rfl) dX0_move_9 ⟨Nat.zero_le _, Nat.zero_le _⟩ [] [0, 1, 2, 3, 4, 5, 6] rfl (by decide) rfl (by decide) (by decide) (fun r_2 u H locs h hP hD hS => ?_)
  have hP : va_P D vwCl [(h0, .inr (0, [.ref a_kd, .ref a_hd, .ref a_pl, .ref a_st, .ref a_ho, .ref a_be, .int nc, .int nn, .int dy])), (a_kd, .inl (cI, 7, .inl kd)), (a_hd, .inl (cI, 7, .inl hd)), (a_pl, .inl (cI, 7, .inl pl)), (a_st, .inl (cI, 7, .inl st)), (a_be, .inl (cI, 42, .inl be)), (a_ho, .inl (cI, 6, .inl ho))] H := hP
  have hD : va_D A [(h0, .inr (0, [.ref a_kd, .ref a_hd, .ref a_pl, .ref a_st, .ref a_ho, .ref a_be, .int nc, .int nn, .int dy])), (a_kd, .inl (cI, 7, .inl kd)), (a_hd, .inl (cI, 7, .inl hd)), (a_pl, .inl (cI, 7, .inl pl)), (a_st, .inl (cI, 7, .inl st)), (a_be, .inl (cI, 42, .inl be)), (a_ho, .inl (cI, 6, .inl ho))] := hD
  obtain ⟨b_3, h⟩ := h
  refine lv_if_eq (tgt := 23) hx hb dX0_move_12 (by decide) (fun c_4 => ?_) (fun c_4 => ?_)
  · have h := h.1 c_4
    refine lv_iload_n hx hb dX0_move_23 rfl (lv_at hl 2 rfl) ?_
    refine lv_if_eq (tgt := 55) hx hb dX0_move_24 (by decide) (fun c_5 => ?_) (fun c_5 => ?_)
    · have h := h.1 c_5
      have hP := hP.sub (ws' := [(h0, .inr (0, [.ref a_kd, .ref a_hd, .ref a_pl, .ref a_st, .ref a_ho, .ref a_be, .int nc, .int nn, .int dy])), (a_kd, .inl (cI, 7, .inl kd)), (a_hd, .inl (cI, 7, .inl hd)), (a_pl, .inl (cI, 7, .inl pl)), (a_st, .inl (cI, 7, .inl st)), (a_ho, .inl (cI, 6, .inl ho)), (a_be, .inl (cI, 42, .inl be))]) [0, 1, 2, 3, 4, 6, 5] rfl
      have hD := hD.sub (ws' := [(h0, .inr (0, [.ref a_kd, .ref a_hd, .ref a_pl, .ref a_st, .ref a_ho, .ref a_be, .int nc, .int nn, .int dy])), (a_kd, .inl (cI, 7, .inl kd)), (a_hd, .inl (cI, 7, .inl hd)), (a_pl, .inl (cI, 7, .inl pl)), (a_st, .inl (cI, 7, .inl st)), (a_ho, .inl (cI, 6, .inl ho)), (a_be, .inl (cI, 42, .inl be))]) [0, 1, 2, 3, 4, 6, 5] (by decide) rfl
      exact hret ho _ _ _ ls h hP hD hS dX0_move_55
    · have h := h.2 c_5
      refine lv_aload_n hx hb dX0_move_27 rfl (lv_at hl 0 rfl) ?_
      refine va_get (D := D) (ci := 0) (v := .ref a_ho) (C := RX0) (T := TX0) (N := 9) hx hb hts hin0 hown hK.1 hP 0 rfl rfl 4 (by decide) (k_0) (fun _ h9 => h9) rfl dX0_move_28 ?_
      refine lv_iload_n hx hb dX0_move_31 rfl (lv_at hl 1 rfl) ?_
      refine lv_aload_n hx hb dX0_move_32 rfl (lv_at hl 0 rfl) ?_
      refine lv_iload_n hx hb dX0_move_33 rfl (lv_at hl 2 rfl) ?_
      refine lv_aload_n hx hb dX0_move_34 rfl (lv_at hl 0 rfl) ?_
      refine va_get (D := D) (ci := 0) (v := .ref a_pl) (C := RX0) (T := TX0) (N := 9) hx hb hts hin0 hown hK.1 hP 0 rfl rfl 2 (by decide) (k_4) (fun _ h9 => h9) rfl dX0_move_35 ?_
      refine lv_aload_n hx hb dX0_move_38 rfl (lv_at hl 0 rfl) ?_
      refine va_get (D := D) (ci := 0) (v := .ref a_ho) (C := RX0) (T := TX0) (N := 9) hx hb hts hin0 hown hK.1 hP 0 rfl rfl 4 (by decide) (k_0) (fun _ h9 => h9) rfl dX0_move_39 ?_
      refine lv_iload_n hx hb dX0_move_42 rfl (lv_at hl 1 rfl) ?_
      refine kSN_i (wr := [(h0, .inr (0, [.ref a_kd, .ref a_hd, .ref a_pl, .ref a_st, .ref a_ho, .ref a_be, .int nc, .int nn, .int dy])), (a_kd, .inl (cI, 7, .inl kd)), (a_hd, .inl (cI, 7, .inl hd)), (a_pl, .inl (cI, 7, .inl pl)), (a_st, .inl (cI, 7, .inl st)), (a_be, .inl (cI, 42, .inl be))]) (As := [.ref a_ho, .int x1]) (n := 2) ⟨hx, hb, hml, hown, hts⟩ hK hP hD hS hA (c_X5_of l D cI cC cQ a_ho ho 6 x1 _ h) gX0_move_X5_of_n54 (hK.2 _ (List.mem_of_getElem? (i := 5) rfl)) (k_1) (k_2) rfl ⟨rfl, rfl⟩ yoX5_of ⟨Nat.le_of_ble_eq_true rfl, Nat.le_of_ble_eq_true rfl⟩ rfl hl.1 rfl (Nat.le_of_ble_eq_true rfl) dX0_move_43 ⟨Nat.zero_le _, Nat.zero_le _⟩ [6] [0, 1, 2, 3, 4, 5] rfl (by decide) rfl (by decide) (by decide) (fun r_6 u H locs h hP hD hS => ?_)
      have hP : va_P D vwCl [(h0, .inr (0, [.ref a_kd, .ref a_hd, .ref a_pl, .ref a_st, .ref a_ho, .ref a_be, .int nc, .int nn, .int dy])), (a_kd, .inl (cI, 7, .inl kd)), (a_hd, .inl (cI, 7, .inl hd)), (a_pl, .inl (cI, 7, .inl pl)), (a_st, .inl (cI, 7, .inl st)), (a_be, .inl (cI, 42, .inl be)), (a_ho, .inl (cI, 6, .inl ho))] H := hP
      have hD : va_D A [(h0, .inr (0, [.ref a_kd, .ref a_hd, .ref a_pl, .ref a_st, .ref a_ho, .ref a_be, .int nc, .int nn, .int dy])), (a_kd, .inl (cI, 7, .inl kd)), (a_hd, .inl (cI, 7, .inl hd)), (a_pl, .inl (cI, 7, .inl pl)), (a_st, .inl (cI, 7, .inl st)), (a_be, .inl (cI, 42, .inl be)), (a_ho, .inl (cI, 6, .inl ho))] := hD
      refine kSN_i (wr := [(h0, .inr (0, [.ref a_kd, .ref a_hd, .ref a_pl, .ref a_st, .ref a_ho, .ref a_be, .int nc, .int nn, .int dy])), (a_kd, .inl (cI, 7, .inl kd)), (a_hd, .inl (cI, 7, .inl hd)), (a_st, .inl (cI, 7, .inl st)), (a_be, .inl (cI, 42, .inl be)), (a_ho, .inl (cI, 6, .inl ho))]) (As := [.ref a_pl, .int r_6]) (n := 2) ⟨hx, hb, hml, hown, hts⟩ hK hP hD hS hA (c_X5_of l D cI cC cQ a_pl pl 7 r_6 _ h) gX0_move_X5_of_n54 (hK.2 _ (List.mem_of_getElem? (i := 5) rfl)) (k_1) (k_2) rfl ⟨rfl, rfl⟩ yoX5_of ⟨Nat.le_of_ble_eq_true rfl, Nat.le_of_ble_eq_true rfl⟩ rfl hl.1 rfl (Nat.le_of_ble_eq_true rfl) dX0_move_46 ⟨Nat.zero_le _, Nat.zero_le _⟩ [3] [0, 1, 2, 4, 5, 6] rfl (by decide) rfl (by decide) (by decide) (fun r_7 u H locs h hP hD hS => ?_)
      have hP : va_P D vwCl [(h0, .inr (0, [.ref a_kd, .ref a_hd, .ref a_pl, .ref a_st, .ref a_ho, .ref a_be, .int nc, .int nn, .int dy])), (a_kd, .inl (cI, 7, .inl kd)), (a_hd, .inl (cI, 7, .inl hd)), (a_st, .inl (cI, 7, .inl st)), (a_be, .inl (cI, 42, .inl be)), (a_ho, .inl (cI, 6, .inl ho)), (a_pl, .inl (cI, 7, .inl pl))] H := hP
      have hD : va_D A [(h0, .inr (0, [.ref a_kd, .ref a_hd, .ref a_pl, .ref a_st, .ref a_ho, .ref a_be, .int nc, .int nn, .int dy])), (a_kd, .inl (cI, 7, .inl kd)), (a_hd, .inl (cI, 7, .inl hd)), (a_st, .inl (cI, 7, .inl st)), (a_be, .inl (cI, 42, .inl be)), (a_ho, .inl (cI, 6, .inl ho)), (a_pl, .inl (cI, 7, .inl pl))] := hD
      refine kV_i (wr := []) (As := [.int x2, .int r_7]) (n := 2) ⟨hx, hb, hml, hown, hts⟩ hK hP hD hS hA (c_X0_nearest l D cI cC cQ h0 a_kd a_hd a_pl a_st a_ho a_be kd hd pl st ho be nc nn dy x2 r_7 _ h) gX0_move_X0_nearest rfl rfl ⟨rfl, rfl⟩ yoX0_nearest ⟨Nat.le_of_ble_eq_true rfl, Nat.le_of_ble_eq_true rfl⟩ (q0 := 0) (ci := 0) rfl rfl rfl rfl hl.1 rfl (Nat.le_of_ble_eq_true rfl) dX0_move_49 ⟨Nat.zero_le _, Nat.zero_le _⟩ [0, 1, 2, 6, 3, 5, 4] [] rfl (by decide) rfl (by decide) (by decide) (fun r_8 u H locs h hP hD hS => ?_)
      have hP : va_P D vwCl [(h0, .inr (0, [.ref a_kd, .ref a_hd, .ref a_pl, .ref a_st, .ref a_ho, .ref a_be, .int nc, .int nn, .int dy])), (a_kd, .inl (cI, 7, .inl kd)), (a_hd, .inl (cI, 7, .inl hd)), (a_pl, .inl (cI, 7, .inl pl)), (a_st, .inl (cI, 7, .inl st)), (a_ho, .inl (cI, 6, .inl ho)), (a_be, .inl (cI, 42, .inl be))] H := hP
      have hD : va_D A [(h0, .inr (0, [.ref a_kd, .ref a_hd, .ref a_pl, .ref a_st, .ref a_ho, .ref a_be, .int nc, .int nn, .int dy])), (a_kd, .inl (cI, 7, .inl kd)), (a_hd, .inl (cI, 7, .inl hd)), (a_pl, .inl (cI, 7, .inl pl)), (a_st, .inl (cI, 7, .inl st)), (a_ho, .inl (cI, 6, .inl ho)), (a_be, .inl (cI, 42, .inl be))] := hD
      refine kSN_v (wr := [(h0, .inr (0, [.ref a_kd, .ref a_hd, .ref a_pl, .ref a_st, .ref a_ho, .ref a_be, .int nc, .int nn, .int dy])), (a_kd, .inl (cI, 7, .inl kd)), (a_hd, .inl (cI, 7, .inl hd)), (a_pl, .inl (cI, 7, .inl pl)), (a_st, .inl (cI, 7, .inl st)), (a_be, .inl (cI, 42, .inl be))]) (As := [.ref a_ho, .int x1, .int r_8]) (n := 3) ⟨hx, hb, hml, hown, hts⟩ hK hP hD hS hA (c_X5_put l D cI cC cQ a_ho ho 6 x1 r_8 _ h) gX0_move_X5_put_n46 (hK.2 _ (List.mem_of_getElem? (i := 4) rfl)) (k_1) (k_5) rfl ⟨rfl, rfl⟩ yoX5_put ⟨Nat.le_of_ble_eq_true rfl, Nat.le_of_ble_eq_true rfl⟩ rfl hl.1 rfl (Nat.le_of_ble_eq_true rfl) dX0_move_52 ⟨Nat.zero_le _, Nat.zero_le _⟩ [5] [0, 1, 2, 3, 4, 6] rfl (by decide) rfl (by decide) (by decide) (fun ho_9 H locs h hP hD hS => ?_)
      have hP : va_P D vwCl [(h0, .inr (0, [.ref a_kd, .ref a_hd, .ref a_pl, .ref a_st, .ref a_ho, .ref a_be, .int nc, .int nn, .int dy])), (a_kd, .inl (cI, 7, .inl kd)), (a_hd, .inl (cI, 7, .inl hd)), (a_pl, .inl (cI, 7, .inl pl)), (a_st, .inl (cI, 7, .inl st)), (a_be, .inl (cI, 42, .inl be)), (a_ho, .inl (cI, 6, .inl ho_9))] H := hP
      have hD : va_D A [(h0, .inr (0, [.ref a_kd, .ref a_hd, .ref a_pl, .ref a_st, .ref a_ho, .ref a_be, .int nc, .int nn, .int dy])), (a_kd, .inl (cI, 7, .inl kd)), (a_hd, .inl (cI, 7, .inl hd)), (a_pl, .inl (cI, 7, .inl pl)), (a_st, .inl (cI, 7, .inl st)), (a_be, .inl (cI, 42, .inl be)), (a_ho, .inl (cI, 6, .inl ho_9))] := hD
      have hP := hP.sub (ws' := [(h0, .inr (0, [.ref a_kd, .ref a_hd, .ref a_pl, .ref a_st, .ref a_ho, .ref a_be, .int nc, .int nn, .int dy])), (a_kd, .inl (cI, 7, .inl kd)), (a_hd, .inl (cI, 7, .inl hd)), (a_pl, .inl (cI, 7, .inl pl)), (a_st, .inl (cI, 7, .inl st)), (a_ho, .inl (cI, 6, .inl ho_9)), (a_be, .inl (cI, 42, .inl be))]) [0, 1, 2, 3, 4, 6, 5] rfl
      have hD := hD.sub (ws' := [(h0, .inr (0, [.ref a_kd, .ref a_hd, .ref a_pl, .ref a_st, .ref a_ho, .ref a_be, .int nc, .int nn, .int dy])), (a_kd, .inl (cI, 7, .inl kd)), (a_hd, .inl (cI, 7, .inl hd)), (a_pl, .inl (cI, 7, .inl pl)), (a_st, .inl (cI, 7, .inl st)), (a_ho, .inl (cI, 6, .inl ho_9)), (a_be, .inl (cI, 42, .inl be))]) [0, 1, 2, 3, 4, 6, 5] (by decide) rfl
      exact hret ho_9 _ _ _ ls h hP hD hS dX0_move_55
  · have h := h.2 c_4
    refine lv_aload_n hx hb dX0_move_15 rfl (lv_at hl 0 rfl) ?_
    refine lv_iload_n hx hb dX0_move_16 rfl (lv_at hl 1 rfl) ?_
    refine kV_v (wr := []) (As := [.int x1]) (n := 1) ⟨hx, hb, hml, hown, hts⟩ hK hP hD hS hA (c_X0_goUp l D cI cC cQ h0 a_kd a_hd a_pl a_st a_ho a_be kd hd pl st ho be nc nn dy x1 _ h) gX0_move_X0_goUp rfl rfl ⟨rfl, rfl⟩ yoX0_goUp ⟨Nat.le_of_ble_eq_true rfl, Nat.le_of_ble_eq_true rfl⟩ (q0 := 0) (ci := 0) rfl rfl rfl rfl hl.1 rfl (Nat.le_of_ble_eq_true rfl) dX0_move_17 ⟨Nat.zero_le _, Nat.zero_le _⟩ [0, 1, 2, 3, 4, 6, 5] [] rfl (by decide) rfl (by decide) (by decide) (fun ho_10 H locs h hP hD hS => ?_)
    have hP : va_P D vwCl [(h0, .inr (0, [.ref a_kd, .ref a_hd, .ref a_pl, .ref a_st, .ref a_ho, .ref a_be, .int nc, .int nn, .int dy])), (a_kd, .inl (cI, 7, .inl kd)), (a_hd, .inl (cI, 7, .inl hd)), (a_pl, .inl (cI, 7, .inl pl)), (a_st, .inl (cI, 7, .inl st)), (a_ho, .inl (cI, 6, .inl ho_10)), (a_be, .inl (cI, 42, .inl be))] H := hP
    have hD : va_D A [(h0, .inr (0, [.ref a_kd, .ref a_hd, .ref a_pl, .ref a_st, .ref a_ho, .ref a_be, .int nc, .int nn, .int dy])), (a_kd, .inl (cI, 7, .inl kd)), (a_hd, .inl (cI, 7, .inl hd)), (a_pl, .inl (cI, 7, .inl pl)), (a_st, .inl (cI, 7, .inl st)), (a_ho, .inl (cI, 6, .inl ho_10)), (a_be, .inl (cI, 42, .inl be))] := hD
    refine lv_goto (tgt := 55) hx hb dX0_move_20 (by decide) ?_
    exact hret ho_10 _ _ _ ls h hP hD hS dX0_move_55

/-! DoubtCourt$Court.change -/
abbrev rmX0_change : Room := { frames := 1, cells := 0, slots := 0, locals := 21 }
theorem yoX0_change : yX0_change.cls ≠ "java/lang/invoke/MethodHandle" ∧ yX0_change.cls ≠ "java/lang/invoke/VarHandle" ∧ (parseMethodDescriptor yX0_change.desc).map (fun d => d.parameters.length) = some 3 := by decide +kernel
set_option maxHeartbeats 4000000 in
set_option maxRecDepth 100000 in
theorem c_X0_change (l : Launch) (D : va_G) (cI cC cQ : ClassId) (h0 : Nat) (a_kd : Nat) (a_hd : Nat) (a_pl : Nat) (a_st : Nat) (a_ho : Nat) (a_be : Nat) (kd : Nat → Int32) (hd : Nat → Int32) (pl : Nat → Int32) (st : Nat → Int32) (ho : Nat → Int32) (be : Nat → Int32) (nc : Int32) (nn : Int32) (dy : Int32) (x1 : Int32) (x2 : Int32) (x3 : Int32) (Q : Int32 → Prop) (h : wX0_change x1 x2 x3 kd hd ho Q) : Ci (S := Unit) l D cI cC cQ yX0_change wsX0_change rmX0_change [.ref h0, .int x1, .int x2, .int x3] [(h0, .inr (0, [.ref a_kd, .ref a_hd, .ref a_pl, .ref a_st, .ref a_ho, .ref a_be, .int nc, .int nn, .int dy])), (a_kd, .inl (cI, 7, .inl kd)), (a_hd, .inl (cI, 7, .inl hd)), (a_pl, .inl (cI, 7, .inl pl)), (a_st, .inl (cI, 7, .inl st)), (a_ho, .inl (cI, 6, .inl ho)), (a_be, .inl (cI, 42, .inl be))] (fun _ => [(h0, .inr (0, [.ref a_kd, .ref a_hd, .ref a_pl, .ref a_st, .ref a_ho, .ref a_be, .int nc, .int nn, .int dy])), (a_kd, .inl (cI, 7, .inl kd)), (a_hd, .inl (cI, 7, .inl hd)), (a_pl, .inl (cI, 7, .inl pl)), (a_st, .inl (cI, 7, .inl st)), (a_ho, .inl (cI, 6, .inl ho)), (a_be, .inl (cI, 42, .inl be))]) (fun r _ => Q r) := by
  refine Ci_mk (cc := cX0_change) (maxL := 6) (by decide) rfl (Nat.le_of_ble_eq_true rfl) ?_
  intro p e s m args below meth c A Z ls hx hb hml hown hts hK hA hP hD hret hl
  have hS : va_S A s.heap s.heap [] := va_S.rf
  have hin0 : ∀ w ∈ u_ws RX0 TX0 9, w ∈ wsX0_change := by decide +kernel
  have k_0 := hts (.fieldLink RX0 15 "DoubtCourt$Court" "heeded" "[I") (by decide +kernel)
  have k_1 := hts (.initialized RX5) (by decide +kernel)
  have k_2 := hts (.static yX5_of) (by decide +kernel)
  have k_3 := hts (.fieldLink RX0 9 "DoubtCourt$Court" "kind" "[I") (by decide +kernel)
  have k_4 := hts (.fieldLink RX0 24 "DoubtCourt$Court" "holder" "[I") (by decide +kernel)
  have k_5 := hts (.static yX5_hasBit) (by decide +kernel)
  have hl : lv_has ls 6 [(0, .ref h0), (1, .int x1), (2, .int x2), (3, .int x3)] := hl
  refine lv_aload_n hx hb dX0_change_0 rfl (lv_at hl 0 rfl) ?_
  refine va_get (D := D) (ci := 0) (v := .ref a_hd) (C := RX0) (T := TX0) (N := 9) hx hb hts hin0 hown hK.1 hP 0 rfl rfl 1 (by decide) (k_0) (fun _ h9 => h9) rfl dX0_change_1 ?_
  refine lv_iload_n hx hb dX0_change_4 rfl (lv_at hl 1 rfl) ?_
  refine kSN_i (wr := [(h0, .inr (0, [.ref a_kd, .ref a_hd, .ref a_pl, .ref a_st, .ref a_ho, .ref a_be, .int nc, .int nn, .int dy])), (a_kd, .inl (cI, 7, .inl kd)), (a_pl, .inl (cI, 7, .inl pl)), (a_st, .inl (cI, 7, .inl st)), (a_ho, .inl (cI, 6, .inl ho)), (a_be, .inl (cI, 42, .inl be))]) (As := [.ref a_hd, .int x1]) (n := 2) ⟨hx, hb, hml, hown, hts⟩ hK hP hD hS hA (c_X5_of l D cI cC cQ a_hd hd 7 x1 _ h) gX0_change_X5_of_n54 (hK.2 _ (List.mem_of_getElem? (i := 5) rfl)) (k_1) (k_2) rfl ⟨rfl, rfl⟩ yoX5_of ⟨Nat.le_of_ble_eq_true rfl, Nat.le_of_ble_eq_true rfl⟩ rfl hl.1 rfl (Nat.le_of_ble_eq_true rfl) dX0_change_5 ⟨Nat.zero_le _, Nat.zero_le _⟩ [2] [0, 1, 3, 4, 5, 6] rfl (by decide) rfl (by decide) (by decide) (fun r_1 u H locs h hP hD hS => ?_)
  have hP : va_P D vwCl [(h0, .inr (0, [.ref a_kd, .ref a_hd, .ref a_pl, .ref a_st, .ref a_ho, .ref a_be, .int nc, .int nn, .int dy])), (a_kd, .inl (cI, 7, .inl kd)), (a_pl, .inl (cI, 7, .inl pl)), (a_st, .inl (cI, 7, .inl st)), (a_ho, .inl (cI, 6, .inl ho)), (a_be, .inl (cI, 42, .inl be)), (a_hd, .inl (cI, 7, .inl hd))] H := hP
  have hD : va_D A [(h0, .inr (0, [.ref a_kd, .ref a_hd, .ref a_pl, .ref a_st, .ref a_ho, .ref a_be, .int nc, .int nn, .int dy])), (a_kd, .inl (cI, 7, .inl kd)), (a_pl, .inl (cI, 7, .inl pl)), (a_st, .inl (cI, 7, .inl st)), (a_ho, .inl (cI, 6, .inl ho)), (a_be, .inl (cI, 42, .inl be)), (a_hd, .inl (cI, 7, .inl hd))] := hD
  refine lv_istore (lv' := [(4, .int r_1), (0, .ref h0), (1, .int x1), (2, .int x2), (3, .int x3)]) hx hb dX0_change_8 hl (by decide) rfl (fun ls hl => ?_)
  refine lv_iload hx hb dX0_change_10 (lv_at hl 0 rfl) ?_
  refine lv_bipush (v := -4) hx hb dX0_change_12 (by decide) ?_
  refine lv_icmp_eq (tgt := 30) hx hb dX0_change_14 (by decide) (fun c_2 => ?_) (fun c_2 => ?_)
  · have h := h.1 c_2
    refine lv_iconst (v := 0) hx hb dX0_change_30 (by decide) ?_
    refine lv_istore (lv' := [(5, .int (0 : Int32)), (4, .int r_1), (0, .ref h0), (1, .int x1), (2, .int x2), (3, .int x3)]) hx hb dX0_change_31 hl (by decide) rfl (fun ls hl => ?_)
    refine lv_aload_n hx hb dX0_change_33 rfl (lv_at hl 2 rfl) ?_
    refine va_get (D := D) (ci := 0) (v := .ref a_kd) (C := RX0) (T := TX0) (N := 9) hx hb hts hin0 hown hK.1 hP 0 rfl rfl 0 (by decide) (k_3) (fun _ h9 => h9) rfl dX0_change_34 ?_
    refine lv_iload_n hx hb dX0_change_37 rfl (lv_at hl 3 rfl) ?_
    refine kSN_i (wr := [(h0, .inr (0, [.ref a_kd, .ref a_hd, .ref a_pl, .ref a_st, .ref a_ho, .ref a_be, .int nc, .int nn, .int dy])), (a_pl, .inl (cI, 7, .inl pl)), (a_st, .inl (cI, 7, .inl st)), (a_ho, .inl (cI, 6, .inl ho)), (a_be, .inl (cI, 42, .inl be)), (a_hd, .inl (cI, 7, .inl hd))]) (As := [.ref a_kd, .int x1]) (n := 2) ⟨hx, hb, hml, hown, hts⟩ hK hP hD hS hA (c_X5_of l D cI cC cQ a_kd kd 7 x1 _ h) gX0_change_X5_of_n54 (hK.2 _ (List.mem_of_getElem? (i := 5) rfl)) (k_1) (k_2) rfl ⟨rfl, rfl⟩ yoX5_of ⟨Nat.le_of_ble_eq_true rfl, Nat.le_of_ble_eq_true rfl⟩ rfl hl.1 rfl (Nat.le_of_ble_eq_true rfl) dX0_change_38 ⟨Nat.zero_le _, Nat.zero_le _⟩ [1] [0, 2, 3, 4, 5, 6] rfl (by decide) rfl (by decide) (by decide) (fun r_3 u H locs h hP hD hS => ?_)
    have hP : va_P D vwCl [(h0, .inr (0, [.ref a_kd, .ref a_hd, .ref a_pl, .ref a_st, .ref a_ho, .ref a_be, .int nc, .int nn, .int dy])), (a_pl, .inl (cI, 7, .inl pl)), (a_st, .inl (cI, 7, .inl st)), (a_ho, .inl (cI, 6, .inl ho)), (a_be, .inl (cI, 42, .inl be)), (a_hd, .inl (cI, 7, .inl hd)), (a_kd, .inl (cI, 7, .inl kd))] H := hP
    have hD : va_D A [(h0, .inr (0, [.ref a_kd, .ref a_hd, .ref a_pl, .ref a_st, .ref a_ho, .ref a_be, .int nc, .int nn, .int dy])), (a_pl, .inl (cI, 7, .inl pl)), (a_st, .inl (cI, 7, .inl st)), (a_ho, .inl (cI, 6, .inl ho)), (a_be, .inl (cI, 42, .inl be)), (a_hd, .inl (cI, 7, .inl hd)), (a_kd, .inl (cI, 7, .inl kd))] := hD
    rcases sw_3 r_3 with c_4 | c_4 | c_4 | c_4 | c_4
    · have h := h.1 c_4
      refine lv_tableOut (tgt := 112) hx hb dX0_change_41 c_4 (by decide) ?_
      refine lv_iconst (v := 0) hx hb dX0_change_112 (by decide) ?_
      have hP := hP.sub (ws' := [(h0, .inr (0, [.ref a_kd, .ref a_hd, .ref a_pl, .ref a_st, .ref a_ho, .ref a_be, .int nc, .int nn, .int dy])), (a_kd, .inl (cI, 7, .inl kd)), (a_hd, .inl (cI, 7, .inl hd)), (a_pl, .inl (cI, 7, .inl pl)), (a_st, .inl (cI, 7, .inl st)), (a_ho, .inl (cI, 6, .inl ho)), (a_be, .inl (cI, 42, .inl be))]) [0, 6, 5, 1, 2, 3, 4] rfl
      have hD := hD.sub (ws' := [(h0, .inr (0, [.ref a_kd, .ref a_hd, .ref a_pl, .ref a_st, .ref a_ho, .ref a_be, .int nc, .int nn, .int dy])), (a_kd, .inl (cI, 7, .inl kd)), (a_hd, .inl (cI, 7, .inl hd)), (a_pl, .inl (cI, 7, .inl pl)), (a_st, .inl (cI, 7, .inl st)), (a_ho, .inl (cI, 6, .inl ho)), (a_be, .inl (cI, 42, .inl be))]) [0, 6, 5, 1, 2, 3, 4] (by decide) rfl
      exact hret (0 : Int32) () _ _ _ ls h hP hD hS dX0_change_113
    · have h := h.2.1 c_4
      refine lv_tableIn (tgt := 72) (off := 31) hx hb dX0_change_41 (by rw [c_4]; decide) (by rw [c_4]; decide) (by rw [c_4]; rfl) (by decide) ?_
      refine lv_iload hx hb dX0_change_72 (lv_at hl 0 rfl) ?_
      refine lv_if_eq (tgt := 81) hx hb dX0_change_74 (by decide) (fun _ => ?_) (fun c_ => absurd c_ (by decide))
      refine lv_iconst (v := 0) hx hb dX0_change_81 (by decide) ?_
      have hP := hP.sub (ws' := [(h0, .inr (0, [.ref a_kd, .ref a_hd, .ref a_pl, .ref a_st, .ref a_ho, .ref a_be, .int nc, .int nn, .int dy])), (a_kd, .inl (cI, 7, .inl kd)), (a_hd, .inl (cI, 7, .inl hd)), (a_pl, .inl (cI, 7, .inl pl)), (a_st, .inl (cI, 7, .inl st)), (a_ho, .inl (cI, 6, .inl ho)), (a_be, .inl (cI, 42, .inl be))]) [0, 6, 5, 1, 2, 3, 4] rfl
      have hD := hD.sub (ws' := [(h0, .inr (0, [.ref a_kd, .ref a_hd, .ref a_pl, .ref a_st, .ref a_ho, .ref a_be, .int nc, .int nn, .int dy])), (a_kd, .inl (cI, 7, .inl kd)), (a_hd, .inl (cI, 7, .inl hd)), (a_pl, .inl (cI, 7, .inl pl)), (a_st, .inl (cI, 7, .inl st)), (a_ho, .inl (cI, 6, .inl ho)), (a_be, .inl (cI, 42, .inl be))]) [0, 6, 5, 1, 2, 3, 4] (by decide) rfl
      exact hret (0 : Int32) () _ _ _ ls h hP hD hS dX0_change_82
    · have h := h.2.2.1 c_4
      refine lv_tableIn (tgt := 83) (off := 42) hx hb dX0_change_41 (by rw [c_4]; decide) (by rw [c_4]; decide) (by rw [c_4]; rfl) (by decide) ?_
      refine lv_iload hx hb dX0_change_83 (lv_at hl 0 rfl) ?_
      refine lv_if_eq (tgt := 92) hx hb dX0_change_85 (by decide) (fun _ => ?_) (fun c_ => absurd c_ (by decide))
      refine lv_iconst (v := 0) hx hb dX0_change_92 (by decide) ?_
      have hP := hP.sub (ws' := [(h0, .inr (0, [.ref a_kd, .ref a_hd, .ref a_pl, .ref a_st, .ref a_ho, .ref a_be, .int nc, .int nn, .int dy])), (a_kd, .inl (cI, 7, .inl kd)), (a_hd, .inl (cI, 7, .inl hd)), (a_pl, .inl (cI, 7, .inl pl)), (a_st, .inl (cI, 7, .inl st)), (a_ho, .inl (cI, 6, .inl ho)), (a_be, .inl (cI, 42, .inl be))]) [0, 6, 5, 1, 2, 3, 4] rfl
      have hD := hD.sub (ws' := [(h0, .inr (0, [.ref a_kd, .ref a_hd, .ref a_pl, .ref a_st, .ref a_ho, .ref a_be, .int nc, .int nn, .int dy])), (a_kd, .inl (cI, 7, .inl kd)), (a_hd, .inl (cI, 7, .inl hd)), (a_pl, .inl (cI, 7, .inl pl)), (a_st, .inl (cI, 7, .inl st)), (a_ho, .inl (cI, 6, .inl ho)), (a_be, .inl (cI, 42, .inl be))]) [0, 6, 5, 1, 2, 3, 4] (by decide) rfl
      exact hret (0 : Int32) () _ _ _ ls h hP hD hS dX0_change_93
    · have h := h.2.2.2.1 c_4
      refine lv_tableIn (tgt := 112) (off := 71) hx hb dX0_change_41 (by rw [c_4]; decide) (by rw [c_4]; decide) (by rw [c_4]; rfl) (by decide) ?_
      refine lv_iconst (v := 0) hx hb dX0_change_112 (by decide) ?_
      have hP := hP.sub (ws' := [(h0, .inr (0, [.ref a_kd, .ref a_hd, .ref a_pl, .ref a_st, .ref a_ho, .ref a_be, .int nc, .int nn, .int dy])), (a_kd, .inl (cI, 7, .inl kd)), (a_hd, .inl (cI, 7, .inl hd)), (a_pl, .inl (cI, 7, .inl pl)), (a_st, .inl (cI, 7, .inl st)), (a_ho, .inl (cI, 6, .inl ho)), (a_be, .inl (cI, 42, .inl be))]) [0, 6, 5, 1, 2, 3, 4] rfl
      have hD := hD.sub (ws' := [(h0, .inr (0, [.ref a_kd, .ref a_hd, .ref a_pl, .ref a_st, .ref a_ho, .ref a_be, .int nc, .int nn, .int dy])), (a_kd, .inl (cI, 7, .inl kd)), (a_hd, .inl (cI, 7, .inl hd)), (a_pl, .inl (cI, 7, .inl pl)), (a_st, .inl (cI, 7, .inl st)), (a_ho, .inl (cI, 6, .inl ho)), (a_be, .inl (cI, 42, .inl be))]) [0, 6, 5, 1, 2, 3, 4] (by decide) rfl
      exact hret (0 : Int32) () _ _ _ ls h hP hD hS dX0_change_113
    · have h := h.2.2.2.2 c_4
      refine lv_tableIn (tgt := 94) (off := 53) hx hb dX0_change_41 (by rw [c_4]; decide) (by rw [c_4]; decide) (by rw [c_4]; rfl) (by decide) ?_
      refine lv_aload_n hx hb dX0_change_94 rfl (lv_at hl 2 rfl) ?_
      refine va_get (D := D) (ci := 0) (v := .ref a_ho) (C := RX0) (T := TX0) (N := 9) hx hb hts hin0 hown hK.1 hP 0 rfl rfl 4 (by decide) (k_4) (fun _ h9 => h9) rfl dX0_change_95 ?_
      refine lv_iload_n hx hb dX0_change_98 rfl (lv_at hl 4 rfl) ?_
      refine kSN_i (wr := [(h0, .inr (0, [.ref a_kd, .ref a_hd, .ref a_pl, .ref a_st, .ref a_ho, .ref a_be, .int nc, .int nn, .int dy])), (a_pl, .inl (cI, 7, .inl pl)), (a_st, .inl (cI, 7, .inl st)), (a_be, .inl (cI, 42, .inl be)), (a_hd, .inl (cI, 7, .inl hd)), (a_kd, .inl (cI, 7, .inl kd))]) (As := [.ref a_ho, .int x2]) (n := 2) ⟨hx, hb, hml, hown, hts⟩ hK hP hD hS hA (c_X5_of l D cI cC cQ a_ho ho 6 x2 _ h) gX0_change_X5_of_n54 (hK.2 _ (List.mem_of_getElem? (i := 5) rfl)) (k_1) (k_2) rfl ⟨rfl, rfl⟩ yoX5_of ⟨Nat.le_of_ble_eq_true rfl, Nat.le_of_ble_eq_true rfl⟩ rfl hl.1 rfl (Nat.le_of_ble_eq_true rfl) dX0_change_99 ⟨Nat.zero_le _, Nat.zero_le _⟩ [3] [0, 1, 2, 4, 5, 6] rfl (by decide) rfl (by decide) (by decide) (fun r_5 u H locs h hP hD hS => ?_)
      have hP : va_P D vwCl [(h0, .inr (0, [.ref a_kd, .ref a_hd, .ref a_pl, .ref a_st, .ref a_ho, .ref a_be, .int nc, .int nn, .int dy])), (a_pl, .inl (cI, 7, .inl pl)), (a_st, .inl (cI, 7, .inl st)), (a_be, .inl (cI, 42, .inl be)), (a_hd, .inl (cI, 7, .inl hd)), (a_kd, .inl (cI, 7, .inl kd)), (a_ho, .inl (cI, 6, .inl ho))] H := hP
      have hD : va_D A [(h0, .inr (0, [.ref a_kd, .ref a_hd, .ref a_pl, .ref a_st, .ref a_ho, .ref a_be, .int nc, .int nn, .int dy])), (a_pl, .inl (cI, 7, .inl pl)), (a_st, .inl (cI, 7, .inl st)), (a_be, .inl (cI, 42, .inl be)), (a_hd, .inl (cI, 7, .inl hd)), (a_kd, .inl (cI, 7, .inl kd)), (a_ho, .inl (cI, 6, .inl ho))] := hD
      refine lv_iload_n hx hb dX0_change_102 rfl (lv_at hl 3 rfl) ?_
      refine lv_icmp_ne (tgt := 110) hx hb dX0_change_103 (by decide) (fun c_6 => ?_) (fun c_6 => ?_)
      · have h := h.2 c_6
        refine lv_iconst (v := -1) hx hb dX0_change_110 (by decide) ?_
        have hP := hP.sub (ws' := [(h0, .inr (0, [.ref a_kd, .ref a_hd, .ref a_pl, .ref a_st, .ref a_ho, .ref a_be, .int nc, .int nn, .int dy])), (a_kd, .inl (cI, 7, .inl kd)), (a_hd, .inl (cI, 7, .inl hd)), (a_pl, .inl (cI, 7, .inl pl)), (a_st, .inl (cI, 7, .inl st)), (a_ho, .inl (cI, 6, .inl ho)), (a_be, .inl (cI, 42, .inl be))]) [0, 5, 4, 1, 2, 6, 3] rfl
        have hD := hD.sub (ws' := [(h0, .inr (0, [.ref a_kd, .ref a_hd, .ref a_pl, .ref a_st, .ref a_ho, .ref a_be, .int nc, .int nn, .int dy])), (a_kd, .inl (cI, 7, .inl kd)), (a_hd, .inl (cI, 7, .inl hd)), (a_pl, .inl (cI, 7, .inl pl)), (a_st, .inl (cI, 7, .inl st)), (a_ho, .inl (cI, 6, .inl ho)), (a_be, .inl (cI, 42, .inl be))]) [0, 5, 4, 1, 2, 6, 3] (by decide) rfl
        exact hret (-1 : Int32) () _ _ _ ls h hP hD hS dX0_change_111
      · have h := h.1 c_6
        refine lv_iconst (v := 0) hx hb dX0_change_106 (by decide) ?_
        refine lv_goto (tgt := 111) hx hb dX0_change_107 (by decide) ?_
        have hP := hP.sub (ws' := [(h0, .inr (0, [.ref a_kd, .ref a_hd, .ref a_pl, .ref a_st, .ref a_ho, .ref a_be, .int nc, .int nn, .int dy])), (a_kd, .inl (cI, 7, .inl kd)), (a_hd, .inl (cI, 7, .inl hd)), (a_pl, .inl (cI, 7, .inl pl)), (a_st, .inl (cI, 7, .inl st)), (a_ho, .inl (cI, 6, .inl ho)), (a_be, .inl (cI, 42, .inl be))]) [0, 5, 4, 1, 2, 6, 3] rfl
        have hD := hD.sub (ws' := [(h0, .inr (0, [.ref a_kd, .ref a_hd, .ref a_pl, .ref a_st, .ref a_ho, .ref a_be, .int nc, .int nn, .int dy])), (a_kd, .inl (cI, 7, .inl kd)), (a_hd, .inl (cI, 7, .inl hd)), (a_pl, .inl (cI, 7, .inl pl)), (a_st, .inl (cI, 7, .inl st)), (a_ho, .inl (cI, 6, .inl ho)), (a_be, .inl (cI, 42, .inl be))]) [0, 5, 4, 1, 2, 6, 3] (by decide) rfl
        exact hret (0 : Int32) () _ _ _ ls h hP hD hS dX0_change_111
  · have h := h.2 c_2
    refine lv_iload_n hx hb dX0_change_17 rfl (lv_at hl 4 rfl) ?_
    refine lv_iload hx hb dX0_change_18 (lv_at hl 0 rfl) ?_
    refine kSN_i (wr := [(h0, .inr (0, [.ref a_kd, .ref a_hd, .ref a_pl, .ref a_st, .ref a_ho, .ref a_be, .int nc, .int nn, .int dy])), (a_kd, .inl (cI, 7, .inl kd)), (a_pl, .inl (cI, 7, .inl pl)), (a_st, .inl (cI, 7, .inl st)), (a_ho, .inl (cI, 6, .inl ho)), (a_be, .inl (cI, 42, .inl be)), (a_hd, .inl (cI, 7, .inl hd))]) (As := [.int x3, .int r_1]) (n := 2) ⟨hx, hb, hml, hown, hts⟩ hK hP hD hS hA (c_X5_hasBit l D cI cC cQ   x3 r_1 _ h) gX0_change_X5_hasBit_n96 (hK.2 _ (List.mem_of_getElem? (i := 8) rfl)) (k_1) (k_5) rfl ⟨rfl, rfl⟩ yoX5_hasBit ⟨Nat.le_of_ble_eq_true rfl, Nat.le_of_ble_eq_true rfl⟩ rfl hl.1 rfl (Nat.le_of_ble_eq_true rfl) dX0_change_20 ⟨Nat.zero_le _, Nat.zero_le _⟩ [] [0, 1, 2, 3, 4, 5, 6] rfl (by decide) rfl (by decide) (by decide) (fun r_7 u H locs h hP hD hS => ?_)
    have hP : va_P D vwCl [(h0, .inr (0, [.ref a_kd, .ref a_hd, .ref a_pl, .ref a_st, .ref a_ho, .ref a_be, .int nc, .int nn, .int dy])), (a_kd, .inl (cI, 7, .inl kd)), (a_pl, .inl (cI, 7, .inl pl)), (a_st, .inl (cI, 7, .inl st)), (a_ho, .inl (cI, 6, .inl ho)), (a_be, .inl (cI, 42, .inl be)), (a_hd, .inl (cI, 7, .inl hd))] H := hP
    have hD : va_D A [(h0, .inr (0, [.ref a_kd, .ref a_hd, .ref a_pl, .ref a_st, .ref a_ho, .ref a_be, .int nc, .int nn, .int dy])), (a_kd, .inl (cI, 7, .inl kd)), (a_pl, .inl (cI, 7, .inl pl)), (a_st, .inl (cI, 7, .inl st)), (a_ho, .inl (cI, 6, .inl ho)), (a_be, .inl (cI, 42, .inl be)), (a_hd, .inl (cI, 7, .inl hd))] := hD
    obtain ⟨b_8, h⟩ := h
    refine lv_if_ne (tgt := 30) hx hb dX0_change_23 (by decide) (fun c_9 => ?_) (fun c_9 => ?_)
    · have h := h.2 c_9
      refine lv_iconst (v := 0) hx hb dX0_change_30 (by decide) ?_
      refine lv_istore (lv' := [(5, .int (0 : Int32)), (4, .int r_1), (0, .ref h0), (1, .int x1), (2, .int x2), (3, .int x3)]) hx hb dX0_change_31 hl (by decide) rfl (fun ls hl => ?_)
      refine lv_aload_n hx hb dX0_change_33 rfl (lv_at hl 2 rfl) ?_
      refine va_get (D := D) (ci := 0) (v := .ref a_kd) (C := RX0) (T := TX0) (N := 9) hx hb hts hin0 hown hK.1 hP 0 rfl rfl 0 (by decide) (k_3) (fun _ h9 => h9) rfl dX0_change_34 ?_
      refine lv_iload_n hx hb dX0_change_37 rfl (lv_at hl 3 rfl) ?_
      refine kSN_i (wr := [(h0, .inr (0, [.ref a_kd, .ref a_hd, .ref a_pl, .ref a_st, .ref a_ho, .ref a_be, .int nc, .int nn, .int dy])), (a_pl, .inl (cI, 7, .inl pl)), (a_st, .inl (cI, 7, .inl st)), (a_ho, .inl (cI, 6, .inl ho)), (a_be, .inl (cI, 42, .inl be)), (a_hd, .inl (cI, 7, .inl hd))]) (As := [.ref a_kd, .int x1]) (n := 2) ⟨hx, hb, hml, hown, hts⟩ hK hP hD hS hA (c_X5_of l D cI cC cQ a_kd kd 7 x1 _ h) gX0_change_X5_of_n54 (hK.2 _ (List.mem_of_getElem? (i := 5) rfl)) (k_1) (k_2) rfl ⟨rfl, rfl⟩ yoX5_of ⟨Nat.le_of_ble_eq_true rfl, Nat.le_of_ble_eq_true rfl⟩ rfl hl.1 rfl (Nat.le_of_ble_eq_true rfl) dX0_change_38 ⟨Nat.zero_le _, Nat.zero_le _⟩ [1] [0, 2, 3, 4, 5, 6] rfl (by decide) rfl (by decide) (by decide) (fun r_10 u H locs h hP hD hS => ?_)
      have hP : va_P D vwCl [(h0, .inr (0, [.ref a_kd, .ref a_hd, .ref a_pl, .ref a_st, .ref a_ho, .ref a_be, .int nc, .int nn, .int dy])), (a_pl, .inl (cI, 7, .inl pl)), (a_st, .inl (cI, 7, .inl st)), (a_ho, .inl (cI, 6, .inl ho)), (a_be, .inl (cI, 42, .inl be)), (a_hd, .inl (cI, 7, .inl hd)), (a_kd, .inl (cI, 7, .inl kd))] H := hP
      have hD : va_D A [(h0, .inr (0, [.ref a_kd, .ref a_hd, .ref a_pl, .ref a_st, .ref a_ho, .ref a_be, .int nc, .int nn, .int dy])), (a_pl, .inl (cI, 7, .inl pl)), (a_st, .inl (cI, 7, .inl st)), (a_ho, .inl (cI, 6, .inl ho)), (a_be, .inl (cI, 42, .inl be)), (a_hd, .inl (cI, 7, .inl hd)), (a_kd, .inl (cI, 7, .inl kd))] := hD
      rcases sw_3 r_10 with c_11 | c_11 | c_11 | c_11 | c_11
      · have h := h.1 c_11
        refine lv_tableOut (tgt := 112) hx hb dX0_change_41 c_11 (by decide) ?_
        refine lv_iconst (v := 0) hx hb dX0_change_112 (by decide) ?_
        have hP := hP.sub (ws' := [(h0, .inr (0, [.ref a_kd, .ref a_hd, .ref a_pl, .ref a_st, .ref a_ho, .ref a_be, .int nc, .int nn, .int dy])), (a_kd, .inl (cI, 7, .inl kd)), (a_hd, .inl (cI, 7, .inl hd)), (a_pl, .inl (cI, 7, .inl pl)), (a_st, .inl (cI, 7, .inl st)), (a_ho, .inl (cI, 6, .inl ho)), (a_be, .inl (cI, 42, .inl be))]) [0, 6, 5, 1, 2, 3, 4] rfl
        have hD := hD.sub (ws' := [(h0, .inr (0, [.ref a_kd, .ref a_hd, .ref a_pl, .ref a_st, .ref a_ho, .ref a_be, .int nc, .int nn, .int dy])), (a_kd, .inl (cI, 7, .inl kd)), (a_hd, .inl (cI, 7, .inl hd)), (a_pl, .inl (cI, 7, .inl pl)), (a_st, .inl (cI, 7, .inl st)), (a_ho, .inl (cI, 6, .inl ho)), (a_be, .inl (cI, 42, .inl be))]) [0, 6, 5, 1, 2, 3, 4] (by decide) rfl
        exact hret (0 : Int32) () _ _ _ ls h hP hD hS dX0_change_113
      · have h := h.2.1 c_11
        refine lv_tableIn (tgt := 72) (off := 31) hx hb dX0_change_41 (by rw [c_11]; decide) (by rw [c_11]; decide) (by rw [c_11]; rfl) (by decide) ?_
        refine lv_iload hx hb dX0_change_72 (lv_at hl 0 rfl) ?_
        refine lv_if_eq (tgt := 81) hx hb dX0_change_74 (by decide) (fun _ => ?_) (fun c_ => absurd c_ (by decide))
        refine lv_iconst (v := 0) hx hb dX0_change_81 (by decide) ?_
        have hP := hP.sub (ws' := [(h0, .inr (0, [.ref a_kd, .ref a_hd, .ref a_pl, .ref a_st, .ref a_ho, .ref a_be, .int nc, .int nn, .int dy])), (a_kd, .inl (cI, 7, .inl kd)), (a_hd, .inl (cI, 7, .inl hd)), (a_pl, .inl (cI, 7, .inl pl)), (a_st, .inl (cI, 7, .inl st)), (a_ho, .inl (cI, 6, .inl ho)), (a_be, .inl (cI, 42, .inl be))]) [0, 6, 5, 1, 2, 3, 4] rfl
        have hD := hD.sub (ws' := [(h0, .inr (0, [.ref a_kd, .ref a_hd, .ref a_pl, .ref a_st, .ref a_ho, .ref a_be, .int nc, .int nn, .int dy])), (a_kd, .inl (cI, 7, .inl kd)), (a_hd, .inl (cI, 7, .inl hd)), (a_pl, .inl (cI, 7, .inl pl)), (a_st, .inl (cI, 7, .inl st)), (a_ho, .inl (cI, 6, .inl ho)), (a_be, .inl (cI, 42, .inl be))]) [0, 6, 5, 1, 2, 3, 4] (by decide) rfl
        exact hret (0 : Int32) () _ _ _ ls h hP hD hS dX0_change_82
      · have h := h.2.2.1 c_11
        refine lv_tableIn (tgt := 83) (off := 42) hx hb dX0_change_41 (by rw [c_11]; decide) (by rw [c_11]; decide) (by rw [c_11]; rfl) (by decide) ?_
        refine lv_iload hx hb dX0_change_83 (lv_at hl 0 rfl) ?_
        refine lv_if_eq (tgt := 92) hx hb dX0_change_85 (by decide) (fun _ => ?_) (fun c_ => absurd c_ (by decide))
        refine lv_iconst (v := 0) hx hb dX0_change_92 (by decide) ?_
        have hP := hP.sub (ws' := [(h0, .inr (0, [.ref a_kd, .ref a_hd, .ref a_pl, .ref a_st, .ref a_ho, .ref a_be, .int nc, .int nn, .int dy])), (a_kd, .inl (cI, 7, .inl kd)), (a_hd, .inl (cI, 7, .inl hd)), (a_pl, .inl (cI, 7, .inl pl)), (a_st, .inl (cI, 7, .inl st)), (a_ho, .inl (cI, 6, .inl ho)), (a_be, .inl (cI, 42, .inl be))]) [0, 6, 5, 1, 2, 3, 4] rfl
        have hD := hD.sub (ws' := [(h0, .inr (0, [.ref a_kd, .ref a_hd, .ref a_pl, .ref a_st, .ref a_ho, .ref a_be, .int nc, .int nn, .int dy])), (a_kd, .inl (cI, 7, .inl kd)), (a_hd, .inl (cI, 7, .inl hd)), (a_pl, .inl (cI, 7, .inl pl)), (a_st, .inl (cI, 7, .inl st)), (a_ho, .inl (cI, 6, .inl ho)), (a_be, .inl (cI, 42, .inl be))]) [0, 6, 5, 1, 2, 3, 4] (by decide) rfl
        exact hret (0 : Int32) () _ _ _ ls h hP hD hS dX0_change_93
      · have h := h.2.2.2.1 c_11
        refine lv_tableIn (tgt := 112) (off := 71) hx hb dX0_change_41 (by rw [c_11]; decide) (by rw [c_11]; decide) (by rw [c_11]; rfl) (by decide) ?_
        refine lv_iconst (v := 0) hx hb dX0_change_112 (by decide) ?_
        have hP := hP.sub (ws' := [(h0, .inr (0, [.ref a_kd, .ref a_hd, .ref a_pl, .ref a_st, .ref a_ho, .ref a_be, .int nc, .int nn, .int dy])), (a_kd, .inl (cI, 7, .inl kd)), (a_hd, .inl (cI, 7, .inl hd)), (a_pl, .inl (cI, 7, .inl pl)), (a_st, .inl (cI, 7, .inl st)), (a_ho, .inl (cI, 6, .inl ho)), (a_be, .inl (cI, 42, .inl be))]) [0, 6, 5, 1, 2, 3, 4] rfl
        have hD := hD.sub (ws' := [(h0, .inr (0, [.ref a_kd, .ref a_hd, .ref a_pl, .ref a_st, .ref a_ho, .ref a_be, .int nc, .int nn, .int dy])), (a_kd, .inl (cI, 7, .inl kd)), (a_hd, .inl (cI, 7, .inl hd)), (a_pl, .inl (cI, 7, .inl pl)), (a_st, .inl (cI, 7, .inl st)), (a_ho, .inl (cI, 6, .inl ho)), (a_be, .inl (cI, 42, .inl be))]) [0, 6, 5, 1, 2, 3, 4] (by decide) rfl
        exact hret (0 : Int32) () _ _ _ ls h hP hD hS dX0_change_113
      · have h := h.2.2.2.2 c_11
        refine lv_tableIn (tgt := 94) (off := 53) hx hb dX0_change_41 (by rw [c_11]; decide) (by rw [c_11]; decide) (by rw [c_11]; rfl) (by decide) ?_
        refine lv_aload_n hx hb dX0_change_94 rfl (lv_at hl 2 rfl) ?_
        refine va_get (D := D) (ci := 0) (v := .ref a_ho) (C := RX0) (T := TX0) (N := 9) hx hb hts hin0 hown hK.1 hP 0 rfl rfl 4 (by decide) (k_4) (fun _ h9 => h9) rfl dX0_change_95 ?_
        refine lv_iload_n hx hb dX0_change_98 rfl (lv_at hl 4 rfl) ?_
        refine kSN_i (wr := [(h0, .inr (0, [.ref a_kd, .ref a_hd, .ref a_pl, .ref a_st, .ref a_ho, .ref a_be, .int nc, .int nn, .int dy])), (a_pl, .inl (cI, 7, .inl pl)), (a_st, .inl (cI, 7, .inl st)), (a_be, .inl (cI, 42, .inl be)), (a_hd, .inl (cI, 7, .inl hd)), (a_kd, .inl (cI, 7, .inl kd))]) (As := [.ref a_ho, .int x2]) (n := 2) ⟨hx, hb, hml, hown, hts⟩ hK hP hD hS hA (c_X5_of l D cI cC cQ a_ho ho 6 x2 _ h) gX0_change_X5_of_n54 (hK.2 _ (List.mem_of_getElem? (i := 5) rfl)) (k_1) (k_2) rfl ⟨rfl, rfl⟩ yoX5_of ⟨Nat.le_of_ble_eq_true rfl, Nat.le_of_ble_eq_true rfl⟩ rfl hl.1 rfl (Nat.le_of_ble_eq_true rfl) dX0_change_99 ⟨Nat.zero_le _, Nat.zero_le _⟩ [3] [0, 1, 2, 4, 5, 6] rfl (by decide) rfl (by decide) (by decide) (fun r_12 u H locs h hP hD hS => ?_)
        have hP : va_P D vwCl [(h0, .inr (0, [.ref a_kd, .ref a_hd, .ref a_pl, .ref a_st, .ref a_ho, .ref a_be, .int nc, .int nn, .int dy])), (a_pl, .inl (cI, 7, .inl pl)), (a_st, .inl (cI, 7, .inl st)), (a_be, .inl (cI, 42, .inl be)), (a_hd, .inl (cI, 7, .inl hd)), (a_kd, .inl (cI, 7, .inl kd)), (a_ho, .inl (cI, 6, .inl ho))] H := hP
        have hD : va_D A [(h0, .inr (0, [.ref a_kd, .ref a_hd, .ref a_pl, .ref a_st, .ref a_ho, .ref a_be, .int nc, .int nn, .int dy])), (a_pl, .inl (cI, 7, .inl pl)), (a_st, .inl (cI, 7, .inl st)), (a_be, .inl (cI, 42, .inl be)), (a_hd, .inl (cI, 7, .inl hd)), (a_kd, .inl (cI, 7, .inl kd)), (a_ho, .inl (cI, 6, .inl ho))] := hD
        refine lv_iload_n hx hb dX0_change_102 rfl (lv_at hl 3 rfl) ?_
        refine lv_icmp_ne (tgt := 110) hx hb dX0_change_103 (by decide) (fun c_13 => ?_) (fun c_13 => ?_)
        · have h := h.2 c_13
          refine lv_iconst (v := -1) hx hb dX0_change_110 (by decide) ?_
          have hP := hP.sub (ws' := [(h0, .inr (0, [.ref a_kd, .ref a_hd, .ref a_pl, .ref a_st, .ref a_ho, .ref a_be, .int nc, .int nn, .int dy])), (a_kd, .inl (cI, 7, .inl kd)), (a_hd, .inl (cI, 7, .inl hd)), (a_pl, .inl (cI, 7, .inl pl)), (a_st, .inl (cI, 7, .inl st)), (a_ho, .inl (cI, 6, .inl ho)), (a_be, .inl (cI, 42, .inl be))]) [0, 5, 4, 1, 2, 6, 3] rfl
          have hD := hD.sub (ws' := [(h0, .inr (0, [.ref a_kd, .ref a_hd, .ref a_pl, .ref a_st, .ref a_ho, .ref a_be, .int nc, .int nn, .int dy])), (a_kd, .inl (cI, 7, .inl kd)), (a_hd, .inl (cI, 7, .inl hd)), (a_pl, .inl (cI, 7, .inl pl)), (a_st, .inl (cI, 7, .inl st)), (a_ho, .inl (cI, 6, .inl ho)), (a_be, .inl (cI, 42, .inl be))]) [0, 5, 4, 1, 2, 6, 3] (by decide) rfl
          exact hret (-1 : Int32) () _ _ _ ls h hP hD hS dX0_change_111
        · have h := h.1 c_13
          refine lv_iconst (v := 0) hx hb dX0_change_106 (by decide) ?_
          refine lv_goto (tgt := 111) hx hb dX0_change_107 (by decide) ?_
          have hP := hP.sub (ws' := [(h0, .inr (0, [.ref a_kd, .ref a_hd, .ref a_pl, .ref a_st, .ref a_ho, .ref a_be, .int nc, .int nn, .int dy])), (a_kd, .inl (cI, 7, .inl kd)), (a_hd, .inl (cI, 7, .inl hd)), (a_pl, .inl (cI, 7, .inl pl)), (a_st, .inl (cI, 7, .inl st)), (a_ho, .inl (cI, 6, .inl ho)), (a_be, .inl (cI, 42, .inl be))]) [0, 5, 4, 1, 2, 6, 3] rfl
          have hD := hD.sub (ws' := [(h0, .inr (0, [.ref a_kd, .ref a_hd, .ref a_pl, .ref a_st, .ref a_ho, .ref a_be, .int nc, .int nn, .int dy])), (a_kd, .inl (cI, 7, .inl kd)), (a_hd, .inl (cI, 7, .inl hd)), (a_pl, .inl (cI, 7, .inl pl)), (a_st, .inl (cI, 7, .inl st)), (a_ho, .inl (cI, 6, .inl ho)), (a_be, .inl (cI, 42, .inl be))]) [0, 5, 4, 1, 2, 6, 3] (by decide) rfl
          exact hret (0 : Int32) () _ _ _ ls h hP hD hS dX0_change_111
    · have h := h.1 c_9
      refine lv_iconst (v := 1) hx hb dX0_change_26 (by decide) ?_
      refine lv_goto (tgt := 31) hx hb dX0_change_27 (by decide) ?_
      refine lv_istore (lv' := [(5, .int (1 : Int32)), (4, .int r_1), (0, .ref h0), (1, .int x1), (2, .int x2), (3, .int x3)]) hx hb dX0_change_31 hl (by decide) rfl (fun ls hl => ?_)
      refine lv_aload_n hx hb dX0_change_33 rfl (lv_at hl 2 rfl) ?_
      refine va_get (D := D) (ci := 0) (v := .ref a_kd) (C := RX0) (T := TX0) (N := 9) hx hb hts hin0 hown hK.1 hP 0 rfl rfl 0 (by decide) (k_3) (fun _ h9 => h9) rfl dX0_change_34 ?_
      refine lv_iload_n hx hb dX0_change_37 rfl (lv_at hl 3 rfl) ?_
      refine kSN_i (wr := [(h0, .inr (0, [.ref a_kd, .ref a_hd, .ref a_pl, .ref a_st, .ref a_ho, .ref a_be, .int nc, .int nn, .int dy])), (a_pl, .inl (cI, 7, .inl pl)), (a_st, .inl (cI, 7, .inl st)), (a_ho, .inl (cI, 6, .inl ho)), (a_be, .inl (cI, 42, .inl be)), (a_hd, .inl (cI, 7, .inl hd))]) (As := [.ref a_kd, .int x1]) (n := 2) ⟨hx, hb, hml, hown, hts⟩ hK hP hD hS hA (c_X5_of l D cI cC cQ a_kd kd 7 x1 _ h) gX0_change_X5_of_n54 (hK.2 _ (List.mem_of_getElem? (i := 5) rfl)) (k_1) (k_2) rfl ⟨rfl, rfl⟩ yoX5_of ⟨Nat.le_of_ble_eq_true rfl, Nat.le_of_ble_eq_true rfl⟩ rfl hl.1 rfl (Nat.le_of_ble_eq_true rfl) dX0_change_38 ⟨Nat.zero_le _, Nat.zero_le _⟩ [1] [0, 2, 3, 4, 5, 6] rfl (by decide) rfl (by decide) (by decide) (fun r_14 u H locs h hP hD hS => ?_)
      have hP : va_P D vwCl [(h0, .inr (0, [.ref a_kd, .ref a_hd, .ref a_pl, .ref a_st, .ref a_ho, .ref a_be, .int nc, .int nn, .int dy])), (a_pl, .inl (cI, 7, .inl pl)), (a_st, .inl (cI, 7, .inl st)), (a_ho, .inl (cI, 6, .inl ho)), (a_be, .inl (cI, 42, .inl be)), (a_hd, .inl (cI, 7, .inl hd)), (a_kd, .inl (cI, 7, .inl kd))] H := hP
      have hD : va_D A [(h0, .inr (0, [.ref a_kd, .ref a_hd, .ref a_pl, .ref a_st, .ref a_ho, .ref a_be, .int nc, .int nn, .int dy])), (a_pl, .inl (cI, 7, .inl pl)), (a_st, .inl (cI, 7, .inl st)), (a_ho, .inl (cI, 6, .inl ho)), (a_be, .inl (cI, 42, .inl be)), (a_hd, .inl (cI, 7, .inl hd)), (a_kd, .inl (cI, 7, .inl kd))] := hD
      rcases sw_3 r_14 with c_15 | c_15 | c_15 | c_15 | c_15
      · have h := h.1 c_15
        refine lv_tableOut (tgt := 112) hx hb dX0_change_41 c_15 (by decide) ?_
        refine lv_iconst (v := 0) hx hb dX0_change_112 (by decide) ?_
        have hP := hP.sub (ws' := [(h0, .inr (0, [.ref a_kd, .ref a_hd, .ref a_pl, .ref a_st, .ref a_ho, .ref a_be, .int nc, .int nn, .int dy])), (a_kd, .inl (cI, 7, .inl kd)), (a_hd, .inl (cI, 7, .inl hd)), (a_pl, .inl (cI, 7, .inl pl)), (a_st, .inl (cI, 7, .inl st)), (a_ho, .inl (cI, 6, .inl ho)), (a_be, .inl (cI, 42, .inl be))]) [0, 6, 5, 1, 2, 3, 4] rfl
        have hD := hD.sub (ws' := [(h0, .inr (0, [.ref a_kd, .ref a_hd, .ref a_pl, .ref a_st, .ref a_ho, .ref a_be, .int nc, .int nn, .int dy])), (a_kd, .inl (cI, 7, .inl kd)), (a_hd, .inl (cI, 7, .inl hd)), (a_pl, .inl (cI, 7, .inl pl)), (a_st, .inl (cI, 7, .inl st)), (a_ho, .inl (cI, 6, .inl ho)), (a_be, .inl (cI, 42, .inl be))]) [0, 6, 5, 1, 2, 3, 4] (by decide) rfl
        exact hret (0 : Int32) () _ _ _ ls h hP hD hS dX0_change_113
      · have h := h.2.1 c_15
        refine lv_tableIn (tgt := 72) (off := 31) hx hb dX0_change_41 (by rw [c_15]; decide) (by rw [c_15]; decide) (by rw [c_15]; rfl) (by decide) ?_
        refine lv_iload hx hb dX0_change_72 (lv_at hl 0 rfl) ?_
        refine lv_if_eq (tgt := 81) hx hb dX0_change_74 (by decide) (fun c_ => absurd c_ (by decide)) (fun _ => ?_)
        refine lv_iconst (v := 1) hx hb dX0_change_77 (by decide) ?_
        refine lv_goto (tgt := 82) hx hb dX0_change_78 (by decide) ?_
        have hP := hP.sub (ws' := [(h0, .inr (0, [.ref a_kd, .ref a_hd, .ref a_pl, .ref a_st, .ref a_ho, .ref a_be, .int nc, .int nn, .int dy])), (a_kd, .inl (cI, 7, .inl kd)), (a_hd, .inl (cI, 7, .inl hd)), (a_pl, .inl (cI, 7, .inl pl)), (a_st, .inl (cI, 7, .inl st)), (a_ho, .inl (cI, 6, .inl ho)), (a_be, .inl (cI, 42, .inl be))]) [0, 6, 5, 1, 2, 3, 4] rfl
        have hD := hD.sub (ws' := [(h0, .inr (0, [.ref a_kd, .ref a_hd, .ref a_pl, .ref a_st, .ref a_ho, .ref a_be, .int nc, .int nn, .int dy])), (a_kd, .inl (cI, 7, .inl kd)), (a_hd, .inl (cI, 7, .inl hd)), (a_pl, .inl (cI, 7, .inl pl)), (a_st, .inl (cI, 7, .inl st)), (a_ho, .inl (cI, 6, .inl ho)), (a_be, .inl (cI, 42, .inl be))]) [0, 6, 5, 1, 2, 3, 4] (by decide) rfl
        exact hret (1 : Int32) () _ _ _ ls h hP hD hS dX0_change_82
      · have h := h.2.2.1 c_15
        refine lv_tableIn (tgt := 83) (off := 42) hx hb dX0_change_41 (by rw [c_15]; decide) (by rw [c_15]; decide) (by rw [c_15]; rfl) (by decide) ?_
        refine lv_iload hx hb dX0_change_83 (lv_at hl 0 rfl) ?_
        refine lv_if_eq (tgt := 92) hx hb dX0_change_85 (by decide) (fun c_ => absurd c_ (by decide)) (fun _ => ?_)
        refine lv_iconst (v := 2) hx hb dX0_change_88 (by decide) ?_
        refine lv_goto (tgt := 93) hx hb dX0_change_89 (by decide) ?_
        have hP := hP.sub (ws' := [(h0, .inr (0, [.ref a_kd, .ref a_hd, .ref a_pl, .ref a_st, .ref a_ho, .ref a_be, .int nc, .int nn, .int dy])), (a_kd, .inl (cI, 7, .inl kd)), (a_hd, .inl (cI, 7, .inl hd)), (a_pl, .inl (cI, 7, .inl pl)), (a_st, .inl (cI, 7, .inl st)), (a_ho, .inl (cI, 6, .inl ho)), (a_be, .inl (cI, 42, .inl be))]) [0, 6, 5, 1, 2, 3, 4] rfl
        have hD := hD.sub (ws' := [(h0, .inr (0, [.ref a_kd, .ref a_hd, .ref a_pl, .ref a_st, .ref a_ho, .ref a_be, .int nc, .int nn, .int dy])), (a_kd, .inl (cI, 7, .inl kd)), (a_hd, .inl (cI, 7, .inl hd)), (a_pl, .inl (cI, 7, .inl pl)), (a_st, .inl (cI, 7, .inl st)), (a_ho, .inl (cI, 6, .inl ho)), (a_be, .inl (cI, 42, .inl be))]) [0, 6, 5, 1, 2, 3, 4] (by decide) rfl
        exact hret (2 : Int32) () _ _ _ ls h hP hD hS dX0_change_93
      · have h := h.2.2.2.1 c_15
        refine lv_tableIn (tgt := 112) (off := 71) hx hb dX0_change_41 (by rw [c_15]; decide) (by rw [c_15]; decide) (by rw [c_15]; rfl) (by decide) ?_
        refine lv_iconst (v := 0) hx hb dX0_change_112 (by decide) ?_
        have hP := hP.sub (ws' := [(h0, .inr (0, [.ref a_kd, .ref a_hd, .ref a_pl, .ref a_st, .ref a_ho, .ref a_be, .int nc, .int nn, .int dy])), (a_kd, .inl (cI, 7, .inl kd)), (a_hd, .inl (cI, 7, .inl hd)), (a_pl, .inl (cI, 7, .inl pl)), (a_st, .inl (cI, 7, .inl st)), (a_ho, .inl (cI, 6, .inl ho)), (a_be, .inl (cI, 42, .inl be))]) [0, 6, 5, 1, 2, 3, 4] rfl
        have hD := hD.sub (ws' := [(h0, .inr (0, [.ref a_kd, .ref a_hd, .ref a_pl, .ref a_st, .ref a_ho, .ref a_be, .int nc, .int nn, .int dy])), (a_kd, .inl (cI, 7, .inl kd)), (a_hd, .inl (cI, 7, .inl hd)), (a_pl, .inl (cI, 7, .inl pl)), (a_st, .inl (cI, 7, .inl st)), (a_ho, .inl (cI, 6, .inl ho)), (a_be, .inl (cI, 42, .inl be))]) [0, 6, 5, 1, 2, 3, 4] (by decide) rfl
        exact hret (0 : Int32) () _ _ _ ls h hP hD hS dX0_change_113
      · have h := h.2.2.2.2 c_15
        refine lv_tableIn (tgt := 94) (off := 53) hx hb dX0_change_41 (by rw [c_15]; decide) (by rw [c_15]; decide) (by rw [c_15]; rfl) (by decide) ?_
        refine lv_aload_n hx hb dX0_change_94 rfl (lv_at hl 2 rfl) ?_
        refine va_get (D := D) (ci := 0) (v := .ref a_ho) (C := RX0) (T := TX0) (N := 9) hx hb hts hin0 hown hK.1 hP 0 rfl rfl 4 (by decide) (k_4) (fun _ h9 => h9) rfl dX0_change_95 ?_
        refine lv_iload_n hx hb dX0_change_98 rfl (lv_at hl 4 rfl) ?_
        refine kSN_i (wr := [(h0, .inr (0, [.ref a_kd, .ref a_hd, .ref a_pl, .ref a_st, .ref a_ho, .ref a_be, .int nc, .int nn, .int dy])), (a_pl, .inl (cI, 7, .inl pl)), (a_st, .inl (cI, 7, .inl st)), (a_be, .inl (cI, 42, .inl be)), (a_hd, .inl (cI, 7, .inl hd)), (a_kd, .inl (cI, 7, .inl kd))]) (As := [.ref a_ho, .int x2]) (n := 2) ⟨hx, hb, hml, hown, hts⟩ hK hP hD hS hA (c_X5_of l D cI cC cQ a_ho ho 6 x2 _ h) gX0_change_X5_of_n54 (hK.2 _ (List.mem_of_getElem? (i := 5) rfl)) (k_1) (k_2) rfl ⟨rfl, rfl⟩ yoX5_of ⟨Nat.le_of_ble_eq_true rfl, Nat.le_of_ble_eq_true rfl⟩ rfl hl.1 rfl (Nat.le_of_ble_eq_true rfl) dX0_change_99 ⟨Nat.zero_le _, Nat.zero_le _⟩ [3] [0, 1, 2, 4, 5, 6] rfl (by decide) rfl (by decide) (by decide) (fun r_16 u H locs h hP hD hS => ?_)
        have hP : va_P D vwCl [(h0, .inr (0, [.ref a_kd, .ref a_hd, .ref a_pl, .ref a_st, .ref a_ho, .ref a_be, .int nc, .int nn, .int dy])), (a_pl, .inl (cI, 7, .inl pl)), (a_st, .inl (cI, 7, .inl st)), (a_be, .inl (cI, 42, .inl be)), (a_hd, .inl (cI, 7, .inl hd)), (a_kd, .inl (cI, 7, .inl kd)), (a_ho, .inl (cI, 6, .inl ho))] H := hP
        have hD : va_D A [(h0, .inr (0, [.ref a_kd, .ref a_hd, .ref a_pl, .ref a_st, .ref a_ho, .ref a_be, .int nc, .int nn, .int dy])), (a_pl, .inl (cI, 7, .inl pl)), (a_st, .inl (cI, 7, .inl st)), (a_be, .inl (cI, 42, .inl be)), (a_hd, .inl (cI, 7, .inl hd)), (a_kd, .inl (cI, 7, .inl kd)), (a_ho, .inl (cI, 6, .inl ho))] := hD
        refine lv_iload_n hx hb dX0_change_102 rfl (lv_at hl 3 rfl) ?_
        refine lv_icmp_ne (tgt := 110) hx hb dX0_change_103 (by decide) (fun c_17 => ?_) (fun c_17 => ?_)
        · have h := h.2 c_17
          refine lv_iconst (v := -1) hx hb dX0_change_110 (by decide) ?_
          have hP := hP.sub (ws' := [(h0, .inr (0, [.ref a_kd, .ref a_hd, .ref a_pl, .ref a_st, .ref a_ho, .ref a_be, .int nc, .int nn, .int dy])), (a_kd, .inl (cI, 7, .inl kd)), (a_hd, .inl (cI, 7, .inl hd)), (a_pl, .inl (cI, 7, .inl pl)), (a_st, .inl (cI, 7, .inl st)), (a_ho, .inl (cI, 6, .inl ho)), (a_be, .inl (cI, 42, .inl be))]) [0, 5, 4, 1, 2, 6, 3] rfl
          have hD := hD.sub (ws' := [(h0, .inr (0, [.ref a_kd, .ref a_hd, .ref a_pl, .ref a_st, .ref a_ho, .ref a_be, .int nc, .int nn, .int dy])), (a_kd, .inl (cI, 7, .inl kd)), (a_hd, .inl (cI, 7, .inl hd)), (a_pl, .inl (cI, 7, .inl pl)), (a_st, .inl (cI, 7, .inl st)), (a_ho, .inl (cI, 6, .inl ho)), (a_be, .inl (cI, 42, .inl be))]) [0, 5, 4, 1, 2, 6, 3] (by decide) rfl
          exact hret (-1 : Int32) () _ _ _ ls h hP hD hS dX0_change_111
        · have h := h.1 c_17
          refine lv_iconst (v := 0) hx hb dX0_change_106 (by decide) ?_
          refine lv_goto (tgt := 111) hx hb dX0_change_107 (by decide) ?_
          have hP := hP.sub (ws' := [(h0, .inr (0, [.ref a_kd, .ref a_hd, .ref a_pl, .ref a_st, .ref a_ho, .ref a_be, .int nc, .int nn, .int dy])), (a_kd, .inl (cI, 7, .inl kd)), (a_hd, .inl (cI, 7, .inl hd)), (a_pl, .inl (cI, 7, .inl pl)), (a_st, .inl (cI, 7, .inl st)), (a_ho, .inl (cI, 6, .inl ho)), (a_be, .inl (cI, 42, .inl be))]) [0, 5, 4, 1, 2, 6, 3] rfl
          have hD := hD.sub (ws' := [(h0, .inr (0, [.ref a_kd, .ref a_hd, .ref a_pl, .ref a_st, .ref a_ho, .ref a_be, .int nc, .int nn, .int dy])), (a_kd, .inl (cI, 7, .inl kd)), (a_hd, .inl (cI, 7, .inl hd)), (a_pl, .inl (cI, 7, .inl pl)), (a_st, .inl (cI, 7, .inl st)), (a_ho, .inl (cI, 6, .inl ho)), (a_be, .inl (cI, 42, .inl be))]) [0, 5, 4, 1, 2, 6, 3] (by decide) rfl
          exact hret (0 : Int32) () _ _ _ ls h hP hD hS dX0_change_111

/-! DoubtCourt$Court.spread -/
abbrev rmX0_spread : Room := { frames := 2, cells := 0, slots := 0, locals := 46 }
theorem yoX0_spread : yX0_spread.cls ≠ "java/lang/invoke/MethodHandle" ∧ yX0_spread.cls ≠ "java/lang/invoke/VarHandle" ∧ (parseMethodDescriptor yX0_spread.desc).map (fun d => d.parameters.length) = some 2 := by decide +kernel
set_option maxHeartbeats 4000000 in
set_option maxRecDepth 100000 in
theorem c_X0_spread (l : Launch) (D : va_G) (cI cC cQ : ClassId) (h0 : Nat) (a_kd : Nat) (a_hd : Nat) (a_pl : Nat) (a_st : Nat) (a_ho : Nat) (a_be : Nat) (kd : Nat → Int32) (hd : Nat → Int32) (pl : Nat → Int32) (st : Nat → Int32) (ho : Nat → Int32) (be : Nat → Int32) (nc : Int32) (nn : Int32) (dy : Int32) (x1 : Int32) (x2 : Int32) (Q : (Nat → Int32) → Prop) (h : wX0_spread x1 x2 kd hd ho be nc Q) : Cv (S := (Nat → Int32)) l D cI cC cQ yX0_spread wsX0_spread rmX0_spread [.ref h0, .int x1, .int x2] [(h0, .inr (0, [.ref a_kd, .ref a_hd, .ref a_pl, .ref a_st, .ref a_ho, .ref a_be, .int nc, .int nn, .int dy])), (a_kd, .inl (cI, 7, .inl kd)), (a_hd, .inl (cI, 7, .inl hd)), (a_pl, .inl (cI, 7, .inl pl)), (a_st, .inl (cI, 7, .inl st)), (a_ho, .inl (cI, 6, .inl ho)), (a_be, .inl (cI, 42, .inl be))] (fun u => [(h0, .inr (0, [.ref a_kd, .ref a_hd, .ref a_pl, .ref a_st, .ref a_ho, .ref a_be, .int nc, .int nn, .int dy])), (a_kd, .inl (cI, 7, .inl kd)), (a_hd, .inl (cI, 7, .inl hd)), (a_pl, .inl (cI, 7, .inl pl)), (a_st, .inl (cI, 7, .inl st)), (a_ho, .inl (cI, 6, .inl ho)), (a_be, .inl (cI, 42, .inl u))]) (fun u => Q u) := by
  refine Cv_mk (cc := cX0_spread) (maxL := 4) (by decide) rfl (Nat.le_of_ble_eq_true rfl) ?_
  intro p e s m args below meth c A Z ls hx hb hml hown hts hK hA hP hD hret hl
  have hS : va_S A s.heap s.heap [] := va_S.rf
  have hin0 : ∀ w ∈ u_ws RX0 TX0 9, w ∈ wsX0_spread := by decide +kernel
  have k_0 := hts (.fieldLink RX0 30 "DoubtCourt$Court" "courtiers" "I") (by decide +kernel)
  have k_1 := hts (.initialized RX5) (by decide +kernel)
  have k_2 := hts (.static yX5_cutBelief) (by decide +kernel)
  have hl : lv_has ls 4 [(0, .ref h0), (1, .int x1), (2, .int x2)] := hl
  have L11 : ∀ (n : Nat) {x1 : Int32} {x2 : Int32} {x3 : Int32} {be : Nat → Int32} {H : Heap} {locs : List Loc} {ls : Array Slot}, wX0_spread_L11 x1 x2 kd hd ho nc Q n x3 be → va_P D vwCl [(h0, .inr (0, [.ref a_kd, .ref a_hd, .ref a_pl, .ref a_st, .ref a_ho, .ref a_be, .int nc, .int nn, .int dy])), (a_kd, .inl (cI, 7, .inl kd)), (a_hd, .inl (cI, 7, .inl hd)), (a_pl, .inl (cI, 7, .inl pl)), (a_st, .inl (cI, 7, .inl st)), (a_ho, .inl (cI, 6, .inl ho)), (a_be, .inl (cI, 42, .inl be))] H → va_D A [(h0, .inr (0, [.ref a_kd, .ref a_hd, .ref a_pl, .ref a_st, .ref a_ho, .ref a_be, .int nc, .int nn, .int dy])), (a_kd, .inl (cI, 7, .inl kd)), (a_hd, .inl (cI, 7, .inl hd)), (a_pl, .inl (cI, 7, .inl pl)), (a_st, .inl (cI, 7, .inl st)), (a_ho, .inl (cI, 6, .inl ho)), (a_be, .inl (cI, 42, .inl be))] → va_S A s.heap H locs → lv_has ls 4 [(0, .ref h0), (1, .int x1), (2, .int x2), (3, .int x3)] → W p l e rmX0_spread s m args below meth c H locs 0 0 Z (F0 m 11 ls []) := by
    intro n
    induction n with
    | zero =>
      intro x1 x2 x3 be H locs ls h hP hD hS hl
      exact (show False from h).elim
    | succ n ih =>
      intro x1 x2 x3 be H locs ls h hP hD hS hl
      refine lv_iload_n hx hb dX0_spread_11 rfl (lv_at hl 3 rfl) ?_
      refine lv_aload_n hx hb dX0_spread_12 rfl (lv_at hl 0 rfl) ?_
      refine va_get (D := D) (ci := 0) (v := .int nc) (C := RX0) (T := TX0) (N := 9) hx hb hts hin0 hown hK.1 hP 0 rfl rfl 6 (by decide) (k_0) (fun _ h9 => h9) rfl dX0_spread_13 ?_
      refine lv_icmp_ge (tgt := 48) hx hb dX0_spread_16 (by decide) (fun c_9 => ?_) (fun c_9 => ?_)
      · have h := h.1 c_9
        exact hret be _ _ _ ls h hP hD hS dX0_spread_48
      · have h := h.2 c_9
        refine lv_aload_n hx hb dX0_spread_19 rfl (lv_at hl 0 rfl) ?_
        refine lv_iload_n hx hb dX0_spread_20 rfl (lv_at hl 3 rfl) ?_
        refine lv_iload_n hx hb dX0_spread_21 rfl (lv_at hl 1 rfl) ?_
        refine lv_aload_n hx hb dX0_spread_22 rfl (lv_at hl 0 rfl) ?_
        refine lv_iload_n hx hb dX0_spread_23 rfl (lv_at hl 3 rfl) ?_
        refine lv_iload_n hx hb dX0_spread_24 rfl (lv_at hl 1 rfl) ?_
        refine k0V_i (As := [.int x3, .int x1]) (n := 2) ⟨hx, hb, hml, hown, hts⟩ hK hP hD hS hA (c_X0_believes l D cI cC cQ h0 a_kd a_hd a_pl a_st a_ho a_be kd hd pl st ho be nc nn dy x3 x1 _ h) gX0_spread_X0_believes rfl rfl ⟨rfl, rfl⟩ yoX0_believes ⟨Nat.le_of_ble_eq_true rfl, Nat.le_of_ble_eq_true rfl⟩ (q0 := 0) (ci := 0) rfl rfl rfl rfl hl.1 rfl (Nat.le_of_ble_eq_true rfl) dX0_spread_25 ⟨Nat.zero_le _, Nat.zero_le _⟩ (fun r_10 u H locs h hP hD hS => ?_)
        refine lv_aload_n hx hb dX0_spread_28 rfl (lv_at hl 0 rfl) ?_
        refine lv_iload_n hx hb dX0_spread_29 rfl (lv_at hl 3 rfl) ?_
        refine lv_iload_n hx hb dX0_spread_30 rfl (lv_at hl 1 rfl) ?_
        refine lv_iload_n hx hb dX0_spread_31 rfl (lv_at hl 2 rfl) ?_
        refine k0V_i (As := [.int x3, .int x1, .int x2]) (n := 3) ⟨hx, hb, hml, hown, hts⟩ hK hP hD hS hA (c_X0_change l D cI cC cQ h0 a_kd a_hd a_pl a_st a_ho a_be kd hd pl st ho be nc nn dy x3 x1 x2 _ h) gX0_spread_X0_change rfl rfl ⟨rfl, rfl⟩ yoX0_change ⟨Nat.le_of_ble_eq_true rfl, Nat.le_of_ble_eq_true rfl⟩ (q0 := 0) (ci := 0) rfl rfl rfl rfl hl.1 rfl (Nat.le_of_ble_eq_true rfl) dX0_spread_32 ⟨Nat.zero_le _, Nat.zero_le _⟩ (fun r_11 u H locs h hP hD hS => ?_)
        refine lv_iadd hx hb dX0_spread_35 ?_
        refine kSN_i (wr := [(h0, .inr (0, [.ref a_kd, .ref a_hd, .ref a_pl, .ref a_st, .ref a_ho, .ref a_be, .int nc, .int nn, .int dy])), (a_kd, .inl (cI, 7, .inl kd)), (a_hd, .inl (cI, 7, .inl hd)), (a_pl, .inl (cI, 7, .inl pl)), (a_st, .inl (cI, 7, .inl st)), (a_ho, .inl (cI, 6, .inl ho)), (a_be, .inl (cI, 42, .inl be))]) (As := [.int (r_10 + r_11)]) (n := 1) ⟨hx, hb, hml, hown, hts⟩ hK hP hD hS hA (c_X5_cutBelief l D cI cC cQ   (r_10 + r_11) _ h) gX0_spread_X5_cutBelief_n86 (hK.2 _ (List.mem_of_getElem? (i := 7) rfl)) (k_1) (k_2) rfl ⟨rfl, rfl⟩ yoX5_cutBelief ⟨Nat.le_of_ble_eq_true rfl, Nat.le_of_ble_eq_true rfl⟩ rfl hl.1 rfl (Nat.le_of_ble_eq_true rfl) dX0_spread_36 ⟨Nat.zero_le _, Nat.zero_le _⟩ [] [0, 1, 2, 3, 4, 5, 6] rfl (by decide) rfl (by decide) (by decide) (fun r_12 u H locs h hP hD hS => ?_)
        have hP : va_P D vwCl [(h0, .inr (0, [.ref a_kd, .ref a_hd, .ref a_pl, .ref a_st, .ref a_ho, .ref a_be, .int nc, .int nn, .int dy])), (a_kd, .inl (cI, 7, .inl kd)), (a_hd, .inl (cI, 7, .inl hd)), (a_pl, .inl (cI, 7, .inl pl)), (a_st, .inl (cI, 7, .inl st)), (a_ho, .inl (cI, 6, .inl ho)), (a_be, .inl (cI, 42, .inl be))] H := hP
        have hD : va_D A [(h0, .inr (0, [.ref a_kd, .ref a_hd, .ref a_pl, .ref a_st, .ref a_ho, .ref a_be, .int nc, .int nn, .int dy])), (a_kd, .inl (cI, 7, .inl kd)), (a_hd, .inl (cI, 7, .inl hd)), (a_pl, .inl (cI, 7, .inl pl)), (a_st, .inl (cI, 7, .inl st)), (a_ho, .inl (cI, 6, .inl ho)), (a_be, .inl (cI, 42, .inl be))] := hD
        refine k0V_v (As := [.int x3, .int x1, .int r_12]) (n := 3) ⟨hx, hb, hml, hown, hts⟩ hK hP hD hS hA (c_X0_setBelief l D cI cC cQ h0 a_kd a_hd a_pl a_st a_ho a_be kd hd pl st ho be nc nn dy x3 x1 r_12 _ h) gX0_spread_X0_setBelief rfl rfl ⟨rfl, rfl⟩ yoX0_setBelief ⟨Nat.le_of_ble_eq_true rfl, Nat.le_of_ble_eq_true rfl⟩ (q0 := 0) (ci := 0) rfl rfl rfl rfl hl.1 rfl (Nat.le_of_ble_eq_true rfl) dX0_spread_39 ⟨Nat.zero_le _, Nat.zero_le _⟩ (fun be_13 H locs h hP hD hS => ?_)
        have hP : va_P D vwCl [(h0, .inr (0, [.ref a_kd, .ref a_hd, .ref a_pl, .ref a_st, .ref a_ho, .ref a_be, .int nc, .int nn, .int dy])), (a_kd, .inl (cI, 7, .inl kd)), (a_hd, .inl (cI, 7, .inl hd)), (a_pl, .inl (cI, 7, .inl pl)), (a_st, .inl (cI, 7, .inl st)), (a_ho, .inl (cI, 6, .inl ho)), (a_be, .inl (cI, 42, .inl be_13))] H := hP
        have hD : va_D A [(h0, .inr (0, [.ref a_kd, .ref a_hd, .ref a_pl, .ref a_st, .ref a_ho, .ref a_be, .int nc, .int nn, .int dy])), (a_kd, .inl (cI, 7, .inl kd)), (a_hd, .inl (cI, 7, .inl hd)), (a_pl, .inl (cI, 7, .inl pl)), (a_st, .inl (cI, 7, .inl st)), (a_ho, .inl (cI, 6, .inl ho)), (a_be, .inl (cI, 42, .inl be_13))] := hD
        refine lv_iinc (v := (x3 + (1 : Int32))) (lv' := [(3, .int (x3 + (1 : Int32))), (0, .ref h0), (1, .int x1), (2, .int x2)]) hx hb dX0_spread_42 hl (k := 3) rfl rfl (by decide) rfl (fun ls hl => ?_)
        refine lv_goto (tgt := 11) hx hb dX0_spread_45 (by decide) ?_
        exact ih h hP hD hS (lv_sub hl [1, 2, 3, 0] rfl)
  refine lv_aload_n hx hb dX0_spread_0 rfl (lv_at hl 0 rfl) ?_
  refine lv_iload_n hx hb dX0_spread_1 rfl (lv_at hl 1 rfl) ?_
  refine k0V_i (As := [.int x1]) (n := 1) ⟨hx, hb, hml, hown, hts⟩ hK hP hD hS hA (c_X0_isKnown l D cI cC cQ h0 a_kd a_hd a_pl a_st a_ho a_be kd hd pl st ho be nc nn dy x1 _ h) gX0_spread_X0_isKnown rfl rfl ⟨rfl, rfl⟩ yoX0_isKnown ⟨Nat.le_of_ble_eq_true rfl, Nat.le_of_ble_eq_true rfl⟩ (q0 := 0) (ci := 0) rfl rfl rfl rfl hl.1 rfl (Nat.le_of_ble_eq_true rfl) dX0_spread_2 ⟨Nat.zero_le _, Nat.zero_le _⟩ (fun r_1 u H locs h hP hD hS => ?_)
  obtain ⟨b_2, h⟩ := h
  refine lv_if_eq (tgt := 9) hx hb dX0_spread_5 (by decide) (fun c_3 => ?_) (fun c_3 => ?_)
  · have h := h.1 c_3
    refine lv_iconst (v := 0) hx hb dX0_spread_9 (by decide) ?_
    refine lv_istore_n (lv' := [(3, .int (0 : Int32)), (0, .ref h0), (1, .int x1), (2, .int x2)]) hx hb dX0_spread_10 rfl hl (by decide) rfl (fun ls hl => ?_)
    obtain ⟨n_14, h⟩ := h
    exact L11 n_14 h hP hD hS (lv_sub hl [1, 2, 3, 0] rfl)
  · have h := h.2 c_3
    exact hret be _ _ _ ls h hP hD hS dX0_spread_8

/-! DoubtCourt$Court.liveFor -/
abbrev rmX0_liveFor : Room := { frames := 3, cells := 0, slots := 0, locals := 70 }
theorem yoX0_liveFor : yX0_liveFor.cls ≠ "java/lang/invoke/MethodHandle" ∧ yX0_liveFor.cls ≠ "java/lang/invoke/VarHandle" ∧ (parseMethodDescriptor yX0_liveFor.desc).map (fun d => d.parameters.length) = some 2 := by decide +kernel
set_option maxHeartbeats 4000000 in
set_option maxRecDepth 100000 in
theorem c_X0_liveFor (l : Launch) (D : va_G) (cI cC cQ : ClassId) (h0 : Nat) (a_kd : Nat) (a_hd : Nat) (a_pl : Nat) (a_st : Nat) (a_ho : Nat) (a_be : Nat) (kd : Nat → Int32) (hd : Nat → Int32) (pl : Nat → Int32) (st : Nat → Int32) (ho : Nat → Int32) (be : Nat → Int32) (nc : Int32) (nn : Int32) (dy : Int32) (x1 : Int32) (x2 : Int32) (Q : (Nat → Int32) → (Nat → Int32) → Prop) (h : wX0_liveFor x1 x2 kd hd pl st ho be nc Q) : Cv (S := (Nat → Int32) × (Nat → Int32)) l D cI cC cQ yX0_liveFor wsX0_liveFor rmX0_liveFor [.ref h0, .int x1, .int x2] [(h0, .inr (0, [.ref a_kd, .ref a_hd, .ref a_pl, .ref a_st, .ref a_ho, .ref a_be, .int nc, .int nn, .int dy])), (a_kd, .inl (cI, 7, .inl kd)), (a_hd, .inl (cI, 7, .inl hd)), (a_pl, .inl (cI, 7, .inl pl)), (a_st, .inl (cI, 7, .inl st)), (a_ho, .inl (cI, 6, .inl ho)), (a_be, .inl (cI, 42, .inl be))] (fun u => [(h0, .inr (0, [.ref a_kd, .ref a_hd, .ref a_pl, .ref a_st, .ref a_ho, .ref a_be, .int nc, .int nn, .int dy])), (a_kd, .inl (cI, 7, .inl kd)), (a_hd, .inl (cI, 7, .inl hd)), (a_pl, .inl (cI, 7, .inl pl)), (a_st, .inl (cI, 7, .inl st)), (a_ho, .inl (cI, 6, .inl u.1)), (a_be, .inl (cI, 42, .inl u.2))]) (fun u => Q u.1 u.2) := by
  refine Cv_mk (cc := cX0_liveFor) (maxL := 5) (by decide) rfl (Nat.le_of_ble_eq_true rfl) ?_
  intro p e s m args below meth c A Z ls hx hb hml hown hts hK hA hP hD hret hl
  have hS : va_S A s.heap s.heap [] := va_S.rf
  have hl : lv_has ls 5 [(0, .ref h0), (1, .int x1), (2, .int x2)] := hl
  have L2 : ∀ (n : Nat) {x1 : Int32} {x2 : Int32} {x3 : Int32} {ho : Nat → Int32} {be : Nat → Int32} {H : Heap} {locs : List Loc} {ls : Array Slot}, wX0_liveFor_L2 x1 x2 kd hd pl st nc Q n x3 ho be → va_P D vwCl [(h0, .inr (0, [.ref a_kd, .ref a_hd, .ref a_pl, .ref a_st, .ref a_ho, .ref a_be, .int nc, .int nn, .int dy])), (a_kd, .inl (cI, 7, .inl kd)), (a_hd, .inl (cI, 7, .inl hd)), (a_pl, .inl (cI, 7, .inl pl)), (a_st, .inl (cI, 7, .inl st)), (a_ho, .inl (cI, 6, .inl ho)), (a_be, .inl (cI, 42, .inl be))] H → va_D A [(h0, .inr (0, [.ref a_kd, .ref a_hd, .ref a_pl, .ref a_st, .ref a_ho, .ref a_be, .int nc, .int nn, .int dy])), (a_kd, .inl (cI, 7, .inl kd)), (a_hd, .inl (cI, 7, .inl hd)), (a_pl, .inl (cI, 7, .inl pl)), (a_st, .inl (cI, 7, .inl st)), (a_ho, .inl (cI, 6, .inl ho)), (a_be, .inl (cI, 42, .inl be))] → va_S A s.heap H locs → lv_has ls 5 [(0, .ref h0), (1, .int x1), (2, .int x2), (3, .int x3)] → W p l e rmX0_liveFor s m args below meth c H locs 0 0 Z (F0 m 2 ls []) := by
    intro n
    induction n with
    | zero =>
      intro x1 x2 x3 ho be H locs ls h hP hD hS hl
      exact (show False from h).elim
    | succ n ih =>
      intro x1 x2 x3 ho be H locs ls h hP hD hS hl
      refine lv_iload_n hx hb dX0_liveFor_2 rfl (lv_at hl 3 rfl) ?_
      refine lv_iload_n hx hb dX0_liveFor_3 rfl (lv_at hl 2 rfl) ?_
      refine lv_icmp_ge (tgt := 42) hx hb dX0_liveFor_4 (by decide) (fun c_8 => ?_) (fun c_8 => ?_)
      · have h := h.1 c_8
        exact hret (ho, be) _ _ _ ls h hP hD hS dX0_liveFor_42
      · have h := h.2 c_8
        refine lv_aload_n hx hb dX0_liveFor_7 rfl (lv_at hl 0 rfl) ?_
        refine lv_iload_n hx hb dX0_liveFor_8 rfl (lv_at hl 1 rfl) ?_
        refine k0V_i (As := [.int x1]) (n := 1) ⟨hx, hb, hml, hown, hts⟩ hK hP hD hS hA (c_X0_isKnown l D cI cC cQ h0 a_kd a_hd a_pl a_st a_ho a_be kd hd pl st ho be nc nn dy x1 _ h) gX0_liveFor_X0_isKnown rfl rfl ⟨rfl, rfl⟩ yoX0_isKnown ⟨Nat.le_of_ble_eq_true rfl, Nat.le_of_ble_eq_true rfl⟩ (q0 := 0) (ci := 0) rfl rfl rfl rfl hl.1 rfl (Nat.le_of_ble_eq_true rfl) dX0_liveFor_9 ⟨Nat.zero_le _, Nat.zero_le _⟩ (fun r_9 u H locs h hP hD hS => ?_)
        obtain ⟨b_10, h⟩ := h
        refine lv_if_ne (tgt := 42) hx hb dX0_liveFor_12 (by decide) (fun c_11 => ?_) (fun c_11 => ?_)
        · have h := h.2 c_11
          exact hret (ho, be) _ _ _ ls h hP hD hS dX0_liveFor_42
        · have h := h.1 c_11
          refine lv_aload_n hx hb dX0_liveFor_15 rfl (lv_at hl 0 rfl) ?_
          refine lv_iload_n hx hb dX0_liveFor_16 rfl (lv_at hl 1 rfl) ?_
          refine k0V_i (As := [.int x1]) (n := 1) ⟨hx, hb, hml, hown, hts⟩ hK hP hD hS hA (c_X0_doubters l D cI cC cQ h0 a_kd a_hd a_pl a_st a_ho a_be kd hd pl st ho be nc nn dy x1 _ h) gX0_liveFor_X0_doubters rfl rfl ⟨rfl, rfl⟩ yoX0_doubters ⟨Nat.le_of_ble_eq_true rfl, Nat.le_of_ble_eq_true rfl⟩ (q0 := 0) (ci := 0) rfl rfl rfl rfl hl.1 rfl (Nat.le_of_ble_eq_true rfl) dX0_liveFor_17 ⟨Nat.zero_le _, Nat.zero_le _⟩ (fun r_12 u H locs h hP hD hS => ?_)
          refine lv_istore (lv' := [(4, .int r_12), (0, .ref h0), (1, .int x1), (2, .int x2), (3, .int x3)]) hx hb dX0_liveFor_20 hl (by decide) rfl (fun ls hl => ?_)
          refine lv_aload_n hx hb dX0_liveFor_22 rfl (lv_at hl 1 rfl) ?_
          refine lv_iload_n hx hb dX0_liveFor_23 rfl (lv_at hl 2 rfl) ?_
          refine lv_iload hx hb dX0_liveFor_24 (lv_at hl 0 rfl) ?_
          refine k0V_v (As := [.int x1, .int r_12]) (n := 2) ⟨hx, hb, hml, hown, hts⟩ hK hP hD hS hA (c_X0_move l D cI cC cQ h0 a_kd a_hd a_pl a_st a_ho a_be kd hd pl st ho be nc nn dy x1 r_12 _ h) gX0_liveFor_X0_move rfl rfl ⟨rfl, rfl⟩ yoX0_move ⟨Nat.le_of_ble_eq_true rfl, Nat.le_of_ble_eq_true rfl⟩ (q0 := 0) (ci := 0) rfl rfl rfl rfl hl.1 rfl (Nat.le_of_ble_eq_true rfl) dX0_liveFor_26 ⟨Nat.zero_le _, Nat.zero_le _⟩ (fun ho_13 H locs h hP hD hS => ?_)
          have hP : va_P D vwCl [(h0, .inr (0, [.ref a_kd, .ref a_hd, .ref a_pl, .ref a_st, .ref a_ho, .ref a_be, .int nc, .int nn, .int dy])), (a_kd, .inl (cI, 7, .inl kd)), (a_hd, .inl (cI, 7, .inl hd)), (a_pl, .inl (cI, 7, .inl pl)), (a_st, .inl (cI, 7, .inl st)), (a_ho, .inl (cI, 6, .inl ho_13)), (a_be, .inl (cI, 42, .inl be))] H := hP
          have hD : va_D A [(h0, .inr (0, [.ref a_kd, .ref a_hd, .ref a_pl, .ref a_st, .ref a_ho, .ref a_be, .int nc, .int nn, .int dy])), (a_kd, .inl (cI, 7, .inl kd)), (a_hd, .inl (cI, 7, .inl hd)), (a_pl, .inl (cI, 7, .inl pl)), (a_st, .inl (cI, 7, .inl st)), (a_ho, .inl (cI, 6, .inl ho_13)), (a_be, .inl (cI, 42, .inl be))] := hD
          refine lv_aload_n hx hb dX0_liveFor_29 rfl (lv_at hl 1 rfl) ?_
          refine lv_iload_n hx hb dX0_liveFor_30 rfl (lv_at hl 2 rfl) ?_
          refine lv_iload hx hb dX0_liveFor_31 (lv_at hl 0 rfl) ?_
          refine k0V_v (As := [.int x1, .int r_12]) (n := 2) ⟨hx, hb, hml, hown, hts⟩ hK hP hD hS hA (c_X0_spread l D cI cC cQ h0 a_kd a_hd a_pl a_st a_ho a_be kd hd pl st ho_13 be nc nn dy x1 r_12 _ h) gX0_liveFor_X0_spread rfl rfl ⟨rfl, rfl⟩ yoX0_spread ⟨Nat.le_of_ble_eq_true rfl, Nat.le_of_ble_eq_true rfl⟩ (q0 := 0) (ci := 0) rfl rfl rfl rfl hl.1 rfl (Nat.le_of_ble_eq_true rfl) dX0_liveFor_33 ⟨Nat.zero_le _, Nat.zero_le _⟩ (fun be_14 H locs h hP hD hS => ?_)
          have hP : va_P D vwCl [(h0, .inr (0, [.ref a_kd, .ref a_hd, .ref a_pl, .ref a_st, .ref a_ho, .ref a_be, .int nc, .int nn, .int dy])), (a_kd, .inl (cI, 7, .inl kd)), (a_hd, .inl (cI, 7, .inl hd)), (a_pl, .inl (cI, 7, .inl pl)), (a_st, .inl (cI, 7, .inl st)), (a_ho, .inl (cI, 6, .inl ho_13)), (a_be, .inl (cI, 42, .inl be_14))] H := hP
          have hD : va_D A [(h0, .inr (0, [.ref a_kd, .ref a_hd, .ref a_pl, .ref a_st, .ref a_ho, .ref a_be, .int nc, .int nn, .int dy])), (a_kd, .inl (cI, 7, .inl kd)), (a_hd, .inl (cI, 7, .inl hd)), (a_pl, .inl (cI, 7, .inl pl)), (a_st, .inl (cI, 7, .inl st)), (a_ho, .inl (cI, 6, .inl ho_13)), (a_be, .inl (cI, 42, .inl be_14))] := hD
          refine lv_iinc (v := (x3 + (1 : Int32))) (lv' := [(3, .int (x3 + (1 : Int32))), (4, .int r_12), (0, .ref h0), (1, .int x1), (2, .int x2)]) hx hb dX0_liveFor_36 hl (k := 4) rfl rfl (by decide) rfl (fun ls hl => ?_)
          refine lv_goto (tgt := 2) hx hb dX0_liveFor_39 (by decide) ?_
          exact ih h hP hD hS (lv_sub hl [2, 3, 4, 0] rfl)
  refine lv_iconst (v := 0) hx hb dX0_liveFor_0 (by decide) ?_
  refine lv_istore_n (lv' := [(3, .int (0 : Int32)), (0, .ref h0), (1, .int x1), (2, .int x2)]) hx hb dX0_liveFor_1 rfl hl (by decide) rfl (fun ls hl => ?_)
  obtain ⟨n_15, h⟩ := h
  exact L2 n_15 h hP hD hS (lv_sub hl [1, 2, 3, 0] rfl)

/-! DoubtCourt$Court.live -/
abbrev rmX0_live : Room := { frames := 4, cells := 0, slots := 0, locals := 94 }
theorem yoX0_live : yX0_live.cls ≠ "java/lang/invoke/MethodHandle" ∧ yX0_live.cls ≠ "java/lang/invoke/VarHandle" ∧ (parseMethodDescriptor yX0_live.desc).map (fun d => d.parameters.length) = some 0 := by decide +kernel
set_option maxHeartbeats 4000000 in
set_option maxRecDepth 100000 in
theorem c_X0_live (l : Launch) (D : va_G) (cI cC cQ : ClassId) (h0 : Nat) (a_kd : Nat) (a_hd : Nat) (a_pl : Nat) (a_st : Nat) (a_ho : Nat) (a_be : Nat) (kd : Nat → Int32) (hd : Nat → Int32) (pl : Nat → Int32) (st : Nat → Int32) (ho : Nat → Int32) (be : Nat → Int32) (nc : Int32) (nn : Int32) (dy : Int32) (Q : (Nat → Int32) → (Nat → Int32) → Int32 → Prop) (h : wX0_live kd hd pl st ho be nc nn dy Q) : Cv (S := (Nat → Int32) × (Nat → Int32) × (Int32)) l D cI cC cQ yX0_live wsX0_live rmX0_live [.ref h0] [(h0, .inr (0, [.ref a_kd, .ref a_hd, .ref a_pl, .ref a_st, .ref a_ho, .ref a_be, .int nc, .int nn, .int dy])), (a_kd, .inl (cI, 7, .inl kd)), (a_hd, .inl (cI, 7, .inl hd)), (a_pl, .inl (cI, 7, .inl pl)), (a_st, .inl (cI, 7, .inl st)), (a_ho, .inl (cI, 6, .inl ho)), (a_be, .inl (cI, 42, .inl be))] (fun u => [(h0, .inr (0, [.ref a_kd, .ref a_hd, .ref a_pl, .ref a_st, .ref a_ho, .ref a_be, .int nc, .int nn, .int u.2.2])), (a_kd, .inl (cI, 7, .inl kd)), (a_hd, .inl (cI, 7, .inl hd)), (a_pl, .inl (cI, 7, .inl pl)), (a_st, .inl (cI, 7, .inl st)), (a_ho, .inl (cI, 6, .inl u.1)), (a_be, .inl (cI, 42, .inl u.2.1))]) (fun u => Q u.1 u.2.1 u.2.2) := by
  refine Cv_mk (cc := cX0_live) (maxL := 2) (by decide) rfl (Nat.le_of_ble_eq_true rfl) ?_
  intro p e s m args below meth c A Z ls hx hb hml hown hts hK hA hP hD hret hl
  have hS : va_S A s.heap s.heap [] := va_S.rf
  have hin0 : ∀ w ∈ u_ws RX0 TX0 9, w ∈ wsX0_live := by decide +kernel
  have k_0 := hts (.fieldLink RX0 34 "DoubtCourt$Court" "newsTold" "I") (by decide +kernel)
  have k_1 := hts (.fieldLink RX0 37 "DoubtCourt$Court" "days" "I") (by decide +kernel)
  have hl : lv_has ls 2 [(0, .ref h0)] := hl
  have L2 : ∀ (n : Nat) {x1 : Int32} {ho : Nat → Int32} {be : Nat → Int32} {dy : Int32} {H : Heap} {locs : List Loc} {ls : Array Slot}, wX0_live_L2 kd hd pl st nc nn dy Q n x1 ho be → va_P D vwCl [(h0, .inr (0, [.ref a_kd, .ref a_hd, .ref a_pl, .ref a_st, .ref a_ho, .ref a_be, .int nc, .int nn, .int dy])), (a_kd, .inl (cI, 7, .inl kd)), (a_hd, .inl (cI, 7, .inl hd)), (a_pl, .inl (cI, 7, .inl pl)), (a_st, .inl (cI, 7, .inl st)), (a_ho, .inl (cI, 6, .inl ho)), (a_be, .inl (cI, 42, .inl be))] H → va_D A [(h0, .inr (0, [.ref a_kd, .ref a_hd, .ref a_pl, .ref a_st, .ref a_ho, .ref a_be, .int nc, .int nn, .int dy])), (a_kd, .inl (cI, 7, .inl kd)), (a_hd, .inl (cI, 7, .inl hd)), (a_pl, .inl (cI, 7, .inl pl)), (a_st, .inl (cI, 7, .inl st)), (a_ho, .inl (cI, 6, .inl ho)), (a_be, .inl (cI, 42, .inl be))] → va_S A s.heap H locs → lv_has ls 2 [(0, .ref h0), (1, .int x1)] → W p l e rmX0_live s m args below meth c H locs 0 0 Z (F0 m 2 ls []) := by
    intro n
    induction n with
    | zero =>
      intro x1 ho be dy H locs ls h hP hD hS hl
      exact (show False from h).elim
    | succ n ih =>
      intro x1 ho be dy H locs ls h hP hD hS hl
      refine lv_iload_n hx hb dX0_live_2 rfl (lv_at hl 1 rfl) ?_
      refine lv_aload_n hx hb dX0_live_3 rfl (lv_at hl 0 rfl) ?_
      refine va_get (D := D) (ci := 0) (v := .int nn) (C := RX0) (T := TX0) (N := 9) hx hb hts hin0 hown hK.1 hP 0 rfl rfl 7 (by decide) (k_0) (fun _ h9 => h9) rfl dX0_live_4 ?_
      refine lv_icmp_ge (tgt := 22) hx hb dX0_live_7 (by decide) (fun c_4 => ?_) (fun c_4 => ?_)
      · have h := h.1 c_4
        refine lv_aload_n hx hb dX0_live_22 rfl (lv_at hl 0 rfl) ?_
        refine lv_dup hx hb dX0_live_23 rfl ?_
        refine va_get (D := D) (ci := 0) (v := .int dy) (C := RX0) (T := TX0) (N := 9) hx hb hts hin0 hown hK.1 hP 0 rfl rfl 8 (by decide) (k_1) (fun _ h9 => h9) rfl dX0_live_24 ?_
        refine lv_iconst (v := 1) hx hb dX0_live_27 (by decide) ?_
        refine lv_iadd hx hb dX0_live_28 ?_
        refine va_put (D := D) (ci := 0) (v := .int (dy + (1 : Int32))) (ty := .int) (C := RX0) (T := TX0) (N := 9) hx hb hts hin0 tyX0 tyX0_ok nmX0 hown hK.1 hP hD hS 0 rfl rfl 8 (by decide) (k_1) (fun _ h9 => h9) rfl (by decide +kernel) rfl rfl (Nat.le_of_ble_eq_true rfl) dX0_live_29 (fun H locs hP hD hS => ?_)
        have hP : va_P D vwCl [(h0, .inr (0, [.ref a_kd, .ref a_hd, .ref a_pl, .ref a_st, .ref a_ho, .ref a_be, .int nc, .int nn, .int (dy + (1 : Int32))])), (a_kd, .inl (cI, 7, .inl kd)), (a_hd, .inl (cI, 7, .inl hd)), (a_pl, .inl (cI, 7, .inl pl)), (a_st, .inl (cI, 7, .inl st)), (a_ho, .inl (cI, 6, .inl ho)), (a_be, .inl (cI, 42, .inl be))] H := hP
        have hD : va_D A [(h0, .inr (0, [.ref a_kd, .ref a_hd, .ref a_pl, .ref a_st, .ref a_ho, .ref a_be, .int nc, .int nn, .int (dy + (1 : Int32))])), (a_kd, .inl (cI, 7, .inl kd)), (a_hd, .inl (cI, 7, .inl hd)), (a_pl, .inl (cI, 7, .inl pl)), (a_st, .inl (cI, 7, .inl st)), (a_ho, .inl (cI, 6, .inl ho)), (a_be, .inl (cI, 42, .inl be))] := hD
        exact hret (ho, be, (dy + (1 : Int32))) _ _ _ ls h hP hD hS dX0_live_32
      · have h := h.2 c_4
        refine lv_aload_n hx hb dX0_live_10 rfl (lv_at hl 0 rfl) ?_
        refine lv_iload_n hx hb dX0_live_11 rfl (lv_at hl 1 rfl) ?_
        refine lv_iconst (v := 1) hx hb dX0_live_12 (by decide) ?_
        refine k0V_v (As := [.int x1, .int (1 : Int32)]) (n := 2) ⟨hx, hb, hml, hown, hts⟩ hK hP hD hS hA (c_X0_liveFor l D cI cC cQ h0 a_kd a_hd a_pl a_st a_ho a_be kd hd pl st ho be nc nn dy x1 (1 : Int32) _ h) gX0_live_X0_liveFor rfl rfl ⟨rfl, rfl⟩ yoX0_liveFor ⟨Nat.le_of_ble_eq_true rfl, Nat.le_of_ble_eq_true rfl⟩ (q0 := 0) (ci := 0) rfl rfl rfl rfl hl.1 rfl (Nat.le_of_ble_eq_true rfl) dX0_live_13 ⟨Nat.zero_le _, Nat.zero_le _⟩ (fun u H locs h hP hD hS => ?_)
        obtain ⟨ho_5, be_6⟩ := u
        have hP : va_P D vwCl [(h0, .inr (0, [.ref a_kd, .ref a_hd, .ref a_pl, .ref a_st, .ref a_ho, .ref a_be, .int nc, .int nn, .int dy])), (a_kd, .inl (cI, 7, .inl kd)), (a_hd, .inl (cI, 7, .inl hd)), (a_pl, .inl (cI, 7, .inl pl)), (a_st, .inl (cI, 7, .inl st)), (a_ho, .inl (cI, 6, .inl ho_5)), (a_be, .inl (cI, 42, .inl be_6))] H := hP
        have hD : va_D A [(h0, .inr (0, [.ref a_kd, .ref a_hd, .ref a_pl, .ref a_st, .ref a_ho, .ref a_be, .int nc, .int nn, .int dy])), (a_kd, .inl (cI, 7, .inl kd)), (a_hd, .inl (cI, 7, .inl hd)), (a_pl, .inl (cI, 7, .inl pl)), (a_st, .inl (cI, 7, .inl st)), (a_ho, .inl (cI, 6, .inl ho_5)), (a_be, .inl (cI, 42, .inl be_6))] := hD
        refine lv_iinc (v := (x1 + (1 : Int32))) (lv' := [(1, .int (x1 + (1 : Int32))), (0, .ref h0)]) hx hb dX0_live_16 hl (k := 1) rfl rfl (by decide) rfl (fun ls hl => ?_)
        refine lv_goto (tgt := 2) hx hb dX0_live_19 (by decide) ?_
        exact ih h hP hD hS (lv_sub hl [1, 0] rfl)
  refine lv_iconst (v := 0) hx hb dX0_live_0 (by decide) ?_
  refine lv_istore_n (lv' := [(1, .int (0 : Int32)), (0, .ref h0)]) hx hb dX0_live_1 rfl hl (by decide) rfl (fun ls hl => ?_)
  obtain ⟨n_7, h⟩ := h
  exact L2 n_7 h hP hD hS (lv_sub hl [1, 0] rfl)

/-! DoubtCourt$Court.slipLowest -/
abbrev rmX0_slipLowest : Room := { frames := 2, cells := 0, slots := 0, locals := 44 }
theorem yoX0_slipLowest : yX0_slipLowest.cls ≠ "java/lang/invoke/MethodHandle" ∧ yX0_slipLowest.cls ≠ "java/lang/invoke/VarHandle" ∧ (parseMethodDescriptor yX0_slipLowest.desc).map (fun d => d.parameters.length) = some 0 := by decide +kernel
set_option maxHeartbeats 4000000 in
set_option maxRecDepth 100000 in
theorem c_X0_slipLowest (l : Launch) (D : va_G) (cI cC cQ : ClassId) (h0 : Nat) (a_kd : Nat) (a_hd : Nat) (a_pl : Nat) (a_st : Nat) (a_ho : Nat) (a_be : Nat) (kd : Nat → Int32) (hd : Nat → Int32) (pl : Nat → Int32) (st : Nat → Int32) (ho : Nat → Int32) (be : Nat → Int32) (nc : Int32) (nn : Int32) (dy : Int32) (Q : (Nat → Int32) → Prop) (h : wX0_slipLowest pl st ho nn Q) : Cv (S := (Nat → Int32)) l D cI cC cQ yX0_slipLowest wsX0_slipLowest rmX0_slipLowest [.ref h0] [(h0, .inr (0, [.ref a_kd, .ref a_hd, .ref a_pl, .ref a_st, .ref a_ho, .ref a_be, .int nc, .int nn, .int dy])), (a_kd, .inl (cI, 7, .inl kd)), (a_hd, .inl (cI, 7, .inl hd)), (a_pl, .inl (cI, 7, .inl pl)), (a_st, .inl (cI, 7, .inl st)), (a_ho, .inl (cI, 6, .inl ho)), (a_be, .inl (cI, 42, .inl be))] (fun u => [(h0, .inr (0, [.ref a_kd, .ref a_hd, .ref a_pl, .ref a_st, .ref a_ho, .ref a_be, .int nc, .int nn, .int dy])), (a_kd, .inl (cI, 7, .inl kd)), (a_hd, .inl (cI, 7, .inl hd)), (a_pl, .inl (cI, 7, .inl pl)), (a_st, .inl (cI, 7, .inl st)), (a_ho, .inl (cI, 6, .inl u)), (a_be, .inl (cI, 42, .inl be))]) (fun u => Q u) := by
  refine Cv_mk (cc := cX0_slipLowest) (maxL := 2) (by decide) rfl (Nat.le_of_ble_eq_true rfl) ?_
  intro p e s m args below meth c A Z ls hx hb hml hown hts hK hA hP hD hret hl
  have hS : va_S A s.heap s.heap [] := va_S.rf
  have hin0 : ∀ w ∈ u_ws RX0 TX0 9, w ∈ wsX0_slipLowest := by decide +kernel
  have k_0 := hts (.fieldLink RX0 34 "DoubtCourt$Court" "newsTold" "I") (by decide +kernel)
  have hl : lv_has ls 2 [(0, .ref h0)] := hl
  have L2 : ∀ (n : Nat) {x1 : Int32} {ho : Nat → Int32} {H : Heap} {locs : List Loc} {ls : Array Slot}, wX0_slipLowest_L2 pl st ho nn Q n x1 → va_P D vwCl [(h0, .inr (0, [.ref a_kd, .ref a_hd, .ref a_pl, .ref a_st, .ref a_ho, .ref a_be, .int nc, .int nn, .int dy])), (a_kd, .inl (cI, 7, .inl kd)), (a_hd, .inl (cI, 7, .inl hd)), (a_pl, .inl (cI, 7, .inl pl)), (a_st, .inl (cI, 7, .inl st)), (a_ho, .inl (cI, 6, .inl ho)), (a_be, .inl (cI, 42, .inl be))] H → va_D A [(h0, .inr (0, [.ref a_kd, .ref a_hd, .ref a_pl, .ref a_st, .ref a_ho, .ref a_be, .int nc, .int nn, .int dy])), (a_kd, .inl (cI, 7, .inl kd)), (a_hd, .inl (cI, 7, .inl hd)), (a_pl, .inl (cI, 7, .inl pl)), (a_st, .inl (cI, 7, .inl st)), (a_ho, .inl (cI, 6, .inl ho)), (a_be, .inl (cI, 42, .inl be))] → va_S A s.heap H locs → lv_has ls 2 [(0, .ref h0), (1, .int x1)] → W p l e rmX0_slipLowest s m args below meth c H locs 0 0 Z (F0 m 2 ls []) := by
    intro n
    induction n with
    | zero =>
      intro x1 ho H locs ls h hP hD hS hl
      exact (show False from h).elim
    | succ n ih =>
      intro x1 ho H locs ls h hP hD hS hl
      refine lv_iload_n hx hb dX0_slipLowest_2 rfl (lv_at hl 1 rfl) ?_
      refine lv_aload_n hx hb dX0_slipLowest_3 rfl (lv_at hl 0 rfl) ?_
      refine va_get (D := D) (ci := 0) (v := .int nn) (C := RX0) (T := TX0) (N := 9) hx hb hts hin0 hown hK.1 hP 0 rfl rfl 7 (by decide) (k_0) (fun _ h9 => h9) rfl dX0_slipLowest_4 ?_
      refine lv_icmp_ge (tgt := 30) hx hb dX0_slipLowest_7 (by decide) (fun c_6 => ?_) (fun c_6 => ?_)
      · have h := h.1 c_6
        exact hret ho _ _ _ ls h hP hD hS dX0_slipLowest_30
      · have h := h.2 c_6
        refine lv_aload_n hx hb dX0_slipLowest_10 rfl (lv_at hl 0 rfl) ?_
        refine lv_iload_n hx hb dX0_slipLowest_11 rfl (lv_at hl 1 rfl) ?_
        refine k0V_i (As := [.int x1]) (n := 1) ⟨hx, hb, hml, hown, hts⟩ hK hP hD hS hA (c_X0_isKnown l D cI cC cQ h0 a_kd a_hd a_pl a_st a_ho a_be kd hd pl st ho be nc nn dy x1 _ h) gX0_slipLowest_X0_isKnown rfl rfl ⟨rfl, rfl⟩ yoX0_isKnown ⟨Nat.le_of_ble_eq_true rfl, Nat.le_of_ble_eq_true rfl⟩ (q0 := 0) (ci := 0) rfl rfl rfl rfl hl.1 rfl (Nat.le_of_ble_eq_true rfl) dX0_slipLowest_12 ⟨Nat.zero_le _, Nat.zero_le _⟩ (fun r_7 u H locs h hP hD hS => ?_)
        obtain ⟨b_8, h⟩ := h
        refine lv_if_ne (tgt := 24) hx hb dX0_slipLowest_15 (by decide) (fun c_9 => ?_) (fun c_9 => ?_)
        · have h := h.2 c_9
          refine lv_iinc (v := (x1 + (1 : Int32))) (lv' := [(1, .int (x1 + (1 : Int32))), (0, .ref h0)]) hx hb dX0_slipLowest_24 hl (k := 1) rfl rfl (by decide) rfl (fun ls hl => ?_)
          refine lv_goto (tgt := 2) hx hb dX0_slipLowest_27 (by decide) ?_
          exact ih h hP hD hS (lv_sub hl [1, 0] rfl)
        · have h := h.1 c_9
          refine lv_aload_n hx hb dX0_slipLowest_18 rfl (lv_at hl 0 rfl) ?_
          refine lv_iload_n hx hb dX0_slipLowest_19 rfl (lv_at hl 1 rfl) ?_
          refine k0V_v (As := [.int x1]) (n := 1) ⟨hx, hb, hml, hown, hts⟩ hK hP hD hS hA (c_X0_goUp l D cI cC cQ h0 a_kd a_hd a_pl a_st a_ho a_be kd hd pl st ho be nc nn dy x1 _ h) gX0_slipLowest_X0_goUp rfl rfl ⟨rfl, rfl⟩ yoX0_goUp ⟨Nat.le_of_ble_eq_true rfl, Nat.le_of_ble_eq_true rfl⟩ (q0 := 0) (ci := 0) rfl rfl rfl rfl hl.1 rfl (Nat.le_of_ble_eq_true rfl) dX0_slipLowest_20 ⟨Nat.zero_le _, Nat.zero_le _⟩ (fun ho_10 H locs h hP hD hS => ?_)
          have hP : va_P D vwCl [(h0, .inr (0, [.ref a_kd, .ref a_hd, .ref a_pl, .ref a_st, .ref a_ho, .ref a_be, .int nc, .int nn, .int dy])), (a_kd, .inl (cI, 7, .inl kd)), (a_hd, .inl (cI, 7, .inl hd)), (a_pl, .inl (cI, 7, .inl pl)), (a_st, .inl (cI, 7, .inl st)), (a_ho, .inl (cI, 6, .inl ho_10)), (a_be, .inl (cI, 42, .inl be))] H := hP
          have hD : va_D A [(h0, .inr (0, [.ref a_kd, .ref a_hd, .ref a_pl, .ref a_st, .ref a_ho, .ref a_be, .int nc, .int nn, .int dy])), (a_kd, .inl (cI, 7, .inl kd)), (a_hd, .inl (cI, 7, .inl hd)), (a_pl, .inl (cI, 7, .inl pl)), (a_st, .inl (cI, 7, .inl st)), (a_ho, .inl (cI, 6, .inl ho_10)), (a_be, .inl (cI, 42, .inl be))] := hD
          exact hret ho_10 _ _ _ ls h hP hD hS dX0_slipLowest_23
  refine lv_iconst (v := 0) hx hb dX0_slipLowest_0 (by decide) ?_
  refine lv_istore_n (lv' := [(1, .int (0 : Int32)), (0, .ref h0)]) hx hb dX0_slipLowest_1 rfl hl (by decide) rfl (fun ls hl => ?_)
  obtain ⟨n_11, h⟩ := h
  exact L2 n_11 h hP hD hS (lv_sub hl [1, 0] rfl)

/-! DoubtCourt$Court.untilKnown -/
abbrev rmX0_untilKnown : Room := { frames := 4, cells := 0, slots := 0, locals := 94 }
theorem yoX0_untilKnown : yX0_untilKnown.cls ≠ "java/lang/invoke/MethodHandle" ∧ yX0_untilKnown.cls ≠ "java/lang/invoke/VarHandle" ∧ (parseMethodDescriptor yX0_untilKnown.desc).map (fun d => d.parameters.length) = some 2 := by decide +kernel
set_option maxHeartbeats 4000000 in
set_option maxRecDepth 100000 in
theorem c_X0_untilKnown (l : Launch) (D : va_G) (cI cC cQ : ClassId) (h0 : Nat) (a_kd : Nat) (a_hd : Nat) (a_pl : Nat) (a_st : Nat) (a_ho : Nat) (a_be : Nat) (kd : Nat → Int32) (hd : Nat → Int32) (pl : Nat → Int32) (st : Nat → Int32) (ho : Nat → Int32) (be : Nat → Int32) (nc : Int32) (nn : Int32) (dy : Int32) (x1 : Int32) (x2 : Int32) (Q : Int32 → (Nat → Int32) → (Nat → Int32) → Prop) (h : wX0_untilKnown x1 x2 kd hd pl st ho be nc Q) : Ci (S := (Nat → Int32) × (Nat → Int32)) l D cI cC cQ yX0_untilKnown wsX0_untilKnown rmX0_untilKnown [.ref h0, .int x1, .int x2] [(h0, .inr (0, [.ref a_kd, .ref a_hd, .ref a_pl, .ref a_st, .ref a_ho, .ref a_be, .int nc, .int nn, .int dy])), (a_kd, .inl (cI, 7, .inl kd)), (a_hd, .inl (cI, 7, .inl hd)), (a_pl, .inl (cI, 7, .inl pl)), (a_st, .inl (cI, 7, .inl st)), (a_ho, .inl (cI, 6, .inl ho)), (a_be, .inl (cI, 42, .inl be))] (fun u => [(h0, .inr (0, [.ref a_kd, .ref a_hd, .ref a_pl, .ref a_st, .ref a_ho, .ref a_be, .int nc, .int nn, .int dy])), (a_kd, .inl (cI, 7, .inl kd)), (a_hd, .inl (cI, 7, .inl hd)), (a_pl, .inl (cI, 7, .inl pl)), (a_st, .inl (cI, 7, .inl st)), (a_ho, .inl (cI, 6, .inl u.1)), (a_be, .inl (cI, 42, .inl u.2))]) (fun r u => Q r u.1 u.2) := by
  refine Ci_mk (cc := cX0_untilKnown) (maxL := 4) (by decide) rfl (Nat.le_of_ble_eq_true rfl) ?_
  intro p e s m args below meth c A Z ls hx hb hml hown hts hK hA hP hD hret hl
  have hS : va_S A s.heap s.heap [] := va_S.rf
  have hl : lv_has ls 4 [(0, .ref h0), (1, .int x1), (2, .int x2)] := hl
  have L2 : ∀ (n : Nat) {x1 : Int32} {x2 : Int32} {x3 : Int32} {ho : Nat → Int32} {be : Nat → Int32} {H : Heap} {locs : List Loc} {ls : Array Slot}, wX0_untilKnown_L2 x1 x2 kd hd pl st nc Q n x3 ho be → va_P D vwCl [(h0, .inr (0, [.ref a_kd, .ref a_hd, .ref a_pl, .ref a_st, .ref a_ho, .ref a_be, .int nc, .int nn, .int dy])), (a_kd, .inl (cI, 7, .inl kd)), (a_hd, .inl (cI, 7, .inl hd)), (a_pl, .inl (cI, 7, .inl pl)), (a_st, .inl (cI, 7, .inl st)), (a_ho, .inl (cI, 6, .inl ho)), (a_be, .inl (cI, 42, .inl be))] H → va_D A [(h0, .inr (0, [.ref a_kd, .ref a_hd, .ref a_pl, .ref a_st, .ref a_ho, .ref a_be, .int nc, .int nn, .int dy])), (a_kd, .inl (cI, 7, .inl kd)), (a_hd, .inl (cI, 7, .inl hd)), (a_pl, .inl (cI, 7, .inl pl)), (a_st, .inl (cI, 7, .inl st)), (a_ho, .inl (cI, 6, .inl ho)), (a_be, .inl (cI, 42, .inl be))] → va_S A s.heap H locs → lv_has ls 4 [(0, .ref h0), (1, .int x1), (2, .int x2), (3, .int x3)] → W p l e rmX0_untilKnown s m args below meth c H locs 0 0 Z (F0 m 2 ls []) := by
    intro n
    induction n with
    | zero =>
      intro x1 x2 x3 ho be H locs ls h hP hD hS hl
      exact (show False from h).elim
    | succ n ih =>
      intro x1 x2 x3 ho be H locs ls h hP hD hS hl
      refine lv_iload_n hx hb dX0_untilKnown_2 rfl (lv_at hl 3 rfl) ?_
      refine lv_iload_n hx hb dX0_untilKnown_3 rfl (lv_at hl 2 rfl) ?_
      refine lv_icmp_gt (tgt := 29) hx hb dX0_untilKnown_4 (by decide) (fun c_7 => ?_) (fun c_7 => ?_)
      · have h := h.1 c_7
        refine lv_bipush (v := -4) hx hb dX0_untilKnown_29 (by decide) ?_
        exact hret (-4 : Int32) (ho, be) _ _ _ ls h hP hD hS dX0_untilKnown_31
      · have h := h.2 c_7
        refine lv_aload_n hx hb dX0_untilKnown_7 rfl (lv_at hl 0 rfl) ?_
        refine lv_iload_n hx hb dX0_untilKnown_8 rfl (lv_at hl 1 rfl) ?_
        refine k0V_i (As := [.int x1]) (n := 1) ⟨hx, hb, hml, hown, hts⟩ hK hP hD hS hA (c_X0_isKnown l D cI cC cQ h0 a_kd a_hd a_pl a_st a_ho a_be kd hd pl st ho be nc nn dy x1 _ h) gX0_untilKnown_X0_isKnown rfl rfl ⟨rfl, rfl⟩ yoX0_isKnown ⟨Nat.le_of_ble_eq_true rfl, Nat.le_of_ble_eq_true rfl⟩ (q0 := 0) (ci := 0) rfl rfl rfl rfl hl.1 rfl (Nat.le_of_ble_eq_true rfl) dX0_untilKnown_9 ⟨Nat.zero_le _, Nat.zero_le _⟩ (fun r_8 u H locs h hP hD hS => ?_)
        obtain ⟨b_9, h⟩ := h
        refine lv_if_eq (tgt := 17) hx hb dX0_untilKnown_12 (by decide) (fun c_10 => ?_) (fun c_10 => ?_)
        · have h := h.1 c_10
          refine lv_aload_n hx hb dX0_untilKnown_17 rfl (lv_at hl 0 rfl) ?_
          refine lv_iload_n hx hb dX0_untilKnown_18 rfl (lv_at hl 1 rfl) ?_
          refine lv_iconst (v := 1) hx hb dX0_untilKnown_19 (by decide) ?_
          refine k0V_v (As := [.int x1, .int (1 : Int32)]) (n := 2) ⟨hx, hb, hml, hown, hts⟩ hK hP hD hS hA (c_X0_liveFor l D cI cC cQ h0 a_kd a_hd a_pl a_st a_ho a_be kd hd pl st ho be nc nn dy x1 (1 : Int32) _ h) gX0_untilKnown_X0_liveFor rfl rfl ⟨rfl, rfl⟩ yoX0_liveFor ⟨Nat.le_of_ble_eq_true rfl, Nat.le_of_ble_eq_true rfl⟩ (q0 := 0) (ci := 0) rfl rfl rfl rfl hl.1 rfl (Nat.le_of_ble_eq_true rfl) dX0_untilKnown_20 ⟨Nat.zero_le _, Nat.zero_le _⟩ (fun u H locs h hP hD hS => ?_)
          obtain ⟨ho_11, be_12⟩ := u
          have hP : va_P D vwCl [(h0, .inr (0, [.ref a_kd, .ref a_hd, .ref a_pl, .ref a_st, .ref a_ho, .ref a_be, .int nc, .int nn, .int dy])), (a_kd, .inl (cI, 7, .inl kd)), (a_hd, .inl (cI, 7, .inl hd)), (a_pl, .inl (cI, 7, .inl pl)), (a_st, .inl (cI, 7, .inl st)), (a_ho, .inl (cI, 6, .inl ho_11)), (a_be, .inl (cI, 42, .inl be_12))] H := hP
          have hD : va_D A [(h0, .inr (0, [.ref a_kd, .ref a_hd, .ref a_pl, .ref a_st, .ref a_ho, .ref a_be, .int nc, .int nn, .int dy])), (a_kd, .inl (cI, 7, .inl kd)), (a_hd, .inl (cI, 7, .inl hd)), (a_pl, .inl (cI, 7, .inl pl)), (a_st, .inl (cI, 7, .inl st)), (a_ho, .inl (cI, 6, .inl ho_11)), (a_be, .inl (cI, 42, .inl be_12))] := hD
          refine lv_iinc (v := (x3 + (1 : Int32))) (lv' := [(3, .int (x3 + (1 : Int32))), (0, .ref h0), (1, .int x1), (2, .int x2)]) hx hb dX0_untilKnown_23 hl (k := 3) rfl rfl (by decide) rfl (fun ls hl => ?_)
          refine lv_goto (tgt := 2) hx hb dX0_untilKnown_26 (by decide) ?_
          exact ih h hP hD hS (lv_sub hl [1, 2, 3, 0] rfl)
        · have h := h.2 c_10
          refine lv_iload_n hx hb dX0_untilKnown_15 rfl (lv_at hl 3 rfl) ?_
          exact hret x3 (ho, be) _ _ _ ls h hP hD hS dX0_untilKnown_16
  refine lv_iconst (v := 0) hx hb dX0_untilKnown_0 (by decide) ?_
  refine lv_istore_n (lv' := [(3, .int (0 : Int32)), (0, .ref h0), (1, .int x1), (2, .int x2)]) hx hb dX0_untilKnown_1 rfl hl (by decide) rfl (fun ls hl => ?_)
  obtain ⟨n_13, h⟩ := h
  exact L2 n_13 h hP hD hS (lv_sub hl [1, 2, 3, 0] rfl)

/-! DoubtCourt$Court.obey -/
abbrev rmX0_obey : Room := { frames := 2, cells := 0, slots := 0, locals := 45 }
theorem yoX0_obey : yX0_obey.cls ≠ "java/lang/invoke/MethodHandle" ∧ yX0_obey.cls ≠ "java/lang/invoke/VarHandle" ∧ (parseMethodDescriptor yX0_obey.desc).map (fun d => d.parameters.length) = some 1 := by decide +kernel
set_option maxHeartbeats 4000000 in
set_option maxRecDepth 100000 in
theorem c_X0_obey (l : Launch) (D : va_G) (cI cC cQ : ClassId) (h0 : Nat) (a_kd : Nat) (a_hd : Nat) (a_pl : Nat) (a_st : Nat) (a_ho : Nat) (a_be : Nat) (kd : Nat → Int32) (hd : Nat → Int32) (pl : Nat → Int32) (st : Nat → Int32) (ho : Nat → Int32) (be : Nat → Int32) (nc : Int32) (nn : Int32) (dy : Int32) (x1 : Int32) (Q : (Nat → Int32) → (Nat → Int32) → (Nat → Int32) → (Nat → Int32) → Prop) (h : wX0_obey x1 pl st ho be nc nn Q) : Cv (S := (Nat → Int32) × (Nat → Int32) × (Nat → Int32) × (Nat → Int32)) l D cI cC cQ yX0_obey wsX0_obey rmX0_obey [.ref h0, .int x1] [(h0, .inr (0, [.ref a_kd, .ref a_hd, .ref a_pl, .ref a_st, .ref a_ho, .ref a_be, .int nc, .int nn, .int dy])), (a_kd, .inl (cI, 7, .inl kd)), (a_hd, .inl (cI, 7, .inl hd)), (a_pl, .inl (cI, 7, .inl pl)), (a_st, .inl (cI, 7, .inl st)), (a_ho, .inl (cI, 6, .inl ho)), (a_be, .inl (cI, 42, .inl be))] (fun u => [(h0, .inr (0, [.ref a_kd, .ref a_hd, .ref a_pl, .ref a_st, .ref a_ho, .ref a_be, .int nc, .int nn, .int dy])), (a_kd, .inl (cI, 7, .inl kd)), (a_hd, .inl (cI, 7, .inl hd)), (a_pl, .inl (cI, 7, .inl u.1)), (a_st, .inl (cI, 7, .inl u.2.1)), (a_ho, .inl (cI, 6, .inl u.2.2.1)), (a_be, .inl (cI, 42, .inl u.2.2.2))]) (fun u => Q u.1 u.2.1 u.2.2.1 u.2.2.2) := by
  refine Cv_mk (cc := cX0_obey) (maxL := 4) (by decide) rfl (Nat.le_of_ble_eq_true rfl) ?_
  intro p e s m args below meth c A Z ls hx hb hml hown hts hK hA hP hD hret hl
  have hS : va_S A s.heap s.heap [] := va_S.rf
  have hin0 : ∀ w ∈ u_ws RX0 TX0 9, w ∈ wsX0_obey := by decide +kernel
  have k_0 := hts (.fieldLink RX0 30 "DoubtCourt$Court" "courtiers" "I") (by decide +kernel)
  have k_1 := hts (.initialized RX5) (by decide +kernel)
  have k_2 := hts (.static yX5_remainder) (by decide +kernel)
  have k_3 := hts (.fieldLink RX0 34 "DoubtCourt$Court" "newsTold" "I") (by decide +kernel)
  have k_4 := hts (.static yX5_cutBelief) (by decide +kernel)
  have k_5 := hts (.fieldLink RX0 24 "DoubtCourt$Court" "holder" "[I") (by decide +kernel)
  have k_6 := hts (.static yX5_put) (by decide +kernel)
  have hl : lv_has ls 4 [(0, .ref h0), (1, .int x1)] := hl
  refine lv_iload_n hx hb dX0_obey_0 rfl (lv_at hl 1 rfl) ?_
  refine lv_bipush (v := 8) hx hb dX0_obey_1 (by decide) ?_
  refine lv_idiv hx hb dX0_obey_3 (by decide) ?_
  refine lv_aload_n hx hb dX0_obey_4 rfl (lv_at hl 0 rfl) ?_
  refine va_get (D := D) (ci := 0) (v := .int nc) (C := RX0) (T := TX0) (N := 9) hx hb hts hin0 hown hK.1 hP 0 rfl rfl 6 (by decide) (k_0) (fun _ h9 => h9) rfl dX0_obey_5 ?_
  refine kSN_i (wr := [(h0, .inr (0, [.ref a_kd, .ref a_hd, .ref a_pl, .ref a_st, .ref a_ho, .ref a_be, .int nc, .int nn, .int dy])), (a_kd, .inl (cI, 7, .inl kd)), (a_hd, .inl (cI, 7, .inl hd)), (a_pl, .inl (cI, 7, .inl pl)), (a_st, .inl (cI, 7, .inl st)), (a_ho, .inl (cI, 6, .inl ho)), (a_be, .inl (cI, 42, .inl be))]) (As := [.int (x1 / (8 : Int32)), .int nc]) (n := 2) ⟨hx, hb, hml, hown, hts⟩ hK hP hD hS hA (c_X5_remainder l D cI cC cQ   (x1 / (8 : Int32)) nc _ h) gX0_obey_X5_remainder_n83 (hK.2 _ (List.mem_of_getElem? (i := 6) rfl)) (k_1) (k_2) rfl ⟨rfl, rfl⟩ yoX5_remainder ⟨Nat.le_of_ble_eq_true rfl, Nat.le_of_ble_eq_true rfl⟩ rfl hl.1 rfl (Nat.le_of_ble_eq_true rfl) dX0_obey_8 ⟨Nat.zero_le _, Nat.zero_le _⟩ [] [0, 1, 2, 3, 4, 5, 6] rfl (by decide) rfl (by decide) (by decide) (fun r_1 u H locs h hP hD hS => ?_)
  have hP : va_P D vwCl [(h0, .inr (0, [.ref a_kd, .ref a_hd, .ref a_pl, .ref a_st, .ref a_ho, .ref a_be, .int nc, .int nn, .int dy])), (a_kd, .inl (cI, 7, .inl kd)), (a_hd, .inl (cI, 7, .inl hd)), (a_pl, .inl (cI, 7, .inl pl)), (a_st, .inl (cI, 7, .inl st)), (a_ho, .inl (cI, 6, .inl ho)), (a_be, .inl (cI, 42, .inl be))] H := hP
  have hD : va_D A [(h0, .inr (0, [.ref a_kd, .ref a_hd, .ref a_pl, .ref a_st, .ref a_ho, .ref a_be, .int nc, .int nn, .int dy])), (a_kd, .inl (cI, 7, .inl kd)), (a_hd, .inl (cI, 7, .inl hd)), (a_pl, .inl (cI, 7, .inl pl)), (a_st, .inl (cI, 7, .inl st)), (a_ho, .inl (cI, 6, .inl ho)), (a_be, .inl (cI, 42, .inl be))] := hD
  refine lv_istore_n (lv' := [(2, .int r_1), (0, .ref h0), (1, .int x1)]) hx hb dX0_obey_11 rfl hl (by decide) rfl (fun ls hl => ?_)
  refine lv_iload_n hx hb dX0_obey_12 rfl (lv_at hl 2 rfl) ?_
  refine lv_bipush (v := 64) hx hb dX0_obey_13 (by decide) ?_
  refine lv_idiv hx hb dX0_obey_15 (by decide) ?_
  refine lv_aload_n hx hb dX0_obey_16 rfl (lv_at hl 1 rfl) ?_
  refine va_get (D := D) (ci := 0) (v := .int nn) (C := RX0) (T := TX0) (N := 9) hx hb hts hin0 hown hK.1 hP 0 rfl rfl 7 (by decide) (k_3) (fun _ h9 => h9) rfl dX0_obey_17 ?_
  refine kSN_i (wr := [(h0, .inr (0, [.ref a_kd, .ref a_hd, .ref a_pl, .ref a_st, .ref a_ho, .ref a_be, .int nc, .int nn, .int dy])), (a_kd, .inl (cI, 7, .inl kd)), (a_hd, .inl (cI, 7, .inl hd)), (a_pl, .inl (cI, 7, .inl pl)), (a_st, .inl (cI, 7, .inl st)), (a_ho, .inl (cI, 6, .inl ho)), (a_be, .inl (cI, 42, .inl be))]) (As := [.int (x1 / (64 : Int32)), .int nn]) (n := 2) ⟨hx, hb, hml, hown, hts⟩ hK hP hD hS hA (c_X5_remainder l D cI cC cQ   (x1 / (64 : Int32)) nn _ h) gX0_obey_X5_remainder_n83 (hK.2 _ (List.mem_of_getElem? (i := 6) rfl)) (k_1) (k_2) rfl ⟨rfl, rfl⟩ yoX5_remainder ⟨Nat.le_of_ble_eq_true rfl, Nat.le_of_ble_eq_true rfl⟩ rfl hl.1 rfl (Nat.le_of_ble_eq_true rfl) dX0_obey_20 ⟨Nat.zero_le _, Nat.zero_le _⟩ [] [0, 1, 2, 3, 4, 5, 6] rfl (by decide) rfl (by decide) (by decide) (fun r_2 u H locs h hP hD hS => ?_)
  have hP : va_P D vwCl [(h0, .inr (0, [.ref a_kd, .ref a_hd, .ref a_pl, .ref a_st, .ref a_ho, .ref a_be, .int nc, .int nn, .int dy])), (a_kd, .inl (cI, 7, .inl kd)), (a_hd, .inl (cI, 7, .inl hd)), (a_pl, .inl (cI, 7, .inl pl)), (a_st, .inl (cI, 7, .inl st)), (a_ho, .inl (cI, 6, .inl ho)), (a_be, .inl (cI, 42, .inl be))] H := hP
  have hD : va_D A [(h0, .inr (0, [.ref a_kd, .ref a_hd, .ref a_pl, .ref a_st, .ref a_ho, .ref a_be, .int nc, .int nn, .int dy])), (a_kd, .inl (cI, 7, .inl kd)), (a_hd, .inl (cI, 7, .inl hd)), (a_pl, .inl (cI, 7, .inl pl)), (a_st, .inl (cI, 7, .inl st)), (a_ho, .inl (cI, 6, .inl ho)), (a_be, .inl (cI, 42, .inl be))] := hD
  refine lv_istore_n (lv' := [(3, .int r_2), (2, .int r_1), (0, .ref h0), (1, .int x1)]) hx hb dX0_obey_23 rfl hl (by decide) rfl (fun ls hl => ?_)
  refine lv_iload_n hx hb dX0_obey_24 rfl (lv_at hl 3 rfl) ?_
  refine lv_bipush (v := 8) hx hb dX0_obey_25 (by decide) ?_
  refine lv_irem hx hb dX0_obey_27 (by decide) ?_
  rcases sw_3 (x1 - x1 / (8 : Int32) * (8 : Int32)) with c_3 | c_3 | c_3 | c_3 | c_3
  · have h := h.1 c_3
    refine lv_tableOut (tgt := 139) hx hb dX0_obey_28 c_3 (by decide) ?_
    exact hret (pl, st, ho, be) _ _ _ ls h hP hD hS dX0_obey_139
  · have h := h.2.1 c_3
    refine lv_tableIn (tgt := 60) (off := 32) hx hb dX0_obey_28 (by rw [c_3]; decide) (by rw [c_3]; decide) (by rw [c_3]; rfl) (by decide) ?_
    refine lv_aload_n hx hb dX0_obey_60 rfl (lv_at hl 2 rfl) ?_
    refine lv_iload_n hx hb dX0_obey_61 rfl (lv_at hl 1 rfl) ?_
    refine lv_iload_n hx hb dX0_obey_62 rfl (lv_at hl 0 rfl) ?_
    refine lv_aload_n hx hb dX0_obey_63 rfl (lv_at hl 2 rfl) ?_
    refine lv_iload_n hx hb dX0_obey_64 rfl (lv_at hl 1 rfl) ?_
    refine lv_iload_n hx hb dX0_obey_65 rfl (lv_at hl 0 rfl) ?_
    refine k0V_i (As := [.int r_1, .int r_2]) (n := 2) ⟨hx, hb, hml, hown, hts⟩ hK hP hD hS hA (c_X0_believes l D cI cC cQ h0 a_kd a_hd a_pl a_st a_ho a_be kd hd pl st ho be nc nn dy r_1 r_2 _ h) gX0_obey_X0_believes rfl rfl ⟨rfl, rfl⟩ yoX0_believes ⟨Nat.le_of_ble_eq_true rfl, Nat.le_of_ble_eq_true rfl⟩ (q0 := 0) (ci := 0) rfl rfl rfl rfl hl.1 rfl (Nat.le_of_ble_eq_true rfl) dX0_obey_66 ⟨Nat.zero_le _, Nat.zero_le _⟩ (fun r_4 u H locs h hP hD hS => ?_)
    refine lv_iconst (v := 3) hx hb dX0_obey_69 (by decide) ?_
    refine lv_iadd hx hb dX0_obey_70 ?_
    refine kSN_i (wr := [(h0, .inr (0, [.ref a_kd, .ref a_hd, .ref a_pl, .ref a_st, .ref a_ho, .ref a_be, .int nc, .int nn, .int dy])), (a_kd, .inl (cI, 7, .inl kd)), (a_hd, .inl (cI, 7, .inl hd)), (a_pl, .inl (cI, 7, .inl pl)), (a_st, .inl (cI, 7, .inl st)), (a_ho, .inl (cI, 6, .inl ho)), (a_be, .inl (cI, 42, .inl be))]) (As := [.int (r_4 + (3 : Int32))]) (n := 1) ⟨hx, hb, hml, hown, hts⟩ hK hP hD hS hA (c_X5_cutBelief l D cI cC cQ   (r_4 + (3 : Int32)) _ h) gX0_obey_X5_cutBelief_n86 (hK.2 _ (List.mem_of_getElem? (i := 7) rfl)) (k_1) (k_4) rfl ⟨rfl, rfl⟩ yoX5_cutBelief ⟨Nat.le_of_ble_eq_true rfl, Nat.le_of_ble_eq_true rfl⟩ rfl hl.1 rfl (Nat.le_of_ble_eq_true rfl) dX0_obey_71 ⟨Nat.zero_le _, Nat.zero_le _⟩ [] [0, 1, 2, 3, 4, 5, 6] rfl (by decide) rfl (by decide) (by decide) (fun r_5 u H locs h hP hD hS => ?_)
    have hP : va_P D vwCl [(h0, .inr (0, [.ref a_kd, .ref a_hd, .ref a_pl, .ref a_st, .ref a_ho, .ref a_be, .int nc, .int nn, .int dy])), (a_kd, .inl (cI, 7, .inl kd)), (a_hd, .inl (cI, 7, .inl hd)), (a_pl, .inl (cI, 7, .inl pl)), (a_st, .inl (cI, 7, .inl st)), (a_ho, .inl (cI, 6, .inl ho)), (a_be, .inl (cI, 42, .inl be))] H := hP
    have hD : va_D A [(h0, .inr (0, [.ref a_kd, .ref a_hd, .ref a_pl, .ref a_st, .ref a_ho, .ref a_be, .int nc, .int nn, .int dy])), (a_kd, .inl (cI, 7, .inl kd)), (a_hd, .inl (cI, 7, .inl hd)), (a_pl, .inl (cI, 7, .inl pl)), (a_st, .inl (cI, 7, .inl st)), (a_ho, .inl (cI, 6, .inl ho)), (a_be, .inl (cI, 42, .inl be))] := hD
    refine k0V_v (As := [.int r_1, .int r_2, .int r_5]) (n := 3) ⟨hx, hb, hml, hown, hts⟩ hK hP hD hS hA (c_X0_setBelief l D cI cC cQ h0 a_kd a_hd a_pl a_st a_ho a_be kd hd pl st ho be nc nn dy r_1 r_2 r_5 _ h) gX0_obey_X0_setBelief rfl rfl ⟨rfl, rfl⟩ yoX0_setBelief ⟨Nat.le_of_ble_eq_true rfl, Nat.le_of_ble_eq_true rfl⟩ (q0 := 0) (ci := 0) rfl rfl rfl rfl hl.1 rfl (Nat.le_of_ble_eq_true rfl) dX0_obey_74 ⟨Nat.zero_le _, Nat.zero_le _⟩ (fun be_6 H locs h hP hD hS => ?_)
    have hP : va_P D vwCl [(h0, .inr (0, [.ref a_kd, .ref a_hd, .ref a_pl, .ref a_st, .ref a_ho, .ref a_be, .int nc, .int nn, .int dy])), (a_kd, .inl (cI, 7, .inl kd)), (a_hd, .inl (cI, 7, .inl hd)), (a_pl, .inl (cI, 7, .inl pl)), (a_st, .inl (cI, 7, .inl st)), (a_ho, .inl (cI, 6, .inl ho)), (a_be, .inl (cI, 42, .inl be_6))] H := hP
    have hD : va_D A [(h0, .inr (0, [.ref a_kd, .ref a_hd, .ref a_pl, .ref a_st, .ref a_ho, .ref a_be, .int nc, .int nn, .int dy])), (a_kd, .inl (cI, 7, .inl kd)), (a_hd, .inl (cI, 7, .inl hd)), (a_pl, .inl (cI, 7, .inl pl)), (a_st, .inl (cI, 7, .inl st)), (a_ho, .inl (cI, 6, .inl ho)), (a_be, .inl (cI, 42, .inl be_6))] := hD
    refine lv_goto (tgt := 139) hx hb dX0_obey_77 (by decide) ?_
    exact hret (pl, st, ho, be_6) _ _ _ ls h hP hD hS dX0_obey_139
  · have h := h.2.2.1 c_3
    refine lv_tableIn (tgt := 80) (off := 52) hx hb dX0_obey_28 (by rw [c_3]; decide) (by rw [c_3]; decide) (by rw [c_3]; rfl) (by decide) ?_
    refine lv_aload_n hx hb dX0_obey_80 rfl (lv_at hl 2 rfl) ?_
    refine lv_iload_n hx hb dX0_obey_81 rfl (lv_at hl 1 rfl) ?_
    refine lv_iload_n hx hb dX0_obey_82 rfl (lv_at hl 0 rfl) ?_
    refine lv_aload_n hx hb dX0_obey_83 rfl (lv_at hl 2 rfl) ?_
    refine lv_iload_n hx hb dX0_obey_84 rfl (lv_at hl 1 rfl) ?_
    refine lv_iload_n hx hb dX0_obey_85 rfl (lv_at hl 0 rfl) ?_
    refine k0V_i (As := [.int r_1, .int r_2]) (n := 2) ⟨hx, hb, hml, hown, hts⟩ hK hP hD hS hA (c_X0_believes l D cI cC cQ h0 a_kd a_hd a_pl a_st a_ho a_be kd hd pl st ho be nc nn dy r_1 r_2 _ h) gX0_obey_X0_believes rfl rfl ⟨rfl, rfl⟩ yoX0_believes ⟨Nat.le_of_ble_eq_true rfl, Nat.le_of_ble_eq_true rfl⟩ (q0 := 0) (ci := 0) rfl rfl rfl rfl hl.1 rfl (Nat.le_of_ble_eq_true rfl) dX0_obey_86 ⟨Nat.zero_le _, Nat.zero_le _⟩ (fun r_7 u H locs h hP hD hS => ?_)
    refine lv_iconst (v := 3) hx hb dX0_obey_89 (by decide) ?_
    refine lv_isub hx hb dX0_obey_90 ?_
    refine kSN_i (wr := [(h0, .inr (0, [.ref a_kd, .ref a_hd, .ref a_pl, .ref a_st, .ref a_ho, .ref a_be, .int nc, .int nn, .int dy])), (a_kd, .inl (cI, 7, .inl kd)), (a_hd, .inl (cI, 7, .inl hd)), (a_pl, .inl (cI, 7, .inl pl)), (a_st, .inl (cI, 7, .inl st)), (a_ho, .inl (cI, 6, .inl ho)), (a_be, .inl (cI, 42, .inl be))]) (As := [.int (r_7 - (3 : Int32))]) (n := 1) ⟨hx, hb, hml, hown, hts⟩ hK hP hD hS hA (c_X5_cutBelief l D cI cC cQ   (r_7 - (3 : Int32)) _ h) gX0_obey_X5_cutBelief_n86 (hK.2 _ (List.mem_of_getElem? (i := 7) rfl)) (k_1) (k_4) rfl ⟨rfl, rfl⟩ yoX5_cutBelief ⟨Nat.le_of_ble_eq_true rfl, Nat.le_of_ble_eq_true rfl⟩ rfl hl.1 rfl (Nat.le_of_ble_eq_true rfl) dX0_obey_91 ⟨Nat.zero_le _, Nat.zero_le _⟩ [] [0, 1, 2, 3, 4, 5, 6] rfl (by decide) rfl (by decide) (by decide) (fun r_8 u H locs h hP hD hS => ?_)
    have hP : va_P D vwCl [(h0, .inr (0, [.ref a_kd, .ref a_hd, .ref a_pl, .ref a_st, .ref a_ho, .ref a_be, .int nc, .int nn, .int dy])), (a_kd, .inl (cI, 7, .inl kd)), (a_hd, .inl (cI, 7, .inl hd)), (a_pl, .inl (cI, 7, .inl pl)), (a_st, .inl (cI, 7, .inl st)), (a_ho, .inl (cI, 6, .inl ho)), (a_be, .inl (cI, 42, .inl be))] H := hP
    have hD : va_D A [(h0, .inr (0, [.ref a_kd, .ref a_hd, .ref a_pl, .ref a_st, .ref a_ho, .ref a_be, .int nc, .int nn, .int dy])), (a_kd, .inl (cI, 7, .inl kd)), (a_hd, .inl (cI, 7, .inl hd)), (a_pl, .inl (cI, 7, .inl pl)), (a_st, .inl (cI, 7, .inl st)), (a_ho, .inl (cI, 6, .inl ho)), (a_be, .inl (cI, 42, .inl be))] := hD
    refine k0V_v (As := [.int r_1, .int r_2, .int r_8]) (n := 3) ⟨hx, hb, hml, hown, hts⟩ hK hP hD hS hA (c_X0_setBelief l D cI cC cQ h0 a_kd a_hd a_pl a_st a_ho a_be kd hd pl st ho be nc nn dy r_1 r_2 r_8 _ h) gX0_obey_X0_setBelief rfl rfl ⟨rfl, rfl⟩ yoX0_setBelief ⟨Nat.le_of_ble_eq_true rfl, Nat.le_of_ble_eq_true rfl⟩ (q0 := 0) (ci := 0) rfl rfl rfl rfl hl.1 rfl (Nat.le_of_ble_eq_true rfl) dX0_obey_94 ⟨Nat.zero_le _, Nat.zero_le _⟩ (fun be_9 H locs h hP hD hS => ?_)
    have hP : va_P D vwCl [(h0, .inr (0, [.ref a_kd, .ref a_hd, .ref a_pl, .ref a_st, .ref a_ho, .ref a_be, .int nc, .int nn, .int dy])), (a_kd, .inl (cI, 7, .inl kd)), (a_hd, .inl (cI, 7, .inl hd)), (a_pl, .inl (cI, 7, .inl pl)), (a_st, .inl (cI, 7, .inl st)), (a_ho, .inl (cI, 6, .inl ho)), (a_be, .inl (cI, 42, .inl be_9))] H := hP
    have hD : va_D A [(h0, .inr (0, [.ref a_kd, .ref a_hd, .ref a_pl, .ref a_st, .ref a_ho, .ref a_be, .int nc, .int nn, .int dy])), (a_kd, .inl (cI, 7, .inl kd)), (a_hd, .inl (cI, 7, .inl hd)), (a_pl, .inl (cI, 7, .inl pl)), (a_st, .inl (cI, 7, .inl st)), (a_ho, .inl (cI, 6, .inl ho)), (a_be, .inl (cI, 42, .inl be_9))] := hD
    refine lv_goto (tgt := 139) hx hb dX0_obey_97 (by decide) ?_
    exact hret (pl, st, ho, be_9) _ _ _ ls h hP hD hS dX0_obey_139
  · have h := h.2.2.2.1 c_3
    refine lv_tableIn (tgt := 100) (off := 72) hx hb dX0_obey_28 (by rw [c_3]; decide) (by rw [c_3]; decide) (by rw [c_3]; rfl) (by decide) ?_
    refine lv_aload_n hx hb dX0_obey_100 rfl (lv_at hl 2 rfl) ?_
    refine lv_iload_n hx hb dX0_obey_101 rfl (lv_at hl 0 rfl) ?_
    refine k0V_i (As := [.int r_2]) (n := 1) ⟨hx, hb, hml, hown, hts⟩ hK hP hD hS hA (c_X0_isKnown l D cI cC cQ h0 a_kd a_hd a_pl a_st a_ho a_be kd hd pl st ho be nc nn dy r_2 _ h) gX0_obey_X0_isKnown rfl rfl ⟨rfl, rfl⟩ yoX0_isKnown ⟨Nat.le_of_ble_eq_true rfl, Nat.le_of_ble_eq_true rfl⟩ (q0 := 0) (ci := 0) rfl rfl rfl rfl hl.1 rfl (Nat.le_of_ble_eq_true rfl) dX0_obey_102 ⟨Nat.zero_le _, Nat.zero_le _⟩ (fun r_10 u H locs h hP hD hS => ?_)
    obtain ⟨b_11, h⟩ := h
    refine lv_if_ne (tgt := 139) hx hb dX0_obey_105 (by decide) (fun c_12 => ?_) (fun c_12 => ?_)
    · have h := h.2 c_12
      exact hret (pl, st, ho, be) _ _ _ ls h hP hD hS dX0_obey_139
    · have h := h.1 c_12
      refine lv_aload_n hx hb dX0_obey_108 rfl (lv_at hl 2 rfl) ?_
      refine va_get (D := D) (ci := 0) (v := .ref a_ho) (C := RX0) (T := TX0) (N := 9) hx hb hts hin0 hown hK.1 hP 0 rfl rfl 4 (by decide) (k_5) (fun _ h9 => h9) rfl dX0_obey_109 ?_
      refine lv_iload_n hx hb dX0_obey_112 rfl (lv_at hl 0 rfl) ?_
      refine lv_iload_n hx hb dX0_obey_113 rfl (lv_at hl 1 rfl) ?_
      refine kSN_v (wr := [(h0, .inr (0, [.ref a_kd, .ref a_hd, .ref a_pl, .ref a_st, .ref a_ho, .ref a_be, .int nc, .int nn, .int dy])), (a_kd, .inl (cI, 7, .inl kd)), (a_hd, .inl (cI, 7, .inl hd)), (a_pl, .inl (cI, 7, .inl pl)), (a_st, .inl (cI, 7, .inl st)), (a_be, .inl (cI, 42, .inl be))]) (As := [.ref a_ho, .int r_2, .int r_1]) (n := 3) ⟨hx, hb, hml, hown, hts⟩ hK hP hD hS hA (c_X5_put l D cI cC cQ a_ho ho 6 r_2 r_1 _ h) gX0_obey_X5_put_n46 (hK.2 _ (List.mem_of_getElem? (i := 4) rfl)) (k_1) (k_6) rfl ⟨rfl, rfl⟩ yoX5_put ⟨Nat.le_of_ble_eq_true rfl, Nat.le_of_ble_eq_true rfl⟩ rfl hl.1 rfl (Nat.le_of_ble_eq_true rfl) dX0_obey_114 ⟨Nat.zero_le _, Nat.zero_le _⟩ [5] [0, 1, 2, 3, 4, 6] rfl (by decide) rfl (by decide) (by decide) (fun ho_13 H locs h hP hD hS => ?_)
      have hP : va_P D vwCl [(h0, .inr (0, [.ref a_kd, .ref a_hd, .ref a_pl, .ref a_st, .ref a_ho, .ref a_be, .int nc, .int nn, .int dy])), (a_kd, .inl (cI, 7, .inl kd)), (a_hd, .inl (cI, 7, .inl hd)), (a_pl, .inl (cI, 7, .inl pl)), (a_st, .inl (cI, 7, .inl st)), (a_be, .inl (cI, 42, .inl be)), (a_ho, .inl (cI, 6, .inl ho_13))] H := hP
      have hD : va_D A [(h0, .inr (0, [.ref a_kd, .ref a_hd, .ref a_pl, .ref a_st, .ref a_ho, .ref a_be, .int nc, .int nn, .int dy])), (a_kd, .inl (cI, 7, .inl kd)), (a_hd, .inl (cI, 7, .inl hd)), (a_pl, .inl (cI, 7, .inl pl)), (a_st, .inl (cI, 7, .inl st)), (a_be, .inl (cI, 42, .inl be)), (a_ho, .inl (cI, 6, .inl ho_13))] := hD
      refine lv_goto (tgt := 139) hx hb dX0_obey_117 (by decide) ?_
      have hP := hP.sub (ws' := [(h0, .inr (0, [.ref a_kd, .ref a_hd, .ref a_pl, .ref a_st, .ref a_ho, .ref a_be, .int nc, .int nn, .int dy])), (a_kd, .inl (cI, 7, .inl kd)), (a_hd, .inl (cI, 7, .inl hd)), (a_pl, .inl (cI, 7, .inl pl)), (a_st, .inl (cI, 7, .inl st)), (a_ho, .inl (cI, 6, .inl ho_13)), (a_be, .inl (cI, 42, .inl be))]) [0, 1, 2, 3, 4, 6, 5] rfl
      have hD := hD.sub (ws' := [(h0, .inr (0, [.ref a_kd, .ref a_hd, .ref a_pl, .ref a_st, .ref a_ho, .ref a_be, .int nc, .int nn, .int dy])), (a_kd, .inl (cI, 7, .inl kd)), (a_hd, .inl (cI, 7, .inl hd)), (a_pl, .inl (cI, 7, .inl pl)), (a_st, .inl (cI, 7, .inl st)), (a_ho, .inl (cI, 6, .inl ho_13)), (a_be, .inl (cI, 42, .inl be))]) [0, 1, 2, 3, 4, 6, 5] (by decide) rfl
      exact hret (pl, st, ho_13, be) _ _ _ ls h hP hD hS dX0_obey_139
  · have h := h.2.2.2.2 c_3
    refine lv_tableIn (tgt := 120) (off := 92) hx hb dX0_obey_28 (by rw [c_3]; decide) (by rw [c_3]; decide) (by rw [c_3]; rfl) (by decide) ?_
    refine lv_aload_n hx hb dX0_obey_120 rfl (lv_at hl 2 rfl) ?_
    refine lv_iload_n hx hb dX0_obey_121 rfl (lv_at hl 1 rfl) ?_
    refine lv_iload_n hx hb dX0_obey_122 rfl (lv_at hl 3 rfl) ?_
    refine lv_bipush (v := 64) hx hb dX0_obey_123 (by decide) ?_
    refine lv_idiv hx hb dX0_obey_125 (by decide) ?_
    refine lv_aload_n hx hb dX0_obey_126 rfl (lv_at hl 2 rfl) ?_
    refine va_get (D := D) (ci := 0) (v := .int nc) (C := RX0) (T := TX0) (N := 9) hx hb hts hin0 hown hK.1 hP 0 rfl rfl 6 (by decide) (k_0) (fun _ h9 => h9) rfl dX0_obey_127 ?_
    refine kSN_i (wr := [(h0, .inr (0, [.ref a_kd, .ref a_hd, .ref a_pl, .ref a_st, .ref a_ho, .ref a_be, .int nc, .int nn, .int dy])), (a_kd, .inl (cI, 7, .inl kd)), (a_hd, .inl (cI, 7, .inl hd)), (a_pl, .inl (cI, 7, .inl pl)), (a_st, .inl (cI, 7, .inl st)), (a_ho, .inl (cI, 6, .inl ho)), (a_be, .inl (cI, 42, .inl be))]) (As := [.int (x1 / (64 : Int32)), .int nc]) (n := 2) ⟨hx, hb, hml, hown, hts⟩ hK hP hD hS hA (c_X5_remainder l D cI cC cQ   (x1 / (64 : Int32)) nc _ h) gX0_obey_X5_remainder_n83 (hK.2 _ (List.mem_of_getElem? (i := 6) rfl)) (k_1) (k_2) rfl ⟨rfl, rfl⟩ yoX5_remainder ⟨Nat.le_of_ble_eq_true rfl, Nat.le_of_ble_eq_true rfl⟩ rfl hl.1 rfl (Nat.le_of_ble_eq_true rfl) dX0_obey_130 ⟨Nat.zero_le _, Nat.zero_le _⟩ [] [0, 1, 2, 3, 4, 5, 6] rfl (by decide) rfl (by decide) (by decide) (fun r_14 u H locs h hP hD hS => ?_)
    have hP : va_P D vwCl [(h0, .inr (0, [.ref a_kd, .ref a_hd, .ref a_pl, .ref a_st, .ref a_ho, .ref a_be, .int nc, .int nn, .int dy])), (a_kd, .inl (cI, 7, .inl kd)), (a_hd, .inl (cI, 7, .inl hd)), (a_pl, .inl (cI, 7, .inl pl)), (a_st, .inl (cI, 7, .inl st)), (a_ho, .inl (cI, 6, .inl ho)), (a_be, .inl (cI, 42, .inl be))] H := hP
    have hD : va_D A [(h0, .inr (0, [.ref a_kd, .ref a_hd, .ref a_pl, .ref a_st, .ref a_ho, .ref a_be, .int nc, .int nn, .int dy])), (a_kd, .inl (cI, 7, .inl kd)), (a_hd, .inl (cI, 7, .inl hd)), (a_pl, .inl (cI, 7, .inl pl)), (a_st, .inl (cI, 7, .inl st)), (a_ho, .inl (cI, 6, .inl ho)), (a_be, .inl (cI, 42, .inl be))] := hD
    refine k0V_v (As := [.int r_1, .int r_14]) (n := 2) ⟨hx, hb, hml, hown, hts⟩ hK hP hD hS hA (c_X0_changePlaces l D cI cC cQ h0 a_kd a_hd a_pl a_st a_ho a_be kd hd pl st ho be nc nn dy r_1 r_14 _ h) gX0_obey_X0_changePlaces rfl rfl ⟨rfl, rfl⟩ yoX0_changePlaces ⟨Nat.le_of_ble_eq_true rfl, Nat.le_of_ble_eq_true rfl⟩ (q0 := 0) (ci := 0) rfl rfl rfl rfl hl.1 rfl (Nat.le_of_ble_eq_true rfl) dX0_obey_133 ⟨Nat.zero_le _, Nat.zero_le _⟩ (fun u H locs h hP hD hS => ?_)
    obtain ⟨pl_15, st_16⟩ := u
    have hP : va_P D vwCl [(h0, .inr (0, [.ref a_kd, .ref a_hd, .ref a_pl, .ref a_st, .ref a_ho, .ref a_be, .int nc, .int nn, .int dy])), (a_kd, .inl (cI, 7, .inl kd)), (a_hd, .inl (cI, 7, .inl hd)), (a_pl, .inl (cI, 7, .inl pl_15)), (a_st, .inl (cI, 7, .inl st_16)), (a_ho, .inl (cI, 6, .inl ho)), (a_be, .inl (cI, 42, .inl be))] H := hP
    have hD : va_D A [(h0, .inr (0, [.ref a_kd, .ref a_hd, .ref a_pl, .ref a_st, .ref a_ho, .ref a_be, .int nc, .int nn, .int dy])), (a_kd, .inl (cI, 7, .inl kd)), (a_hd, .inl (cI, 7, .inl hd)), (a_pl, .inl (cI, 7, .inl pl_15)), (a_st, .inl (cI, 7, .inl st_16)), (a_ho, .inl (cI, 6, .inl ho)), (a_be, .inl (cI, 42, .inl be))] := hD
    refine lv_goto (tgt := 139) hx hb dX0_obey_136 (by decide) ?_
    exact hret (pl_15, st_16, ho, be) _ _ _ ls h hP hD hS dX0_obey_139
