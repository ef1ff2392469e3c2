/-! DoubtCourtModel.holds -/
abbrev rmX6_holds : Room := { frames := 0, cells := 0, slots := 0, locals := 0 }
theorem yoX6_holds : yX6_holds.cls ≠ "java/lang/invoke/MethodHandle" ∧ yX6_holds.cls ≠ "java/lang/invoke/VarHandle" ∧ (parseMethodDescriptor yX6_holds.desc).map (fun d => d.parameters.length) = some 0 := by decide +kernel
set_option maxHeartbeats 4000000 in
set_option maxRecDepth 100000 in
theorem c_X6_holds (l : Launch) (D : va_G) (cI cC cQ : ClassId) (h6 : Nat) (a_mt : Nat) (a_mo : Nat) (a_md : Nat) (a_mb : Nat) (a_ms : Nat) (a_mp : Nat) (a_mi : Nat) (a_mn : Nat) (a_mh : Nat) (a_mg : Nat) (a_mr : Nat) (a_mx : Nat) (mt : Nat → Int32) (my : Int32) (mo : Nat → Int32) (md : Nat → Int32) (mb : Nat → Int32) (ms : Nat → Int32) (mp : Nat → Int32) (mk : Int32) (mi : Nat → Int32) (mq : Int32) (mn : Nat → Int32) (mz : Int32) (ma : Int32) (mh : Nat → Int32) (mg : Nat → Int32) (mr : Nat → Int32) (mx : Nat → Int32) (Q : (Nat → Int32) → Prop) (h : wX6_holds ms mg Q) : Cv (S := (Nat → Int32)) l D cI cC cQ yX6_holds wsX6_holds rmX6_holds [.ref h6] [(h6, .inr (6, [.ref a_mt, .int my, .ref a_mo, .ref a_md, .ref a_mb, .ref a_ms, .ref a_mp, .int mk, .ref a_mi, .int mq, .ref a_mn, .int mz, .int ma, .ref a_mh, .ref a_mg, .ref a_mr, .ref a_mx])), (a_mt, .inl (cI, 200, .inl mt)), (a_mo, .inl (cI, 16, .inl mo)), (a_md, .inl (cI, 16, .inl md)), (a_mb, .inl (cI, 56, .inl mb)), (a_ms, .inl (cI, 56, .inl ms)), (a_mp, .inl (cI, 448, .inl mp)), (a_mi, .inl (cI, 112, .inl mi)), (a_mn, .inl (cI, 12, .inl mn)), (a_mh, .inl (cI, 42, .inl mh)), (a_mg, .inl (cI, 56, .inl mg)), (a_mr, .inl (cI, 6, .inl mr)), (a_mx, .inl (cI, 6, .inl mx))] (fun u => [(h6, .inr (6, [.ref a_mt, .int my, .ref a_mo, .ref a_md, .ref a_mb, .ref a_ms, .ref a_mp, .int mk, .ref a_mi, .int mq, .ref a_mn, .int mz, .int ma, .ref a_mh, .ref a_mg, .ref a_mr, .ref a_mx])), (a_mt, .inl (cI, 200, .inl mt)), (a_mo, .inl (cI, 16, .inl mo)), (a_md, .inl (cI, 16, .inl md)), (a_mb, .inl (cI, 56, .inl mb)), (a_ms, .inl (cI, 56, .inl ms)), (a_mp, .inl (cI, 448, .inl mp)), (a_mi, .inl (cI, 112, .inl mi)), (a_mn, .inl (cI, 12, .inl mn)), (a_mh, .inl (cI, 42, .inl mh)), (a_mg, .inl (cI, 56, .inl u)), (a_mr, .inl (cI, 6, .inl mr)), (a_mx, .inl (cI, 6, .inl mx))]) (fun u => Q u) := by
  refine Cv_mk (cc := cX6_holds) (maxL := 2) (by decide) rfl (Nat.le_of_ble_eq_true rfl) ?_
  intro p e s m args below meth c A Z ls hx hb hml hown hts hK hA hP hD hret hl
  have hS : va_S A s.heap s.heap [] := va_S.rf
  have hin6 : ∀ w ∈ u_ws RX6 TX6 17, w ∈ wsX6_holds := by decide +kernel
  have k_0 := hts (.fieldLink RX6 37 "DoubtCourtModel" "aside" "[I") (by decide +kernel)
  have k_1 := hts (.fieldLink RX6 22 "DoubtCourtModel" "s" "[I") (by decide +kernel)
  have hl : lv_has ls 2 [(0, .ref h6)] := hl
  have L2 : ∀ (n : Nat) {x1 : Int32} {mg : Nat → Int32} {H : Heap} {locs : List Loc} {ls : Array Slot}, wX6_holds_L2 ms Q n x1 mg → va_P D vwCl [(h6, .inr (6, [.ref a_mt, .int my, .ref a_mo, .ref a_md, .ref a_mb, .ref a_ms, .ref a_mp, .int mk, .ref a_mi, .int mq, .ref a_mn, .int mz, .int ma, .ref a_mh, .ref a_mg, .ref a_mr, .ref a_mx])), (a_mt, .inl (cI, 200, .inl mt)), (a_mo, .inl (cI, 16, .inl mo)), (a_md, .inl (cI, 16, .inl md)), (a_mb, .inl (cI, 56, .inl mb)), (a_ms, .inl (cI, 56, .inl ms)), (a_mp, .inl (cI, 448, .inl mp)), (a_mi, .inl (cI, 112, .inl mi)), (a_mn, .inl (cI, 12, .inl mn)), (a_mh, .inl (cI, 42, .inl mh)), (a_mg, .inl (cI, 56, .inl mg)), (a_mr, .inl (cI, 6, .inl mr)), (a_mx, .inl (cI, 6, .inl mx))] H → va_D A [(h6, .inr (6, [.ref a_mt, .int my, .ref a_mo, .ref a_md, .ref a_mb, .ref a_ms, .ref a_mp, .int mk, .ref a_mi, .int mq, .ref a_mn, .int mz, .int ma, .ref a_mh, .ref a_mg, .ref a_mr, .ref a_mx])), (a_mt, .inl (cI, 200, .inl mt)), (a_mo, .inl (cI, 16, .inl mo)), (a_md, .inl (cI, 16, .inl md)), (a_mb, .inl (cI, 56, .inl mb)), (a_ms, .inl (cI, 56, .inl ms)), (a_mp, .inl (cI, 448, .inl mp)), (a_mi, .inl (cI, 112, .inl mi)), (a_mn, .inl (cI, 12, .inl mn)), (a_mh, .inl (cI, 42, .inl mh)), (a_mg, .inl (cI, 56, .inl mg)), (a_mr, .inl (cI, 6, .inl mr)), (a_mx, .inl (cI, 6, .inl mx))] → va_S A s.heap H locs → lv_has ls 2 [(0, .ref h6), (1, .int x1)] → W p l e rmX6_holds s m args below meth c H locs 0 0 Z (F0 m 2 ls []) := by
    intro n
    induction n with
    | zero =>
      intro x1 mg H locs ls h hP hD hS hl
      exact (show False from h).elim
    | succ n ih =>
      intro x1 mg H locs ls h hP hD hS hl
      refine lv_iload_n hx hb dX6_holds_2 rfl (lv_at hl 1 rfl) ?_
      refine lv_bipush (v := 56) hx hb dX6_holds_3 (by decide) ?_
      refine lv_icmp_ge (tgt := 26) hx hb dX6_holds_5 (by decide) (fun c_2 => ?_) (fun c_2 => ?_)
      · have h := h.1 c_2
        exact hret mg _ _ _ ls h hP hD hS dX6_holds_26
      · have h := h.2 c_2
        refine lv_aload_n hx hb dX6_holds_8 rfl (lv_at hl 0 rfl) ?_
        refine va_get (D := D) (ci := 6) (v := .ref a_mg) (C := RX6) (T := TX6) (N := 17) hx hb hts hin6 hown hK.1 hP 0 rfl rfl 14 (by decide) (k_0) (fun _ h9 => h9) rfl dX6_holds_9 ?_
        refine lv_iload_n hx hb dX6_holds_12 rfl (lv_at hl 1 rfl) ?_
        refine lv_aload_n hx hb dX6_holds_13 rfl (lv_at hl 0 rfl) ?_
        refine va_get (D := D) (ci := 6) (v := .ref a_ms) (C := RX6) (T := TX6) (N := 17) hx hb hts hin6 hown hK.1 hP 0 rfl rfl 5 (by decide) (k_1) (fun _ h9 => h9) rfl dX6_holds_14 ?_
        refine lv_iload_n hx hb dX6_holds_17 rfl (lv_at hl 1 rfl) ?_
        refine z_iald (k := x1.toNatClampNeg) hx hb hK.1 hP 5 rfl rfl h.1 dX6_holds_18 ?_
        have h := h.2
        refine z_iast (k := x1.toNatClampNeg) hx hb hK.1 hP hD hS 10 rfl rfl h.1 dX6_holds_19 (fun H locs hP hD hS => ?_)
        have h := h.2
        have hP : va_P D vwCl [(h6, .inr (6, [.ref a_mt, .int my, .ref a_mo, .ref a_md, .ref a_mb, .ref a_ms, .ref a_mp, .int mk, .ref a_mi, .int mq, .ref a_mn, .int mz, .int ma, .ref a_mh, .ref a_mg, .ref a_mr, .ref a_mx])), (a_mt, .inl (cI, 200, .inl mt)), (a_mo, .inl (cI, 16, .inl mo)), (a_md, .inl (cI, 16, .inl md)), (a_mb, .inl (cI, 56, .inl mb)), (a_ms, .inl (cI, 56, .inl ms)), (a_mp, .inl (cI, 448, .inl mp)), (a_mi, .inl (cI, 112, .inl mi)), (a_mn, .inl (cI, 12, .inl mn)), (a_mh, .inl (cI, 42, .inl mh)), (a_mg, .inl (cI, 56, .inl (upd mg x1.toNatClampNeg (ms x1.toNatClampNeg)))), (a_mr, .inl (cI, 6, .inl mr)), (a_mx, .inl (cI, 6, .inl mx))] H := hP
        have hD : va_D A [(h6, .inr (6, [.ref a_mt, .int my, .ref a_mo, .ref a_md, .ref a_mb, .ref a_ms, .ref a_mp, .int mk, .ref a_mi, .int mq, .ref a_mn, .int mz, .int ma, .ref a_mh, .ref a_mg, .ref a_mr, .ref a_mx])), (a_mt, .inl (cI, 200, .inl mt)), (a_mo, .inl (cI, 16, .inl mo)), (a_md, .inl (cI, 16, .inl md)), (a_mb, .inl (cI, 56, .inl mb)), (a_ms, .inl (cI, 56, .inl ms)), (a_mp, .inl (cI, 448, .inl mp)), (a_mi, .inl (cI, 112, .inl mi)), (a_mn, .inl (cI, 12, .inl mn)), (a_mh, .inl (cI, 42, .inl mh)), (a_mg, .inl (cI, 56, .inl (upd mg x1.toNatClampNeg (ms x1.toNatClampNeg)))), (a_mr, .inl (cI, 6, .inl mr)), (a_mx, .inl (cI, 6, .inl mx))] := hD
        refine lv_iinc (v := (x1 + (1 : Int32))) (lv' := [(1, .int (x1 + (1 : Int32))), (0, .ref h6)]) hx hb dX6_holds_20 hl (k := 1) rfl rfl (by decide) rfl (fun ls hl => ?_)
        refine lv_goto (tgt := 2) hx hb dX6_holds_23 (by decide) ?_
        exact ih h hP hD hS (lv_sub hl [1, 0] rfl)
  refine lv_iconst (v := 0) hx hb dX6_holds_0 (by decide) ?_
  refine lv_istore_n (lv' := [(1, .int (0 : Int32)), (0, .ref h6)]) hx hb dX6_holds_1 rfl hl (by decide) rfl (fun ls hl => ?_)
  obtain ⟨n_3, h⟩ := h
  exact L2 n_3 h hP hD hS (lv_sub hl [1, 0] rfl)

/-! DoubtCourtModel.lets -/
abbrev rmX6_lets : Room := { frames := 0, cells := 0, slots := 0, locals := 0 }
theorem yoX6_lets : yX6_lets.cls ≠ "java/lang/invoke/MethodHandle" ∧ yX6_lets.cls ≠ "java/lang/invoke/VarHandle" ∧ (parseMethodDescriptor yX6_lets.desc).map (fun d => d.parameters.length) = some 0 := by decide +kernel
set_option maxHeartbeats 4000000 in
set_option maxRecDepth 100000 in
theorem c_X6_lets (l : Launch) (D : va_G) (cI cC cQ : ClassId) (h6 : Nat) (a_mt : Nat) (a_mo : Nat) (a_md : Nat) (a_mb : Nat) (a_ms : Nat) (a_mp : Nat) (a_mi : Nat) (a_mn : Nat) (a_mh : Nat) (a_mg : Nat) (a_mr : Nat) (a_mx : Nat) (mt : Nat → Int32) (my : Int32) (mo : Nat → Int32) (md : Nat → Int32) (mb : Nat → Int32) (ms : Nat → Int32) (mp : Nat → Int32) (mk : Int32) (mi : Nat → Int32) (mq : Int32) (mn : Nat → Int32) (mz : Int32) (ma : Int32) (mh : Nat → Int32) (mg : Nat → Int32) (mr : Nat → Int32) (mx : Nat → Int32) (Q : (Nat → Int32) → Prop) (h : wX6_lets ms mg Q) : Cv (S := (Nat → Int32)) l D cI cC cQ yX6_lets wsX6_lets rmX6_lets [.ref h6] [(h6, .inr (6, [.ref a_mt, .int my, .ref a_mo, .ref a_md, .ref a_mb, .ref a_ms, .ref a_mp, .int mk, .ref a_mi, .int mq, .ref a_mn, .int mz, .int ma, .ref a_mh, .ref a_mg, .ref a_mr, .ref a_mx])), (a_mt, .inl (cI, 200, .inl mt)), (a_mo, .inl (cI, 16, .inl mo)), (a_md, .inl (cI, 16, .inl md)), (a_mb, .inl (cI, 56, .inl mb)), (a_ms, .inl (cI, 56, .inl ms)), (a_mp, .inl (cI, 448, .inl mp)), (a_mi, .inl (cI, 112, .inl mi)), (a_mn, .inl (cI, 12, .inl mn)), (a_mh, .inl (cI, 42, .inl mh)), (a_mg, .inl (cI, 56, .inl mg)), (a_mr, .inl (cI, 6, .inl mr)), (a_mx, .inl (cI, 6, .inl mx))] (fun u => [(h6, .inr (6, [.ref a_mt, .int my, .ref a_mo, .ref a_md, .ref a_mb, .ref a_ms, .ref a_mp, .int mk, .ref a_mi, .int mq, .ref a_mn, .int mz, .int ma, .ref a_mh, .ref a_mg, .ref a_mr, .ref a_mx])), (a_mt, .inl (cI, 200, .inl mt)), (a_mo, .inl (cI, 16, .inl mo)), (a_md, .inl (cI, 16, .inl md)), (a_mb, .inl (cI, 56, .inl mb)), (a_ms, .inl (cI, 56, .inl u)), (a_mp, .inl (cI, 448, .inl mp)), (a_mi, .inl (cI, 112, .inl mi)), (a_mn, .inl (cI, 12, .inl mn)), (a_mh, .inl (cI, 42, .inl mh)), (a_mg, .inl (cI, 56, .inl mg)), (a_mr, .inl (cI, 6, .inl mr)), (a_mx, .inl (cI, 6, .inl mx))]) (fun u => Q u) := by
  refine Cv_mk (cc := cX6_lets) (maxL := 2) (by decide) rfl (Nat.le_of_ble_eq_true rfl) ?_
  intro p e s m args below meth c A Z ls hx hb hml hown hts hK hA hP hD hret hl
  have hS : va_S A s.heap s.heap [] := va_S.rf
  have hin6 : ∀ w ∈ u_ws RX6 TX6 17, w ∈ wsX6_lets := by decide +kernel
  have k_0 := hts (.fieldLink RX6 22 "DoubtCourtModel" "s" "[I") (by decide +kernel)
  have k_1 := hts (.fieldLink RX6 37 "DoubtCourtModel" "aside" "[I") (by decide +kernel)
  have hl : lv_has ls 2 [(0, .ref h6)] := hl
  have L2 : ∀ (n : Nat) {x1 : Int32} {ms : Nat → Int32} {H : Heap} {locs : List Loc} {ls : Array Slot}, wX6_lets_L2 mg Q n x1 ms → va_P D vwCl [(h6, .inr (6, [.ref a_mt, .int my, .ref a_mo, .ref a_md, .ref a_mb, .ref a_ms, .ref a_mp, .int mk, .ref a_mi, .int mq, .ref a_mn, .int mz, .int ma, .ref a_mh, .ref a_mg, .ref a_mr, .ref a_mx])), (a_mt, .inl (cI, 200, .inl mt)), (a_mo, .inl (cI, 16, .inl mo)), (a_md, .inl (cI, 16, .inl md)), (a_mb, .inl (cI, 56, .inl mb)), (a_ms, .inl (cI, 56, .inl ms)), (a_mp, .inl (cI, 448, .inl mp)), (a_mi, .inl (cI, 112, .inl mi)), (a_mn, .inl (cI, 12, .inl mn)), (a_mh, .inl (cI, 42, .inl mh)), (a_mg, .inl (cI, 56, .inl mg)), (a_mr, .inl (cI, 6, .inl mr)), (a_mx, .inl (cI, 6, .inl mx))] H → va_D A [(h6, .inr (6, [.ref a_mt, .int my, .ref a_mo, .ref a_md, .ref a_mb, .ref a_ms, .ref a_mp, .int mk, .ref a_mi, .int mq, .ref a_mn, .int mz, .int ma, .ref a_mh, .ref a_mg, .ref a_mr, .ref a_mx])), (a_mt, .inl (cI, 200, .inl mt)), (a_mo, .inl (cI, 16, .inl mo)), (a_md, .inl (cI, 16, .inl md)), (a_mb, .inl (cI, 56, .inl mb)), (a_ms, .inl (cI, 56, .inl ms)), (a_mp, .inl (cI, 448, .inl mp)), (a_mi, .inl (cI, 112, .inl mi)), (a_mn, .inl (cI, 12, .inl mn)), (a_mh, .inl (cI, 42, .inl mh)), (a_mg, .inl (cI, 56, .inl mg)), (a_mr, .inl (cI, 6, .inl mr)), (a_mx, .inl (cI, 6, .inl mx))] → va_S A s.heap H locs → lv_has ls 2 [(0, .ref h6), (1, .int x1)] → W p l e rmX6_lets s m args below meth c H locs 0 0 Z (F0 m 2 ls []) := by
    intro n
    induction n with
    | zero =>
      intro x1 ms H locs ls h hP hD hS hl
      exact (show False from h).elim
    | succ n ih =>
      intro x1 ms H locs ls h hP hD hS hl
      refine lv_iload_n hx hb dX6_lets_2 rfl (lv_at hl 1 rfl) ?_
      refine lv_bipush (v := 56) hx hb dX6_lets_3 (by decide) ?_
      refine lv_icmp_ge (tgt := 26) hx hb dX6_lets_5 (by decide) (fun c_2 => ?_) (fun c_2 => ?_)
      · have h := h.1 c_2
        exact hret ms _ _ _ ls h hP hD hS dX6_lets_26
      · have h := h.2 c_2
        refine lv_aload_n hx hb dX6_lets_8 rfl (lv_at hl 0 rfl) ?_
        refine va_get (D := D) (ci := 6) (v := .ref a_ms) (C := RX6) (T := TX6) (N := 17) hx hb hts hin6 hown hK.1 hP 0 rfl rfl 5 (by decide) (k_0) (fun _ h9 => h9) rfl dX6_lets_9 ?_
        refine lv_iload_n hx hb dX6_lets_12 rfl (lv_at hl 1 rfl) ?_
        refine lv_aload_n hx hb dX6_lets_13 rfl (lv_at hl 0 rfl) ?_
        refine va_get (D := D) (ci := 6) (v := .ref a_mg) (C := RX6) (T := TX6) (N := 17) hx hb hts hin6 hown hK.1 hP 0 rfl rfl 14 (by decide) (k_1) (fun _ h9 => h9) rfl dX6_lets_14 ?_
        refine lv_iload_n hx hb dX6_lets_17 rfl (lv_at hl 1 rfl) ?_
        refine z_iald (k := x1.toNatClampNeg) hx hb hK.1 hP 10 rfl rfl h.1 dX6_lets_18 ?_
        have h := h.2
        refine z_iast (k := x1.toNatClampNeg) hx hb hK.1 hP hD hS 5 rfl rfl h.1 dX6_lets_19 (fun H locs hP hD hS => ?_)
        have h := h.2
        have hP : va_P D vwCl [(h6, .inr (6, [.ref a_mt, .int my, .ref a_mo, .ref a_md, .ref a_mb, .ref a_ms, .ref a_mp, .int mk, .ref a_mi, .int mq, .ref a_mn, .int mz, .int ma, .ref a_mh, .ref a_mg, .ref a_mr, .ref a_mx])), (a_mt, .inl (cI, 200, .inl mt)), (a_mo, .inl (cI, 16, .inl mo)), (a_md, .inl (cI, 16, .inl md)), (a_mb, .inl (cI, 56, .inl mb)), (a_ms, .inl (cI, 56, .inl (upd ms x1.toNatClampNeg (mg x1.toNatClampNeg)))), (a_mp, .inl (cI, 448, .inl mp)), (a_mi, .inl (cI, 112, .inl mi)), (a_mn, .inl (cI, 12, .inl mn)), (a_mh, .inl (cI, 42, .inl mh)), (a_mg, .inl (cI, 56, .inl mg)), (a_mr, .inl (cI, 6, .inl mr)), (a_mx, .inl (cI, 6, .inl mx))] H := hP
        have hD : va_D A [(h6, .inr (6, [.ref a_mt, .int my, .ref a_mo, .ref a_md, .ref a_mb, .ref a_ms, .ref a_mp, .int mk, .ref a_mi, .int mq, .ref a_mn, .int mz, .int ma, .ref a_mh, .ref a_mg, .ref a_mr, .ref a_mx])), (a_mt, .inl (cI, 200, .inl mt)), (a_mo, .inl (cI, 16, .inl mo)), (a_md, .inl (cI, 16, .inl md)), (a_mb, .inl (cI, 56, .inl mb)), (a_ms, .inl (cI, 56, .inl (upd ms x1.toNatClampNeg (mg x1.toNatClampNeg)))), (a_mp, .inl (cI, 448, .inl mp)), (a_mi, .inl (cI, 112, .inl mi)), (a_mn, .inl (cI, 12, .inl mn)), (a_mh, .inl (cI, 42, .inl mh)), (a_mg, .inl (cI, 56, .inl mg)), (a_mr, .inl (cI, 6, .inl mr)), (a_mx, .inl (cI, 6, .inl mx))] := hD
        refine lv_iinc (v := (x1 + (1 : Int32))) (lv' := [(1, .int (x1 + (1 : Int32))), (0, .ref h6)]) hx hb dX6_lets_20 hl (k := 1) rfl rfl (by decide) rfl (fun ls hl => ?_)
        refine lv_goto (tgt := 2) hx hb dX6_lets_23 (by decide) ?_
        exact ih h hP hD hS (lv_sub hl [1, 0] rfl)
  refine lv_iconst (v := 0) hx hb dX6_lets_0 (by decide) ?_
  refine lv_istore_n (lv' := [(1, .int (0 : Int32)), (0, .ref h6)]) hx hb dX6_lets_1 rfl hl (by decide) rfl (fun ls hl => ?_)
  obtain ⟨n_3, h⟩ := h
  exact L2 n_3 h hP hD hS (lv_sub hl [1, 0] rfl)

/-! DoubtCourtModel.behind -/
abbrev rmX6_behind : Room := { frames := 3, cells := 0, slots := 0, locals := 73 }
theorem yoX6_behind : yX6_behind.cls ≠ "java/lang/invoke/MethodHandle" ∧ yX6_behind.cls ≠ "java/lang/invoke/VarHandle" ∧ (parseMethodDescriptor yX6_behind.desc).map (fun d => d.parameters.length) = some 3 := by decide +kernel
set_option maxHeartbeats 4000000 in
set_option maxRecDepth 100000 in
theorem c_X6_behind (l : Launch) (D : va_G) (cI cC cQ : ClassId) (h6 : Nat) (a_mt : Nat) (a_mo : Nat) (a_md : Nat) (a_mb : Nat) (a_ms : Nat) (a_mp : Nat) (a_mi : Nat) (a_mn : Nat) (a_mh : Nat) (a_mg : Nat) (a_mr : Nat) (a_mx : Nat) (mt : Nat → Int32) (my : Int32) (mo : Nat → Int32) (md : Nat → Int32) (mb : Nat → Int32) (ms : Nat → Int32) (mp : Nat → Int32) (mk : Int32) (mi : Nat → Int32) (mq : Int32) (mn : Nat → Int32) (mz : Int32) (ma : Int32) (mh : Nat → Int32) (mg : Nat → Int32) (mr : Nat → Int32) (mx : Nat → Int32) (x1 : Int32) (x2 : Int32) (x3 : Int32) (Q : Int32 → (Nat → Int32) → (Nat → Int32) → (Nat → Int32) → Prop) (h : wX6_behind x1 x2 x3 mo ms mh mg Q) : Ci (S := (Nat → Int32) × (Nat → Int32) × (Nat → Int32)) l D cI cC cQ yX6_behind wsX6_behind rmX6_behind [.ref h6, .int x1, .int x2, .int x3] [(h6, .inr (6, [.ref a_mt, .int my, .ref a_mo, .ref a_md, .ref a_mb, .ref a_ms, .ref a_mp, .int mk, .ref a_mi, .int mq, .ref a_mn, .int mz, .int ma, .ref a_mh, .ref a_mg, .ref a_mr, .ref a_mx])), (a_mt, .inl (cI, 200, .inl mt)), (a_mo, .inl (cI, 16, .inl mo)), (a_md, .inl (cI, 16, .inl md)), (a_mb, .inl (cI, 56, .inl mb)), (a_ms, .inl (cI, 56, .inl ms)), (a_mp, .inl (cI, 448, .inl mp)), (a_mi, .inl (cI, 112, .inl mi)), (a_mn, .inl (cI, 12, .inl mn)), (a_mh, .inl (cI, 42, .inl mh)), (a_mg, .inl (cI, 56, .inl mg)), (a_mr, .inl (cI, 6, .inl mr)), (a_mx, .inl (cI, 6, .inl mx))] (fun u => [(h6, .inr (6, [.ref a_mt, .int my, .ref a_mo, .ref a_md, .ref a_mb, .ref a_ms, .ref a_mp, .int mk, .ref a_mi, .int mq, .ref a_mn, .int mz, .int ma, .ref a_mh, .ref a_mg, .ref a_mr, .ref a_mx])), (a_mt, .inl (cI, 200, .inl mt)), (a_mo, .inl (cI, 16, .inl mo)), (a_md, .inl (cI, 16, .inl md)), (a_mb, .inl (cI, 56, .inl mb)), (a_ms, .inl (cI, 56, .inl u.1)), (a_mp, .inl (cI, 448, .inl mp)), (a_mi, .inl (cI, 112, .inl mi)), (a_mn, .inl (cI, 12, .inl mn)), (a_mh, .inl (cI, 42, .inl u.2.1)), (a_mg, .inl (cI, 56, .inl u.2.2)), (a_mr, .inl (cI, 6, .inl mr)), (a_mx, .inl (cI, 6, .inl mx))]) (fun r u => Q r u.1 u.2.1 u.2.2) := by
  refine Ci_mk (cc := cX6_behind) (maxL := 5) (by decide) rfl (Nat.le_of_ble_eq_true rfl) ?_
  intro p e s m args below meth c A Z ls hx hb hml hown hts hK hA hP hD hret hl
  have hS : va_S A s.heap s.heap [] := va_S.rf
  have hin6 : ∀ w ∈ u_ws RX6 TX6 17, w ∈ wsX6_behind := by decide +kernel
  have k_0 := hts (.fieldLink RX6 22 "DoubtCourtModel" "s" "[I") (by decide +kernel)
  have hl : lv_has ls 5 [(0, .ref h6), (1, .int x1), (2, .int x2), (3, .int x3)] := hl
  have L40 : ∀ {K56 : (Nat → Int32) → (Nat → Int32) → Prop} (n : Nat) {x1 : Int32} {x2 : Int32} {x3 : Int32} {x4 : Int32} {ms : Nat → Int32} {mh : Nat → Int32} {mg : Nat → Int32} {H : Heap} {locs : List Loc} {ls : Array Slot}, wX6_behind_L40 x1 mo K56 n x4 ms mh → va_P D vwCl [(h6, .inr (6, [.ref a_mt, .int my, .ref a_mo, .ref a_md, .ref a_mb, .ref a_ms, .ref a_mp, .int mk, .ref a_mi, .int mq, .ref a_mn, .int mz, .int ma, .ref a_mh, .ref a_mg, .ref a_mr, .ref a_mx])), (a_mt, .inl (cI, 200, .inl mt)), (a_mo, .inl (cI, 16, .inl mo)), (a_md, .inl (cI, 16, .inl md)), (a_mb, .inl (cI, 56, .inl mb)), (a_ms, .inl (cI, 56, .inl ms)), (a_mp, .inl (cI, 448, .inl mp)), (a_mi, .inl (cI, 112, .inl mi)), (a_mn, .inl (cI, 12, .inl mn)), (a_mh, .inl (cI, 42, .inl mh)), (a_mg, .inl (cI, 56, .inl mg)), (a_mr, .inl (cI, 6, .inl mr)), (a_mx, .inl (cI, 6, .inl mx))] H → va_D A [(h6, .inr (6, [.ref a_mt, .int my, .ref a_mo, .ref a_md, .ref a_mb, .ref a_ms, .ref a_mp, .int mk, .ref a_mi, .int mq, .ref a_mn, .int mz, .int ma, .ref a_mh, .ref a_mg, .ref a_mr, .ref a_mx])), (a_mt, .inl (cI, 200, .inl mt)), (a_mo, .inl (cI, 16, .inl mo)), (a_md, .inl (cI, 16, .inl md)), (a_mb, .inl (cI, 56, .inl mb)), (a_ms, .inl (cI, 56, .inl ms)), (a_mp, .inl (cI, 448, .inl mp)), (a_mi, .inl (cI, 112, .inl mi)), (a_mn, .inl (cI, 12, .inl mn)), (a_mh, .inl (cI, 42, .inl mh)), (a_mg, .inl (cI, 56, .inl mg)), (a_mr, .inl (cI, 6, .inl mr)), (a_mx, .inl (cI, 6, .inl mx))] → va_S A s.heap H locs → lv_has ls 5 [(0, .ref h6), (1, .int x1), (2, .int x2), (3, .int x3), (4, .int x4)] → (∀ (ms : Nat → Int32) (mh : Nat → Int32) (H : Heap) (locs : List Loc) (ls : Array Slot), K56 ms mh → va_P D vwCl [(h6, .inr (6, [.ref a_mt, .int my, .ref a_mo, .ref a_md, .ref a_mb, .ref a_ms, .ref a_mp, .int mk, .ref a_mi, .int mq, .ref a_mn, .int mz, .int ma, .ref a_mh, .ref a_mg, .ref a_mr, .ref a_mx])), (a_mt, .inl (cI, 200, .inl mt)), (a_mo, .inl (cI, 16, .inl mo)), (a_md, .inl (cI, 16, .inl md)), (a_mb, .inl (cI, 56, .inl mb)), (a_ms, .inl (cI, 56, .inl ms)), (a_mp, .inl (cI, 448, .inl mp)), (a_mi, .inl (cI, 112, .inl mi)), (a_mn, .inl (cI, 12, .inl mn)), (a_mh, .inl (cI, 42, .inl mh)), (a_mg, .inl (cI, 56, .inl mg)), (a_mr, .inl (cI, 6, .inl mr)), (a_mx, .inl (cI, 6, .inl mx))] H → va_D A [(h6, .inr (6, [.ref a_mt, .int my, .ref a_mo, .ref a_md, .ref a_mb, .ref a_ms, .ref a_mp, .int mk, .ref a_mi, .int mq, .ref a_mn, .int mz, .int ma, .ref a_mh, .ref a_mg, .ref a_mr, .ref a_mx])), (a_mt, .inl (cI, 200, .inl mt)), (a_mo, .inl (cI, 16, .inl mo)), (a_md, .inl (cI, 16, .inl md)), (a_mb, .inl (cI, 56, .inl mb)), (a_ms, .inl (cI, 56, .inl ms)), (a_mp, .inl (cI, 448, .inl mp)), (a_mi, .inl (cI, 112, .inl mi)), (a_mn, .inl (cI, 12, .inl mn)), (a_mh, .inl (cI, 42, .inl mh)), (a_mg, .inl (cI, 56, .inl mg)), (a_mr, .inl (cI, 6, .inl mr)), (a_mx, .inl (cI, 6, .inl mx))] → va_S A s.heap H locs → lv_has ls 5 [(0, .ref h6), (2, .int x2), (3, .int x3)] → W p l e rmX6_behind s m args below meth c H locs 0 0 Z (F0 m 56 ls [])) → W p l e rmX6_behind s m args below meth c H locs 0 0 Z (F0 m 40 ls []) := by
    intro K56
    intro n
    induction n with
    | zero =>
      intro x1 x2 x3 x4 ms mh mg H locs ls h hP hD hS hl hk56
      exact (show False from h).elim
    | succ n ih =>
      intro x1 x2 x3 x4 ms mh mg H locs ls h hP hD hS hl hk56
      refine lv_iload hx hb dX6_behind_40 (lv_at hl 4 rfl) ?_
      refine lv_iload_n hx hb dX6_behind_42 rfl (lv_at hl 1 rfl) ?_
      refine lv_icmp_ge (tgt := 56) hx hb dX6_behind_43 (by decide) (fun c_12 => ?_) (fun c_12 => ?_)
      · have h := h.1 c_12
        exact hk56 ms mh _ _ _ h hP hD hS (lv_sub hl [0, 2, 3] rfl)
      · have h := h.2 c_12
        refine lv_aload_n hx hb dX6_behind_46 rfl (lv_at hl 0 rfl) ?_
        refine k0V_v (As := []) (n := 0) ⟨hx, hb, hml, hown, hts⟩ hK hP hD hS hA (c_X6_passes l D cI cC cQ h6 a_mt a_mo a_md a_mb a_ms a_mp a_mi a_mn a_mh a_mg a_mr a_mx mt my mo md mb ms mp mk mi mq mn mz ma mh mg mr mx  _ h) gX6_behind_X6_passes rfl rfl ⟨rfl, rfl⟩ yoX6_passes ⟨Nat.le_of_ble_eq_true rfl, Nat.le_of_ble_eq_true rfl⟩ (q0 := 0) (ci := 6) rfl rfl rfl rfl hl.1 rfl (Nat.le_of_ble_eq_true rfl) dX6_behind_47 ⟨Nat.zero_le _, Nat.zero_le _⟩ (fun u H locs h hP hD hS => ?_)
        obtain ⟨ms_13, mh_14⟩ := u
        have hP : va_P D vwCl [(h6, .inr (6, [.ref a_mt, .int my, .ref a_mo, .ref a_md, .ref a_mb, .ref a_ms, .ref a_mp, .int mk, .ref a_mi, .int mq, .ref a_mn, .int mz, .int ma, .ref a_mh, .ref a_mg, .ref a_mr, .ref a_mx])), (a_mt, .inl (cI, 200, .inl mt)), (a_mo, .inl (cI, 16, .inl mo)), (a_md, .inl (cI, 16, .inl md)), (a_mb, .inl (cI, 56, .inl mb)), (a_ms, .inl (cI, 56, .inl ms_13)), (a_mp, .inl (cI, 448, .inl mp)), (a_mi, .inl (cI, 112, .inl mi)), (a_mn, .inl (cI, 12, .inl mn)), (a_mh, .inl (cI, 42, .inl mh_14)), (a_mg, .inl (cI, 56, .inl mg)), (a_mr, .inl (cI, 6, .inl mr)), (a_mx, .inl (cI, 6, .inl mx))] H := hP
        have hD : va_D A [(h6, .inr (6, [.ref a_mt, .int my, .ref a_mo, .ref a_md, .ref a_mb, .ref a_ms, .ref a_mp, .int mk, .ref a_mi, .int mq, .ref a_mn, .int mz, .int ma, .ref a_mh, .ref a_mg, .ref a_mr, .ref a_mx])), (a_mt, .inl (cI, 200, .inl mt)), (a_mo, .inl (cI, 16, .inl mo)), (a_md, .inl (cI, 16, .inl md)), (a_mb, .inl (cI, 56, .inl mb)), (a_ms, .inl (cI, 56, .inl ms_13)), (a_mp, .inl (cI, 448, .inl mp)), (a_mi, .inl (cI, 112, .inl mi)), (a_mn, .inl (cI, 12, .inl mn)), (a_mh, .inl (cI, 42, .inl mh_14)), (a_mg, .inl (cI, 56, .inl mg)), (a_mr, .inl (cI, 6, .inl mr)), (a_mx, .inl (cI, 6, .inl mx))] := hD
        refine lv_iinc (v := (x4 + (1 : Int32))) (lv' := [(4, .int (x4 + (1 : Int32))), (0, .ref h6), (1, .int x1), (2, .int x2), (3, .int x3)]) hx hb dX6_behind_50 hl (k := 4) rfl rfl (by decide) rfl (fun ls hl => ?_)
        refine lv_goto (tgt := 40) hx hb dX6_behind_53 (by decide) ?_
        exact ih h hP hD hS (lv_sub hl [1, 2, 3, 4, 0] rfl) hk56
  have J33 : ∀ {x1 : Int32} {x2 : Int32} {x3 : Int32} {ms : Nat → Int32} {mh : Nat → Int32} {mg : Nat → Int32} {H : Heap} {locs : List Loc} {ls : Array Slot}, wX6_behind_J33 x1 x2 x3 mo ms mh mg Q → va_P D vwCl [(h6, .inr (6, [.ref a_mt, .int my, .ref a_mo, .ref a_md, .ref a_mb, .ref a_ms, .ref a_mp, .int mk, .ref a_mi, .int mq, .ref a_mn, .int mz, .int ma, .ref a_mh, .ref a_mg, .ref a_mr, .ref a_mx])), (a_mt, .inl (cI, 200, .inl mt)), (a_mo, .inl (cI, 16, .inl mo)), (a_md, .inl (cI, 16, .inl md)), (a_mb, .inl (cI, 56, .inl mb)), (a_ms, .inl (cI, 56, .inl ms)), (a_mp, .inl (cI, 448, .inl mp)), (a_mi, .inl (cI, 112, .inl mi)), (a_mn, .inl (cI, 12, .inl mn)), (a_mh, .inl (cI, 42, .inl mh)), (a_mg, .inl (cI, 56, .inl mg)), (a_mr, .inl (cI, 6, .inl mr)), (a_mx, .inl (cI, 6, .inl mx))] H → va_D A [(h6, .inr (6, [.ref a_mt, .int my, .ref a_mo, .ref a_md, .ref a_mb, .ref a_ms, .ref a_mp, .int mk, .ref a_mi, .int mq, .ref a_mn, .int mz, .int ma, .ref a_mh, .ref a_mg, .ref a_mr, .ref a_mx])), (a_mt, .inl (cI, 200, .inl mt)), (a_mo, .inl (cI, 16, .inl mo)), (a_md, .inl (cI, 16, .inl md)), (a_mb, .inl (cI, 56, .inl mb)), (a_ms, .inl (cI, 56, .inl ms)), (a_mp, .inl (cI, 448, .inl mp)), (a_mi, .inl (cI, 112, .inl mi)), (a_mn, .inl (cI, 12, .inl mn)), (a_mh, .inl (cI, 42, .inl mh)), (a_mg, .inl (cI, 56, .inl mg)), (a_mr, .inl (cI, 6, .inl mr)), (a_mx, .inl (cI, 6, .inl mx))] → va_S A s.heap H locs → lv_has ls 5 [(0, .ref h6), (1, .int x1), (2, .int x2), (3, .int x3)] → W p l e rmX6_behind s m args below meth c H locs 0 0 Z (F0 m 33 ls []) := by
    intro x1 x2 x3 ms mh mg H locs ls h hP hD hS hl
    refine lv_aload_n hx hb dX6_behind_33 rfl (lv_at hl 0 rfl) ?_
    refine k0V_v (As := []) (n := 0) ⟨hx, hb, hml, hown, hts⟩ hK hP hD hS hA (c_X6_holds l D cI cC cQ h6 a_mt a_mo a_md a_mb a_ms a_mp a_mi a_mn a_mh a_mg a_mr a_mx mt my mo md mb ms mp mk mi mq mn mz ma mh mg mr mx  _ h) gX6_behind_X6_holds rfl rfl ⟨rfl, rfl⟩ yoX6_holds ⟨Nat.le_of_ble_eq_true rfl, Nat.le_of_ble_eq_true rfl⟩ (q0 := 0) (ci := 6) rfl rfl rfl rfl hl.1 rfl (Nat.le_of_ble_eq_true rfl) dX6_behind_34 ⟨Nat.zero_le _, Nat.zero_le _⟩ (fun mg_8 H locs h hP hD hS => ?_)
    have hP : va_P D vwCl [(h6, .inr (6, [.ref a_mt, .int my, .ref a_mo, .ref a_md, .ref a_mb, .ref a_ms, .ref a_mp, .int mk, .ref a_mi, .int mq, .ref a_mn, .int mz, .int ma, .ref a_mh, .ref a_mg, .ref a_mr, .ref a_mx])), (a_mt, .inl (cI, 200, .inl mt)), (a_mo, .inl (cI, 16, .inl mo)), (a_md, .inl (cI, 16, .inl md)), (a_mb, .inl (cI, 56, .inl mb)), (a_ms, .inl (cI, 56, .inl ms)), (a_mp, .inl (cI, 448, .inl mp)), (a_mi, .inl (cI, 112, .inl mi)), (a_mn, .inl (cI, 12, .inl mn)), (a_mh, .inl (cI, 42, .inl mh)), (a_mg, .inl (cI, 56, .inl mg_8)), (a_mr, .inl (cI, 6, .inl mr)), (a_mx, .inl (cI, 6, .inl mx))] H := hP
    have hD : va_D A [(h6, .inr (6, [.ref a_mt, .int my, .ref a_mo, .ref a_md, .ref a_mb, .ref a_ms, .ref a_mp, .int mk, .ref a_mi, .int mq, .ref a_mn, .int mz, .int ma, .ref a_mh, .ref a_mg, .ref a_mr, .ref a_mx])), (a_mt, .inl (cI, 200, .inl mt)), (a_mo, .inl (cI, 16, .inl mo)), (a_md, .inl (cI, 16, .inl md)), (a_mb, .inl (cI, 56, .inl mb)), (a_ms, .inl (cI, 56, .inl ms)), (a_mp, .inl (cI, 448, .inl mp)), (a_mi, .inl (cI, 112, .inl mi)), (a_mn, .inl (cI, 12, .inl mn)), (a_mh, .inl (cI, 42, .inl mh)), (a_mg, .inl (cI, 56, .inl mg_8)), (a_mr, .inl (cI, 6, .inl mr)), (a_mx, .inl (cI, 6, .inl mx))] := hD
    refine lv_iconst (v := 0) hx hb dX6_behind_37 (by decide) ?_
    refine lv_istore (lv' := [(4, .int (0 : Int32)), (0, .ref h6), (1, .int x1), (2, .int x2), (3, .int x3)]) hx hb dX6_behind_38 hl (by decide) rfl (fun ls hl => ?_)
    obtain ⟨n_22, h⟩ := h
    refine L40 n_22 h hP hD hS (lv_sub hl [1, 2, 3, 4, 0] rfl) (fun ms_15 mh_16 H locs ls h hP hD hS hl => ?_)
    refine lv_iload_n hx hb dX6_behind_56 rfl (lv_at hl 2 rfl) ?_
    refine lv_iconst (v := -1) hx hb dX6_behind_57 (by decide) ?_
    refine lv_icmp_ne (tgt := 73) hx hb dX6_behind_58 (by decide) (fun c_17 => ?_) (fun c_17 => ?_)
    · have h := h.2 c_17
      refine lv_aload_n hx hb dX6_behind_73 rfl (lv_at hl 0 rfl) ?_
      refine va_get (D := D) (ci := 6) (v := .ref a_ms) (C := RX6) (T := TX6) (N := 17) hx hb hts hin6 hown hK.1 hP 0 rfl rfl 5 (by decide) (k_0) (fun _ h9 => h9) rfl dX6_behind_74 ?_
      refine lv_bipush (v := 14) hx hb dX6_behind_77 (by decide) ?_
      refine lv_bipush (v := 7) hx hb dX6_behind_79 (by decide) ?_
      refine lv_iload_n hx hb dX6_behind_81 rfl (lv_at hl 1 rfl) ?_
      refine lv_imul hx hb dX6_behind_82 ?_
      refine lv_iadd hx hb dX6_behind_83 ?_
      refine lv_iload_n hx hb dX6_behind_84 rfl (lv_at hl 2 rfl) ?_
      refine lv_iadd hx hb dX6_behind_85 ?_
      refine z_iald (k := (((14 : Int32) + ((7 : Int32) * x2)) + x3).toNatClampNeg) hx hb hK.1 hP 5 rfl rfl h.1 dX6_behind_86 ?_
      have h := h.2
      refine lv_topi (fun v_18 ev_18 => ?_)
      have h := h v_18 ev_18
      refine lv_istore (lv' := [(4, .int v_18), (0, .ref h6), (2, .int x2), (3, .int x3)]) hx hb dX6_behind_87 hl (by decide) rfl (fun ls hl => ?_)
      refine lv_aload_n hx hb dX6_behind_89 rfl (lv_at hl 1 rfl) ?_
      refine k0V_v (As := []) (n := 0) ⟨hx, hb, hml, hown, hts⟩ hK hP hD hS hA (c_X6_lets l D cI cC cQ h6 a_mt a_mo a_md a_mb a_ms a_mp a_mi a_mn a_mh a_mg a_mr a_mx mt my mo md mb ms_15 mp mk mi mq mn mz ma mh_16 mg_8 mr mx  _ h) gX6_behind_X6_lets rfl rfl ⟨rfl, rfl⟩ yoX6_lets ⟨Nat.le_of_ble_eq_true rfl, Nat.le_of_ble_eq_true rfl⟩ (q0 := 0) (ci := 6) rfl rfl rfl rfl hl.1 rfl (Nat.le_of_ble_eq_true rfl) dX6_behind_90 ⟨Nat.zero_le _, Nat.zero_le _⟩ (fun ms_19 H locs h hP hD hS => ?_)
      have hP : va_P D vwCl [(h6, .inr (6, [.ref a_mt, .int my, .ref a_mo, .ref a_md, .ref a_mb, .ref a_ms, .ref a_mp, .int mk, .ref a_mi, .int mq, .ref a_mn, .int mz, .int ma, .ref a_mh, .ref a_mg, .ref a_mr, .ref a_mx])), (a_mt, .inl (cI, 200, .inl mt)), (a_mo, .inl (cI, 16, .inl mo)), (a_md, .inl (cI, 16, .inl md)), (a_mb, .inl (cI, 56, .inl mb)), (a_ms, .inl (cI, 56, .inl ms_19)), (a_mp, .inl (cI, 448, .inl mp)), (a_mi, .inl (cI, 112, .inl mi)), (a_mn, .inl (cI, 12, .inl mn)), (a_mh, .inl (cI, 42, .inl mh_16)), (a_mg, .inl (cI, 56, .inl mg_8)), (a_mr, .inl (cI, 6, .inl mr)), (a_mx, .inl (cI, 6, .inl mx))] H := hP
      have hD : va_D A [(h6, .inr (6, [.ref a_mt, .int my, .ref a_mo, .ref a_md, .ref a_mb, .ref a_ms, .ref a_mp, .int mk, .ref a_mi, .int mq, .ref a_mn, .int mz, .int ma, .ref a_mh, .ref a_mg, .ref a_mr, .ref a_mx])), (a_mt, .inl (cI, 200, .inl mt)), (a_mo, .inl (cI, 16, .inl mo)), (a_md, .inl (cI, 16, .inl md)), (a_mb, .inl (cI, 56, .inl mb)), (a_ms, .inl (cI, 56, .inl ms_19)), (a_mp, .inl (cI, 448, .inl mp)), (a_mi, .inl (cI, 112, .inl mi)), (a_mn, .inl (cI, 12, .inl mn)), (a_mh, .inl (cI, 42, .inl mh_16)), (a_mg, .inl (cI, 56, .inl mg_8)), (a_mr, .inl (cI, 6, .inl mr)), (a_mx, .inl (cI, 6, .inl mx))] := hD
      refine lv_iload hx hb dX6_behind_93 (lv_at hl 0 rfl) ?_
      exact hret v_18 (ms_19, mh_16, mg_8) _ _ _ ls h hP hD hS dX6_behind_95
    · have h := h.1 c_17
      refine lv_aload_n hx hb dX6_behind_61 rfl (lv_at hl 0 rfl) ?_
      refine va_get (D := D) (ci := 6) (v := .ref a_ms) (C := RX6) (T := TX6) (N := 17) hx hb hts hin6 hown hK.1 hP 0 rfl rfl 5 (by decide) (k_0) (fun _ h9 => h9) rfl dX6_behind_62 ?_
      refine lv_bipush (v := 8) hx hb dX6_behind_65 (by decide) ?_
      refine lv_iload_n hx hb dX6_behind_67 rfl (lv_at hl 1 rfl) ?_
      refine lv_iadd hx hb dX6_behind_68 ?_
      refine z_iald (k := ((8 : Int32) + x2).toNatClampNeg) hx hb hK.1 hP 5 rfl rfl h.1 dX6_behind_69 ?_
      have h := h.2
      refine lv_goto (tgt := 87) hx hb dX6_behind_70 (by decide) ?_
      refine lv_topi (fun v_20 ev_20 => ?_)
      have h := h v_20 ev_20
      refine lv_istore (lv' := [(4, .int v_20), (0, .ref h6), (2, .int x2), (3, .int x3)]) hx hb dX6_behind_87 hl (by decide) rfl (fun ls hl => ?_)
      refine lv_aload_n hx hb dX6_behind_89 rfl (lv_at hl 1 rfl) ?_
      refine k0V_v (As := []) (n := 0) ⟨hx, hb, hml, hown, hts⟩ hK hP hD hS hA (c_X6_lets l D cI cC cQ h6 a_mt a_mo a_md a_mb a_ms a_mp a_mi a_mn a_mh a_mg a_mr a_mx mt my mo md mb ms_15 mp mk mi mq mn mz ma mh_16 mg_8 mr mx  _ h) gX6_behind_X6_lets rfl rfl ⟨rfl, rfl⟩ yoX6_lets ⟨Nat.le_of_ble_eq_true rfl, Nat.le_of_ble_eq_true rfl⟩ (q0 := 0) (ci := 6) rfl rfl rfl rfl hl.1 rfl (Nat.le_of_ble_eq_true rfl) dX6_behind_90 ⟨Nat.zero_le _, Nat.zero_le _⟩ (fun ms_21 H locs h hP hD hS => ?_)
      have hP : va_P D vwCl [(h6, .inr (6, [.ref a_mt, .int my, .ref a_mo, .ref a_md, .ref a_mb, .ref a_ms, .ref a_mp, .int mk, .ref a_mi, .int mq, .ref a_mn, .int mz, .int ma, .ref a_mh, .ref a_mg, .ref a_mr, .ref a_mx])), (a_mt, .inl (cI, 200, .inl mt)), (a_mo, .inl (cI, 16, .inl mo)), (a_md, .inl (cI, 16, .inl md)), (a_mb, .inl (cI, 56, .inl mb)), (a_ms, .inl (cI, 56, .inl ms_21)), (a_mp, .inl (cI, 448, .inl mp)), (a_mi, .inl (cI, 112, .inl mi)), (a_mn, .inl (cI, 12, .inl mn)), (a_mh, .inl (cI, 42, .inl mh_16)), (a_mg, .inl (cI, 56, .inl mg_8)), (a_mr, .inl (cI, 6, .inl mr)), (a_mx, .inl (cI, 6, .inl mx))] H := hP
      have hD : va_D A [(h6, .inr (6, [.ref a_mt, .int my, .ref a_mo, .ref a_md, .ref a_mb, .ref a_ms, .ref a_mp, .int mk, .ref a_mi, .int mq, .ref a_mn, .int mz, .int ma, .ref a_mh, .ref a_mg, .ref a_mr, .ref a_mx])), (a_mt, .inl (cI, 200, .inl mt)), (a_mo, .inl (cI, 16, .inl mo)), (a_md, .inl (cI, 16, .inl md)), (a_mb, .inl (cI, 56, .inl mb)), (a_ms, .inl (cI, 56, .inl ms_21)), (a_mp, .inl (cI, 448, .inl mp)), (a_mi, .inl (cI, 112, .inl mi)), (a_mn, .inl (cI, 12, .inl mn)), (a_mh, .inl (cI, 42, .inl mh_16)), (a_mg, .inl (cI, 56, .inl mg_8)), (a_mr, .inl (cI, 6, .inl mr)), (a_mx, .inl (cI, 6, .inl mx))] := hD
      refine lv_iload hx hb dX6_behind_93 (lv_at hl 0 rfl) ?_
      exact hret v_20 (ms_21, mh_16, mg_8) _ _ _ ls h hP hD hS dX6_behind_95
  refine lv_iload_n hx hb dX6_behind_0 rfl (lv_at hl 1 rfl) ?_
  refine lv_iconst (v := 0) hx hb dX6_behind_1 (by decide) ?_
  refine lv_bipush (v := 40) hx hb dX6_behind_2 (by decide) ?_
  refine kS_i (wr := [(h6, .inr (6, [.ref a_mt, .int my, .ref a_mo, .ref a_md, .ref a_mb, .ref a_ms, .ref a_mp, .int mk, .ref a_mi, .int mq, .ref a_mn, .int mz, .int ma, .ref a_mh, .ref a_mg, .ref a_mr, .ref a_mx])), (a_mt, .inl (cI, 200, .inl mt)), (a_mo, .inl (cI, 16, .inl mo)), (a_md, .inl (cI, 16, .inl md)), (a_mb, .inl (cI, 56, .inl mb)), (a_ms, .inl (cI, 56, .inl ms)), (a_mp, .inl (cI, 448, .inl mp)), (a_mi, .inl (cI, 112, .inl mi)), (a_mn, .inl (cI, 12, .inl mn)), (a_mh, .inl (cI, 42, .inl mh)), (a_mg, .inl (cI, 56, .inl mg)), (a_mr, .inl (cI, 6, .inl mr)), (a_mx, .inl (cI, 6, .inl mx))]) (As := [.int x1, .int (0 : Int32), .int (40 : Int32)]) (n := 3) ⟨hx, hb, hml, hown, hts⟩ hK hP hD hS hA (c_X6_in l D cI cC cQ   x1 (0 : Int32) (40 : Int32) _ h) gX6_behind_X6_in rfl ⟨rfl, rfl⟩ yoX6_in ⟨Nat.le_of_ble_eq_true rfl, Nat.le_of_ble_eq_true rfl⟩ rfl hl.1 rfl (Nat.le_of_ble_eq_true rfl) dX6_behind_4 ⟨Nat.zero_le _, Nat.zero_le _⟩ [] [0, 1, 2, 3, 4, 5, 6, 7, 8, 9, 10, 11, 12] rfl (by decide) rfl (by decide) (by decide) (fun r_1 u H locs h hP hD hS => ?_)
  have hP : va_P D vwCl [(h6, .inr (6, [.ref a_mt, .int my, .ref a_mo, .ref a_md, .ref a_mb, .ref a_ms, .ref a_mp, .int mk, .ref a_mi, .int mq, .ref a_mn, .int mz, .int ma, .ref a_mh, .ref a_mg, .ref a_mr, .ref a_mx])), (a_mt, .inl (cI, 200, .inl mt)), (a_mo, .inl (cI, 16, .inl mo)), (a_md, .inl (cI, 16, .inl md)), (a_mb, .inl (cI, 56, .inl mb)), (a_ms, .inl (cI, 56, .inl ms)), (a_mp, .inl (cI, 448, .inl mp)), (a_mi, .inl (cI, 112, .inl mi)), (a_mn, .inl (cI, 12, .inl mn)), (a_mh, .inl (cI, 42, .inl mh)), (a_mg, .inl (cI, 56, .inl mg)), (a_mr, .inl (cI, 6, .inl mr)), (a_mx, .inl (cI, 6, .inl mx))] H := hP
  have hD : va_D A [(h6, .inr (6, [.ref a_mt, .int my, .ref a_mo, .ref a_md, .ref a_mb, .ref a_ms, .ref a_mp, .int mk, .ref a_mi, .int mq, .ref a_mn, .int mz, .int ma, .ref a_mh, .ref a_mg, .ref a_mr, .ref a_mx])), (a_mt, .inl (cI, 200, .inl mt)), (a_mo, .inl (cI, 16, .inl mo)), (a_md, .inl (cI, 16, .inl md)), (a_mb, .inl (cI, 56, .inl mb)), (a_ms, .inl (cI, 56, .inl ms)), (a_mp, .inl (cI, 448, .inl mp)), (a_mi, .inl (cI, 112, .inl mi)), (a_mn, .inl (cI, 12, .inl mn)), (a_mh, .inl (cI, 42, .inl mh)), (a_mg, .inl (cI, 56, .inl mg)), (a_mr, .inl (cI, 6, .inl mr)), (a_mx, .inl (cI, 6, .inl mx))] := hD
  obtain ⟨b_2, h⟩ := h
  refine lv_if_eq (tgt := 31) hx hb dX6_behind_7 (by decide) (fun c_3 => ?_) (fun c_3 => ?_)
  · have h := h.1 c_3
    refine lv_iconst (v := -1) hx hb dX6_behind_31 (by decide) ?_
    exact hret (-1 : Int32) (ms, mh, mg) _ _ _ ls h hP hD hS dX6_behind_32
  · have h := h.2 c_3
    refine lv_aload_n hx hb dX6_behind_10 rfl (lv_at hl 0 rfl) ?_
    refine lv_iload_n hx hb dX6_behind_11 rfl (lv_at hl 2 rfl) ?_
    refine k0V_i (As := [.int x2]) (n := 1) ⟨hx, hb, hml, hown, hts⟩ hK hP hD hS hA (c_X6_isNews l D cI cC cQ h6 a_mt a_mo a_md a_mb a_ms a_mp a_mi a_mn a_mh a_mg a_mr a_mx mt my mo md mb ms mp mk mi mq mn mz ma mh mg mr mx x2 _ h) gX6_behind_X6_isNews rfl rfl ⟨rfl, rfl⟩ yoX6_isNews ⟨Nat.le_of_ble_eq_true rfl, Nat.le_of_ble_eq_true rfl⟩ (q0 := 0) (ci := 6) rfl rfl rfl rfl hl.1 rfl (Nat.le_of_ble_eq_true rfl) dX6_behind_12 ⟨Nat.zero_le _, Nat.zero_le _⟩ (fun r_4 u H locs h hP hD hS => ?_)
    obtain ⟨b_5, h⟩ := h
    refine lv_if_eq (tgt := 31) hx hb dX6_behind_15 (by decide) (fun c_6 => ?_) (fun c_6 => ?_)
    · have h := h.1 c_6
      refine lv_iconst (v := -1) hx hb dX6_behind_31 (by decide) ?_
      exact hret (-1 : Int32) (ms, mh, mg) _ _ _ ls h hP hD hS dX6_behind_32
    · have h := h.2 c_6
      refine lv_iload_n hx hb dX6_behind_18 rfl (lv_at hl 3 rfl) ?_
      refine lv_iconst (v := -1) hx hb dX6_behind_19 (by decide) ?_
      refine lv_icmp_eq (tgt := 33) hx hb dX6_behind_20 (by decide) (fun c_7 => ?_) (fun c_7 => ?_)
      · have h := h.1 c_7
        exact J33 h hP hD hS (lv_sub hl [0, 1, 2, 3] rfl)
      · have h := h.2 c_7
        refine lv_aload_n hx hb dX6_behind_23 rfl (lv_at hl 0 rfl) ?_
        refine lv_iload_n hx hb dX6_behind_24 rfl (lv_at hl 3 rfl) ?_
        refine k0V_i (As := [.int x3]) (n := 1) ⟨hx, hb, hml, hown, hts⟩ hK hP hD hS hA (c_X6_isCourtier l D cI cC cQ h6 a_mt a_mo a_md a_mb a_ms a_mp a_mi a_mn a_mh a_mg a_mr a_mx mt my mo md mb ms mp mk mi mq mn mz ma mh mg mr mx x3 _ h) gX6_behind_X6_isCourtier rfl rfl ⟨rfl, rfl⟩ yoX6_isCourtier ⟨Nat.le_of_ble_eq_true rfl, Nat.le_of_ble_eq_true rfl⟩ (q0 := 0) (ci := 6) rfl rfl rfl rfl hl.1 rfl (Nat.le_of_ble_eq_true rfl) dX6_behind_25 ⟨Nat.zero_le _, Nat.zero_le _⟩ (fun r_23 u H locs h hP hD hS => ?_)
        obtain ⟨b_24, h⟩ := h
        refine lv_if_ne (tgt := 33) hx hb dX6_behind_28 (by decide) (fun c_25 => ?_) (fun c_25 => ?_)
        · have h := h.2 c_25
          exact J33 h hP hD hS (lv_sub hl [0, 1, 2, 3] rfl)
        · have h := h.1 c_25
          refine lv_iconst (v := -1) hx hb dX6_behind_31 (by decide) ?_
          exact hret (-1 : Int32) (ms, mh, mg) _ _ _ ls h hP hD hS dX6_behind_32

/-! DoubtCourtModel.knownIn -/
abbrev rmX6_knownIn : Room := { frames := 3, cells := 0, slots := 0, locals := 73 }
theorem yoX6_knownIn : yX6_knownIn.cls ≠ "java/lang/invoke/MethodHandle" ∧ yX6_knownIn.cls ≠ "java/lang/invoke/VarHandle" ∧ (parseMethodDescriptor yX6_knownIn.desc).map (fun d => d.parameters.length) = some 1 := by decide +kernel
set_option maxHeartbeats 4000000 in
set_option maxRecDepth 100000 in
theorem c_X6_knownIn (l : Launch) (D : va_G) (cI cC cQ : ClassId) (h6 : Nat) (a_mt : Nat) (a_mo : Nat) (a_md : Nat) (a_mb : Nat) (a_ms : Nat) (a_mp : Nat) (a_mi : Nat) (a_mn : Nat) (a_mh : Nat) (a_mg : Nat) (a_mr : Nat) (a_mx : Nat) (mt : Nat → Int32) (my : Int32) (mo : Nat → Int32) (md : Nat → Int32) (mb : Nat → Int32) (ms : Nat → Int32) (mp : Nat → Int32) (mk : Int32) (mi : Nat → Int32) (mq : Int32) (mn : Nat → Int32) (mz : Int32) (ma : Int32) (mh : Nat → Int32) (mg : Nat → Int32) (mr : Nat → Int32) (mx : Nat → Int32) (x1 : Int32) (Q : Int32 → (Nat → Int32) → (Nat → Int32) → Prop) (h : wX6_knownIn x1 mo ms mh Q) : Ci (S := (Nat → Int32) × (Nat → Int32)) l D cI cC cQ yX6_knownIn wsX6_knownIn rmX6_knownIn [.ref h6, .int x1] [(h6, .inr (6, [.ref a_mt, .int my, .ref a_mo, .ref a_md, .ref a_mb, .ref a_ms, .ref a_mp, .int mk, .ref a_mi, .int mq, .ref a_mn, .int mz, .int ma, .ref a_mh, .ref a_mg, .ref a_mr, .ref a_mx])), (a_mt, .inl (cI, 200, .inl mt)), (a_mo, .inl (cI, 16, .inl mo)), (a_md, .inl (cI, 16, .inl md)), (a_mb, .inl (cI, 56, .inl mb)), (a_ms, .inl (cI, 56, .inl ms)), (a_mp, .inl (cI, 448, .inl mp)), (a_mi, .inl (cI, 112, .inl mi)), (a_mn, .inl (cI, 12, .inl mn)), (a_mh, .inl (cI, 42, .inl mh)), (a_mg, .inl (cI, 56, .inl mg)), (a_mr, .inl (cI, 6, .inl mr)), (a_mx, .inl (cI, 6, .inl mx))] (fun u => [(h6, .inr (6, [.ref a_mt, .int my, .ref a_mo, .ref a_md, .ref a_mb, .ref a_ms, .ref a_mp, .int mk, .ref a_mi, .int mq, .ref a_mn, .int mz, .int ma, .ref a_mh, .ref a_mg, .ref a_mr, .ref a_mx])), (a_mt, .inl (cI, 200, .inl mt)), (a_mo, .inl (cI, 16, .inl mo)), (a_md, .inl (cI, 16, .inl md)), (a_mb, .inl (cI, 56, .inl mb)), (a_ms, .inl (cI, 56, .inl u.1)), (a_mp, .inl (cI, 448, .inl mp)), (a_mi, .inl (cI, 112, .inl mi)), (a_mn, .inl (cI, 12, .inl mn)), (a_mh, .inl (cI, 42, .inl u.2)), (a_mg, .inl (cI, 56, .inl mg)), (a_mr, .inl (cI, 6, .inl mr)), (a_mx, .inl (cI, 6, .inl mx))]) (fun r u => Q r u.1 u.2) := by
  refine Ci_mk (cc := cX6_knownIn) (maxL := 3) (by decide) rfl (Nat.le_of_ble_eq_true rfl) ?_
  intro p e s m args below meth c A Z ls hx hb hml hown hts hK hA hP hD hret hl
  have hS : va_S A s.heap s.heap [] := va_S.rf
  have hin6 : ∀ w ∈ u_ws RX6 TX6 17, w ∈ wsX6_knownIn := by decide +kernel
  have k_0 := hts (.fieldLink RX6 22 "DoubtCourtModel" "s" "[I") (by decide +kernel)
  have hl : lv_has ls 3 [(0, .ref h6), (1, .int x1)] := hl
  have L2 : ∀ (n : Nat) {x1 : Int32} {x2 : Int32} {ms : Nat → Int32} {mh : Nat → Int32} {H : Heap} {locs : List Loc} {ls : Array Slot}, wX6_knownIn_L2 x1 mo Q n x2 ms mh → va_P D vwCl [(h6, .inr (6, [.ref a_mt, .int my, .ref a_mo, .ref a_md, .ref a_mb, .ref a_ms, .ref a_mp, .int mk, .ref a_mi, .int mq, .ref a_mn, .int mz, .int ma, .ref a_mh, .ref a_mg, .ref a_mr, .ref a_mx])), (a_mt, .inl (cI, 200, .inl mt)), (a_mo, .inl (cI, 16, .inl mo)), (a_md, .inl (cI, 16, .inl md)), (a_mb, .inl (cI, 56, .inl mb)), (a_ms, .inl (cI, 56, .inl ms)), (a_mp, .inl (cI, 448, .inl mp)), (a_mi, .inl (cI, 112, .inl mi)), (a_mn, .inl (cI, 12, .inl mn)), (a_mh, .inl (cI, 42, .inl mh)), (a_mg, .inl (cI, 56, .inl mg)), (a_mr, .inl (cI, 6, .inl mr)), (a_mx, .inl (cI, 6, .inl mx))] H → va_D A [(h6, .inr (6, [.ref a_mt, .int my, .ref a_mo, .ref a_md, .ref a_mb, .ref a_ms, .ref a_mp, .int mk, .ref a_mi, .int mq, .ref a_mn, .int mz, .int ma, .ref a_mh, .ref a_mg, .ref a_mr, .ref a_mx])), (a_mt, .inl (cI, 200, .inl mt)), (a_mo, .inl (cI, 16, .inl mo)), (a_md, .inl (cI, 16, .inl md)), (a_mb, .inl (cI, 56, .inl mb)), (a_ms, .inl (cI, 56, .inl ms)), (a_mp, .inl (cI, 448, .inl mp)), (a_mi, .inl (cI, 112, .inl mi)), (a_mn, .inl (cI, 12, .inl mn)), (a_mh, .inl (cI, 42, .inl mh)), (a_mg, .inl (cI, 56, .inl mg)), (a_mr, .inl (cI, 6, .inl mr)), (a_mx, .inl (cI, 6, .inl mx))] → va_S A s.heap H locs → lv_has ls 3 [(0, .ref h6), (1, .int x1), (2, .int x2)] → W p l e rmX6_knownIn s m args below meth c H locs 0 0 Z (F0 m 2 ls []) := by
    intro n
    induction n with
    | zero =>
      intro x1 x2 ms mh H locs ls h hP hD hS hl
      exact (show False from h).elim
    | succ n ih =>
      intro x1 x2 ms mh H locs ls h hP hD hS hl
      refine lv_iload_n hx hb dX6_knownIn_2 rfl (lv_at hl 2 rfl) ?_
      refine lv_bipush (v := 60) hx hb dX6_knownIn_3 (by decide) ?_
      refine lv_icmp_gt (tgt := 32) hx hb dX6_knownIn_5 (by decide) (fun c_7 => ?_) (fun c_7 => ?_)
      · have h := h.1 c_7
        refine lv_iload_n hx hb dX6_knownIn_32 rfl (lv_at hl 2 rfl) ?_
        refine lv_bipush (v := 60) hx hb dX6_knownIn_33 (by decide) ?_
        refine lv_icmp_le (tgt := 43) hx hb dX6_knownIn_35 (by decide) (fun c_8 => ?_) (fun c_8 => ?_)
        · have h := h.1 c_8
          refine lv_iload_n hx hb dX6_knownIn_43 rfl (lv_at hl 2 rfl) ?_
          exact hret x2 (ms, mh) _ _ _ ls h hP hD hS dX6_knownIn_44
        · have h := h.2 c_8
          refine lv_bipush (v := -4) hx hb dX6_knownIn_38 (by decide) ?_
          refine lv_goto (tgt := 44) hx hb dX6_knownIn_40 (by decide) ?_
          exact hret (-4 : Int32) (ms, mh) _ _ _ ls h hP hD hS dX6_knownIn_44
      · have h := h.2 c_7
        refine lv_aload_n hx hb dX6_knownIn_8 rfl (lv_at hl 0 rfl) ?_
        refine va_get (D := D) (ci := 6) (v := .ref a_ms) (C := RX6) (T := TX6) (N := 17) hx hb hts hin6 hown hK.1 hP 0 rfl rfl 5 (by decide) (k_0) (fun _ h9 => h9) rfl dX6_knownIn_9 ?_
        refine lv_bipush (v := 8) hx hb dX6_knownIn_12 (by decide) ?_
        refine lv_iload_n hx hb dX6_knownIn_14 rfl (lv_at hl 1 rfl) ?_
        refine lv_iadd hx hb dX6_knownIn_15 ?_
        refine z_iald (k := ((8 : Int32) + x1).toNatClampNeg) hx hb hK.1 hP 5 rfl rfl h.1 dX6_knownIn_16 ?_
        have h := h.2
        refine lv_bipush (v := 9) hx hb dX6_knownIn_17 (by decide) ?_
        refine lv_icmp_eq (tgt := 32) hx hb dX6_knownIn_19 (by decide) (fun c_9 => ?_) (fun c_9 => ?_)
        · have h := h.1 c_9
          refine lv_iload_n hx hb dX6_knownIn_32 rfl (lv_at hl 2 rfl) ?_
          refine lv_bipush (v := 60) hx hb dX6_knownIn_33 (by decide) ?_
          refine lv_icmp_le (tgt := 43) hx hb dX6_knownIn_35 (by decide) (fun c_10 => ?_) (fun c_10 => ?_)
          · have h := h.1 c_10
            refine lv_iload_n hx hb dX6_knownIn_43 rfl (lv_at hl 2 rfl) ?_
            exact hret x2 (ms, mh) _ _ _ ls h hP hD hS dX6_knownIn_44
          · have h := h.2 c_10
            refine lv_bipush (v := -4) hx hb dX6_knownIn_38 (by decide) ?_
            refine lv_goto (tgt := 44) hx hb dX6_knownIn_40 (by decide) ?_
            exact hret (-4 : Int32) (ms, mh) _ _ _ ls h hP hD hS dX6_knownIn_44
        · have h := h.2 c_9
          refine lv_aload_n hx hb dX6_knownIn_22 rfl (lv_at hl 0 rfl) ?_
          refine k0V_v (As := []) (n := 0) ⟨hx, hb, hml, hown, hts⟩ hK hP hD hS hA (c_X6_passes l D cI cC cQ h6 a_mt a_mo a_md a_mb a_ms a_mp a_mi a_mn a_mh a_mg a_mr a_mx mt my mo md mb ms mp mk mi mq mn mz ma mh mg mr mx  _ h) gX6_knownIn_X6_passes rfl rfl ⟨rfl, rfl⟩ yoX6_passes ⟨Nat.le_of_ble_eq_true rfl, Nat.le_of_ble_eq_true rfl⟩ (q0 := 0) (ci := 6) rfl rfl rfl rfl hl.1 rfl (Nat.le_of_ble_eq_true rfl) dX6_knownIn_23 ⟨Nat.zero_le _, Nat.zero_le _⟩ (fun u H locs h hP hD hS => ?_)
          obtain ⟨ms_11, mh_12⟩ := u
          have hP : va_P D vwCl [(h6, .inr (6, [.ref a_mt, .int my, .ref a_mo, .ref a_md, .ref a_mb, .ref a_ms, .ref a_mp, .int mk, .ref a_mi, .int mq, .ref a_mn, .int mz, .int ma, .ref a_mh, .ref a_mg, .ref a_mr, .ref a_mx])), (a_mt, .inl (cI, 200, .inl mt)), (a_mo, .inl (cI, 16, .inl mo)), (a_md, .inl (cI, 16, .inl md)), (a_mb, .inl (cI, 56, .inl mb)), (a_ms, .inl (cI, 56, .inl ms_11)), (a_mp, .inl (cI, 448, .inl mp)), (a_mi, .inl (cI, 112, .inl mi)), (a_mn, .inl (cI, 12, .inl mn)), (a_mh, .inl (cI, 42, .inl mh_12)), (a_mg, .inl (cI, 56, .inl mg)), (a_mr, .inl (cI, 6, .inl mr)), (a_mx, .inl (cI, 6, .inl mx))] H := hP
          have hD : va_D A [(h6, .inr (6, [.ref a_mt, .int my, .ref a_mo, .ref a_md, .ref a_mb, .ref a_ms, .ref a_mp, .int mk, .ref a_mi, .int mq, .ref a_mn, .int mz, .int ma, .ref a_mh, .ref a_mg, .ref a_mr, .ref a_mx])), (a_mt, .inl (cI, 200, .inl mt)), (a_mo, .inl (cI, 16, .inl mo)), (a_md, .inl (cI, 16, .inl md)), (a_mb, .inl (cI, 56, .inl mb)), (a_ms, .inl (cI, 56, .inl ms_11)), (a_mp, .inl (cI, 448, .inl mp)), (a_mi, .inl (cI, 112, .inl mi)), (a_mn, .inl (cI, 12, .inl mn)), (a_mh, .inl (cI, 42, .inl mh_12)), (a_mg, .inl (cI, 56, .inl mg)), (a_mr, .inl (cI, 6, .inl mr)), (a_mx, .inl (cI, 6, .inl mx))] := hD
          refine lv_iinc (v := (x2 + (1 : Int32))) (lv' := [(2, .int (x2 + (1 : Int32))), (0, .ref h6), (1, .int x1)]) hx hb dX6_knownIn_26 hl (k := 2) rfl rfl (by decide) rfl (fun ls hl => ?_)
          refine lv_goto (tgt := 2) hx hb dX6_knownIn_29 (by decide) ?_
          exact ih h hP hD hS (lv_sub hl [1, 2, 0] rfl)
  refine lv_iconst (v := 0) hx hb dX6_knownIn_0 (by decide) ?_
  refine lv_istore_n (lv' := [(2, .int (0 : Int32)), (0, .ref h6), (1, .int x1)]) hx hb dX6_knownIn_1 rfl hl (by decide) rfl (fun ls hl => ?_)
  obtain ⟨n_13, h⟩ := h
  exact L2 n_13 h hP hD hS (lv_sub hl [1, 2, 0] rfl)

/-! DoubtCourtModel.comesIn -/
abbrev rmX6_comesIn : Room := { frames := 4, cells := 0, slots := 0, locals := 95 }
theorem yoX6_comesIn : yX6_comesIn.cls ≠ "java/lang/invoke/MethodHandle" ∧ yX6_comesIn.cls ≠ "java/lang/invoke/VarHandle" ∧ (parseMethodDescriptor yX6_comesIn.desc).map (fun d => d.parameters.length) = some 1 := by decide +kernel
set_option maxHeartbeats 4000000 in
set_option maxRecDepth 100000 in
theorem c_X6_comesIn (l : Launch) (D : va_G) (cI cC cQ : ClassId) (h6 : Nat) (a_mt : Nat) (a_mo : Nat) (a_md : Nat) (a_mb : Nat) (a_ms : Nat) (a_mp : Nat) (a_mi : Nat) (a_mn : Nat) (a_mh : Nat) (a_mg : Nat) (a_mr : Nat) (a_mx : Nat) (mt : Nat → Int32) (my : Int32) (mo : Nat → Int32) (md : Nat → Int32) (mb : Nat → Int32) (ms : Nat → Int32) (mp : Nat → Int32) (mk : Int32) (mi : Nat → Int32) (mq : Int32) (mn : Nat → Int32) (mz : Int32) (ma : Int32) (mh : Nat → Int32) (mg : Nat → Int32) (mr : Nat → Int32) (mx : Nat → Int32) (x1 : Int32) (Q : Int32 → (Nat → Int32) → (Nat → Int32) → (Nat → Int32) → Prop) (h : wX6_comesIn x1 mo ms mh mg Q) : Ci (S := (Nat → Int32) × (Nat → Int32) × (Nat → Int32)) l D cI cC cQ yX6_comesIn wsX6_comesIn rmX6_comesIn [.ref h6, .int x1] [(h6, .inr (6, [.ref a_mt, .int my, .ref a_mo, .ref a_md, .ref a_mb, .ref a_ms, .ref a_mp, .int mk, .ref a_mi, .int mq, .ref a_mn, .int mz, .int ma, .ref a_mh, .ref a_mg, .ref a_mr, .ref a_mx])), (a_mt, .inl (cI, 200, .inl mt)), (a_mo, .inl (cI, 16, .inl mo)), (a_md, .inl (cI, 16, .inl md)), (a_mb, .inl (cI, 56, .inl mb)), (a_ms, .inl (cI, 56, .inl ms)), (a_mp, .inl (cI, 448, .inl mp)), (a_mi, .inl (cI, 112, .inl mi)), (a_mn, .inl (cI, 12, .inl mn)), (a_mh, .inl (cI, 42, .inl mh)), (a_mg, .inl (cI, 56, .inl mg)), (a_mr, .inl (cI, 6, .inl mr)), (a_mx, .inl (cI, 6, .inl mx))] (fun u => [(h6, .inr (6, [.ref a_mt, .int my, .ref a_mo, .ref a_md, .ref a_mb, .ref a_ms, .ref a_mp, .int mk, .ref a_mi, .int mq, .ref a_mn, .int mz, .int ma, .ref a_mh, .ref a_mg, .ref a_mr, .ref a_mx])), (a_mt, .inl (cI, 200, .inl mt)), (a_mo, .inl (cI, 16, .inl mo)), (a_md, .inl (cI, 16, .inl md)), (a_mb, .inl (cI, 56, .inl mb)), (a_ms, .inl (cI, 56, .inl u.1)), (a_mp, .inl (cI, 448, .inl mp)), (a_mi, .inl (cI, 112, .inl mi)), (a_mn, .inl (cI, 12, .inl mn)), (a_mh, .inl (cI, 42, .inl u.2.1)), (a_mg, .inl (cI, 56, .inl u.2.2)), (a_mr, .inl (cI, 6, .inl mr)), (a_mx, .inl (cI, 6, .inl mx))]) (fun r u => Q r u.1 u.2.1 u.2.2) := by
  refine Ci_mk (cc := cX6_comesIn) (maxL := 3) (by decide) rfl (Nat.le_of_ble_eq_true rfl) ?_
  intro p e s m args below meth c A Z ls hx hb hml hown hts hK hA hP hD hret hl
  have hS : va_S A s.heap s.heap [] := va_S.rf
  have hl : lv_has ls 3 [(0, .ref h6), (1, .int x1)] := hl
  refine lv_aload_n hx hb dX6_comesIn_0 rfl (lv_at hl 0 rfl) ?_
  refine k0V_v (As := []) (n := 0) ⟨hx, hb, hml, hown, hts⟩ hK hP hD hS hA (c_X6_holds l D cI cC cQ h6 a_mt a_mo a_md a_mb a_ms a_mp a_mi a_mn a_mh a_mg a_mr a_mx mt my mo md mb ms mp mk mi mq mn mz ma mh mg mr mx  _ h) gX6_comesIn_X6_holds rfl rfl ⟨rfl, rfl⟩ yoX6_holds ⟨Nat.le_of_ble_eq_true rfl, Nat.le_of_ble_eq_true rfl⟩ (q0 := 0) (ci := 6) rfl rfl rfl rfl hl.1 rfl (Nat.le_of_ble_eq_true rfl) dX6_comesIn_1 ⟨Nat.zero_le _, Nat.zero_le _⟩ (fun mg_1 H locs h hP hD hS => ?_)
  have hP : va_P D vwCl [(h6, .inr (6, [.ref a_mt, .int my, .ref a_mo, .ref a_md, .ref a_mb, .ref a_ms, .ref a_mp, .int mk, .ref a_mi, .int mq, .ref a_mn, .int mz, .int ma, .ref a_mh, .ref a_mg, .ref a_mr, .ref a_mx])), (a_mt, .inl (cI, 200, .inl mt)), (a_mo, .inl (cI, 16, .inl mo)), (a_md, .inl (cI, 16, .inl md)), (a_mb, .inl (cI, 56, .inl mb)), (a_ms, .inl (cI, 56, .inl ms)), (a_mp, .inl (cI, 448, .inl mp)), (a_mi, .inl (cI, 112, .inl mi)), (a_mn, .inl (cI, 12, .inl mn)), (a_mh, .inl (cI, 42, .inl mh)), (a_mg, .inl (cI, 56, .inl mg_1)), (a_mr, .inl (cI, 6, .inl mr)), (a_mx, .inl (cI, 6, .inl mx))] H := hP
  have hD : va_D A [(h6, .inr (6, [.ref a_mt, .int my, .ref a_mo, .ref a_md, .ref a_mb, .ref a_ms, .ref a_mp, .int mk, .ref a_mi, .int mq, .ref a_mn, .int mz, .int ma, .ref a_mh, .ref a_mg, .ref a_mr, .ref a_mx])), (a_mt, .inl (cI, 200, .inl mt)), (a_mo, .inl (cI, 16, .inl mo)), (a_md, .inl (cI, 16, .inl md)), (a_mb, .inl (cI, 56, .inl mb)), (a_ms, .inl (cI, 56, .inl ms)), (a_mp, .inl (cI, 448, .inl mp)), (a_mi, .inl (cI, 112, .inl mi)), (a_mn, .inl (cI, 12, .inl mn)), (a_mh, .inl (cI, 42, .inl mh)), (a_mg, .inl (cI, 56, .inl mg_1)), (a_mr, .inl (cI, 6, .inl mr)), (a_mx, .inl (cI, 6, .inl mx))] := hD
  refine lv_aload_n hx hb dX6_comesIn_4 rfl (lv_at hl 0 rfl) ?_
  refine lv_iload_n hx hb dX6_comesIn_5 rfl (lv_at hl 1 rfl) ?_
  refine k0V_i (As := [.int x1]) (n := 1) ⟨hx, hb, hml, hown, hts⟩ hK hP hD hS hA (c_X6_knownIn l D cI cC cQ h6 a_mt a_mo a_md a_mb a_ms a_mp a_mi a_mn a_mh a_mg a_mr a_mx mt my mo md mb ms mp mk mi mq mn mz ma mh mg_1 mr mx x1 _ h) gX6_comesIn_X6_knownIn rfl rfl ⟨rfl, rfl⟩ yoX6_knownIn ⟨Nat.le_of_ble_eq_true rfl, Nat.le_of_ble_eq_true rfl⟩ (q0 := 0) (ci := 6) rfl rfl rfl rfl hl.1 rfl (Nat.le_of_ble_eq_true rfl) dX6_comesIn_6 ⟨Nat.zero_le _, Nat.zero_le _⟩ (fun r_2 u H locs h hP hD hS => ?_)
  obtain ⟨ms_3, mh_4⟩ := u
  have hP : va_P D vwCl [(h6, .inr (6, [.ref a_mt, .int my, .ref a_mo, .ref a_md, .ref a_mb, .ref a_ms, .ref a_mp, .int mk, .ref a_mi, .int mq, .ref a_mn, .int mz, .int ma, .ref a_mh, .ref a_mg, .ref a_mr, .ref a_mx])), (a_mt, .inl (cI, 200, .inl mt)), (a_mo, .inl (cI, 16, .inl mo)), (a_md, .inl (cI, 16, .inl md)), (a_mb, .inl (cI, 56, .inl mb)), (a_ms, .inl (cI, 56, .inl ms_3)), (a_mp, .inl (cI, 448, .inl mp)), (a_mi, .inl (cI, 112, .inl mi)), (a_mn, .inl (cI, 12, .inl mn)), (a_mh, .inl (cI, 42, .inl mh_4)), (a_mg, .inl (cI, 56, .inl mg_1)), (a_mr, .inl (cI, 6, .inl mr)), (a_mx, .inl (cI, 6, .inl mx))] H := hP
  have hD : va_D A [(h6, .inr (6, [.ref a_mt, .int my, .ref a_mo, .ref a_md, .ref a_mb, .ref a_ms, .ref a_mp, .int mk, .ref a_mi, .int mq, .ref a_mn, .int mz, .int ma, .ref a_mh, .ref a_mg, .ref a_mr, .ref a_mx])), (a_mt, .inl (cI, 200, .inl mt)), (a_mo, .inl (cI, 16, .inl mo)), (a_md, .inl (cI, 16, .inl md)), (a_mb, .inl (cI, 56, .inl mb)), (a_ms, .inl (cI, 56, .inl ms_3)), (a_mp, .inl (cI, 448, .inl mp)), (a_mi, .inl (cI, 112, .inl mi)), (a_mn, .inl (cI, 12, .inl mn)), (a_mh, .inl (cI, 42, .inl mh_4)), (a_mg, .inl (cI, 56, .inl mg_1)), (a_mr, .inl (cI, 6, .inl mr)), (a_mx, .inl (cI, 6, .inl mx))] := hD
  refine lv_istore_n (lv' := [(2, .int r_2), (0, .ref h6), (1, .int x1)]) hx hb dX6_comesIn_9 rfl hl (by decide) rfl (fun ls hl => ?_)
  refine lv_aload_n hx hb dX6_comesIn_10 rfl (lv_at hl 1 rfl) ?_
  refine k0V_v (As := []) (n := 0) ⟨hx, hb, hml, hown, hts⟩ hK hP hD hS hA (c_X6_lets l D cI cC cQ h6 a_mt a_mo a_md a_mb a_ms a_mp a_mi a_mn a_mh a_mg a_mr a_mx mt my mo md mb ms_3 mp mk mi mq mn mz ma mh_4 mg_1 mr mx  _ h) gX6_comesIn_X6_lets rfl rfl ⟨rfl, rfl⟩ yoX6_lets ⟨Nat.le_of_ble_eq_true rfl, Nat.le_of_ble_eq_true rfl⟩ (q0 := 0) (ci := 6) rfl rfl rfl rfl hl.1 rfl (Nat.le_of_ble_eq_true rfl) dX6_comesIn_11 ⟨Nat.zero_le _, Nat.zero_le _⟩ (fun ms_5 H locs h hP hD hS => ?_)
  have hP : va_P D vwCl [(h6, .inr (6, [.ref a_mt, .int my, .ref a_mo, .ref a_md, .ref a_mb, .ref a_ms, .ref a_mp, .int mk, .ref a_mi, .int mq, .ref a_mn, .int mz, .int ma, .ref a_mh, .ref a_mg, .ref a_mr, .ref a_mx])), (a_mt, .inl (cI, 200, .inl mt)), (a_mo, .inl (cI, 16, .inl mo)), (a_md, .inl (cI, 16, .inl md)), (a_mb, .inl (cI, 56, .inl mb)), (a_ms, .inl (cI, 56, .inl ms_5)), (a_mp, .inl (cI, 448, .inl mp)), (a_mi, .inl (cI, 112, .inl mi)), (a_mn, .inl (cI, 12, .inl mn)), (a_mh, .inl (cI, 42, .inl mh_4)), (a_mg, .inl (cI, 56, .inl mg_1)), (a_mr, .inl (cI, 6, .inl mr)), (a_mx, .inl (cI, 6, .inl mx))] H := hP
  have hD : va_D A [(h6, .inr (6, [.ref a_mt, .int my, .ref a_mo, .ref a_md, .ref a_mb, .ref a_ms, .ref a_mp, .int mk, .ref a_mi, .int mq, .ref a_mn, .int mz, .int ma, .ref a_mh, .ref a_mg, .ref a_mr, .ref a_mx])), (a_mt, .inl (cI, 200, .inl mt)), (a_mo, .inl (cI, 16, .inl mo)), (a_md, .inl (cI, 16, .inl md)), (a_mb, .inl (cI, 56, .inl mb)), (a_ms, .inl (cI, 56, .inl ms_5)), (a_mp, .inl (cI, 448, .inl mp)), (a_mi, .inl (cI, 112, .inl mi)), (a_mn, .inl (cI, 12, .inl mn)), (a_mh, .inl (cI, 42, .inl mh_4)), (a_mg, .inl (cI, 56, .inl mg_1)), (a_mr, .inl (cI, 6, .inl mr)), (a_mx, .inl (cI, 6, .inl mx))] := hD
  refine lv_iload_n hx hb dX6_comesIn_14 rfl (lv_at hl 0 rfl) ?_
  exact hret r_2 (ms_5, mh_4, mg_1) _ _ _ ls h hP hD hS dX6_comesIn_15

/-! DoubtCourtModel.comes -/
abbrev rmX6_comes : Room := { frames := 5, cells := 0, slots := 0, locals := 117 }
theorem yoX6_comes : yX6_comes.cls ≠ "java/lang/invoke/MethodHandle" ∧ yX6_comes.cls ≠ "java/lang/invoke/VarHandle" ∧ (parseMethodDescriptor yX6_comes.desc).map (fun d => d.parameters.length) = some 1 := by decide +kernel
set_option maxHeartbeats 4000000 in
set_option maxRecDepth 100000 in
theorem c_X6_comes (l : Launch) (D : va_G) (cI cC cQ : ClassId) (h6 : Nat) (a_mt : Nat) (a_mo : Nat) (a_md : Nat) (a_mb : Nat) (a_ms : Nat) (a_mp : Nat) (a_mi : Nat) (a_mn : Nat) (a_mh : Nat) (a_mg : Nat) (a_mr : Nat) (a_mx : Nat) (mt : Nat → Int32) (my : Int32) (mo : Nat → Int32) (md : Nat → Int32) (mb : Nat → Int32) (ms : Nat → Int32) (mp : Nat → Int32) (mk : Int32) (mi : Nat → Int32) (mq : Int32) (mn : Nat → Int32) (mz : Int32) (ma : Int32) (mh : Nat → Int32) (mg : Nat → Int32) (mr : Nat → Int32) (mx : Nat → Int32) (x1 : Int32) (Q : Int32 → (Nat → Int32) → (Nat → Int32) → (Nat → Int32) → Prop) (h : wX6_comes x1 mo ms mh mg Q) : Ci (S := (Nat → Int32) × (Nat → Int32) × (Nat → Int32)) l D cI cC cQ yX6_comes wsX6_comes rmX6_comes [.ref h6, .int x1] [(h6, .inr (6, [.ref a_mt, .int my, .ref a_mo, .ref a_md, .ref a_mb, .ref a_ms, .ref a_mp, .int mk, .ref a_mi, .int mq, .ref a_mn, .int mz, .int ma, .ref a_mh, .ref a_mg, .ref a_mr, .ref a_mx])), (a_mt, .inl (cI, 200, .inl mt)), (a_mo, .inl (cI, 16, .inl mo)), (a_md, .inl (cI, 16, .inl md)), (a_mb, .inl (cI, 56, .inl mb)), (a_ms, .inl (cI, 56, .inl ms)), (a_mp, .inl (cI, 448, .inl mp)), (a_mi, .inl (cI, 112, .inl mi)), (a_mn, .inl (cI, 12, .inl mn)), (a_mh, .inl (cI, 42, .inl mh)), (a_mg, .inl (cI, 56, .inl mg)), (a_mr, .inl (cI, 6, .inl mr)), (a_mx, .inl (cI, 6, .inl mx))] (fun u => [(h6, .inr (6, [.ref a_mt, .int my, .ref a_mo, .ref a_md, .ref a_mb, .ref a_ms, .ref a_mp, .int mk, .ref a_mi, .int mq, .ref a_mn, .int mz, .int ma, .ref a_mh, .ref a_mg, .ref a_mr, .ref a_mx])), (a_mt, .inl (cI, 200, .inl mt)), (a_mo, .inl (cI, 16, .inl mo)), (a_md, .inl (cI, 16, .inl md)), (a_mb, .inl (cI, 56, .inl mb)), (a_ms, .inl (cI, 56, .inl u.1)), (a_mp, .inl (cI, 448, .inl mp)), (a_mi, .inl (cI, 112, .inl mi)), (a_mn, .inl (cI, 12, .inl mn)), (a_mh, .inl (cI, 42, .inl u.2.1)), (a_mg, .inl (cI, 56, .inl u.2.2)), (a_mr, .inl (cI, 6, .inl mr)), (a_mx, .inl (cI, 6, .inl mx))]) (fun r u => Q r u.1 u.2.1 u.2.2) := by
  refine Ci_mk (cc := cX6_comes) (maxL := 2) (by decide) rfl (Nat.le_of_ble_eq_true rfl) ?_
  intro p e s m args below meth c A Z ls hx hb hml hown hts hK hA hP hD hret hl
  have hS : va_S A s.heap s.heap [] := va_S.rf
  have hl : lv_has ls 2 [(0, .ref h6), (1, .int x1)] := hl
  refine lv_aload_n hx hb dX6_comes_0 rfl (lv_at hl 0 rfl) ?_
  refine lv_iload_n hx hb dX6_comes_1 rfl (lv_at hl 1 rfl) ?_
  refine k0V_i (As := [.int x1]) (n := 1) ⟨hx, hb, hml, hown, hts⟩ hK hP hD hS hA (c_X6_isNews l D cI cC cQ h6 a_mt a_mo a_md a_mb a_ms a_mp a_mi a_mn a_mh a_mg a_mr a_mx mt my mo md mb ms mp mk mi mq mn mz ma mh mg mr mx x1 _ h) gX6_comes_X6_isNews rfl rfl ⟨rfl, rfl⟩ yoX6_isNews ⟨Nat.le_of_ble_eq_true rfl, Nat.le_of_ble_eq_true rfl⟩ (q0 := 0) (ci := 6) rfl rfl rfl rfl hl.1 rfl (Nat.le_of_ble_eq_true rfl) dX6_comes_2 ⟨Nat.zero_le _, Nat.zero_le _⟩ (fun r_1 u H locs h hP hD hS => ?_)
  obtain ⟨b_2, h⟩ := h
  refine lv_if_eq (tgt := 16) hx hb dX6_comes_5 (by decide) (fun c_3 => ?_) (fun c_3 => ?_)
  · have h := h.1 c_3
    refine lv_iconst (v := -1) hx hb dX6_comes_16 (by decide) ?_
    exact hret (-1 : Int32) (ms, mh, mg) _ _ _ ls h hP hD hS dX6_comes_17
  · have h := h.2 c_3
    refine lv_aload_n hx hb dX6_comes_8 rfl (lv_at hl 0 rfl) ?_
    refine lv_iload_n hx hb dX6_comes_9 rfl (lv_at hl 1 rfl) ?_
    refine k0V_i (As := [.int x1]) (n := 1) ⟨hx, hb, hml, hown, hts⟩ hK hP hD hS hA (c_X6_comesIn l D cI cC cQ h6 a_mt a_mo a_md a_mb a_ms a_mp a_mi a_mn a_mh a_mg a_mr a_mx mt my mo md mb ms mp mk mi mq mn mz ma mh mg mr mx x1 _ h) gX6_comes_X6_comesIn rfl rfl ⟨rfl, rfl⟩ yoX6_comesIn ⟨Nat.le_of_ble_eq_true rfl, Nat.le_of_ble_eq_true rfl⟩ (q0 := 0) (ci := 6) rfl rfl rfl rfl hl.1 rfl (Nat.le_of_ble_eq_true rfl) dX6_comes_10 ⟨Nat.zero_le _, Nat.zero_le _⟩ (fun r_4 u H locs h hP hD hS => ?_)
    obtain ⟨ms_5, mh_6, mg_7⟩ := u
    have hP : va_P D vwCl [(h6, .inr (6, [.ref a_mt, .int my, .ref a_mo, .ref a_md, .ref a_mb, .ref a_ms, .ref a_mp, .int mk, .ref a_mi, .int mq, .ref a_mn, .int mz, .int ma, .ref a_mh, .ref a_mg, .ref a_mr, .ref a_mx])), (a_mt, .inl (cI, 200, .inl mt)), (a_mo, .inl (cI, 16, .inl mo)), (a_md, .inl (cI, 16, .inl md)), (a_mb, .inl (cI, 56, .inl mb)), (a_ms, .inl (cI, 56, .inl ms_5)), (a_mp, .inl (cI, 448, .inl mp)), (a_mi, .inl (cI, 112, .inl mi)), (a_mn, .inl (cI, 12, .inl mn)), (a_mh, .inl (cI, 42, .inl mh_6)), (a_mg, .inl (cI, 56, .inl mg_7)), (a_mr, .inl (cI, 6, .inl mr)), (a_mx, .inl (cI, 6, .inl mx))] H := hP
    have hD : va_D A [(h6, .inr (6, [.ref a_mt, .int my, .ref a_mo, .ref a_md, .ref a_mb, .ref a_ms, .ref a_mp, .int mk, .ref a_mi, .int mq, .ref a_mn, .int mz, .int ma, .ref a_mh, .ref a_mg, .ref a_mr, .ref a_mx])), (a_mt, .inl (cI, 200, .inl mt)), (a_mo, .inl (cI, 16, .inl mo)), (a_md, .inl (cI, 16, .inl md)), (a_mb, .inl (cI, 56, .inl mb)), (a_ms, .inl (cI, 56, .inl ms_5)), (a_mp, .inl (cI, 448, .inl mp)), (a_mi, .inl (cI, 112, .inl mi)), (a_mn, .inl (cI, 12, .inl mn)), (a_mh, .inl (cI, 42, .inl mh_6)), (a_mg, .inl (cI, 56, .inl mg_7)), (a_mr, .inl (cI, 6, .inl mr)), (a_mx, .inl (cI, 6, .inl mx))] := hD
    refine lv_goto (tgt := 17) hx hb dX6_comes_13 (by decide) ?_
    exact hret r_4 (ms_5, mh_6, mg_7) _ _ _ ls h hP hD hS dX6_comes_17

/-! DoubtCourtModel.first -/
abbrev rmX6_first : Room := { frames := 5, cells := 0, slots := 0, locals := 117 }
theorem yoX6_first : yX6_first.cls ≠ "java/lang/invoke/MethodHandle" ∧ yX6_first.cls ≠ "java/lang/invoke/VarHandle" ∧ (parseMethodDescriptor yX6_first.desc).map (fun d => d.parameters.length) = some 0 := by decide +kernel
set_option maxHeartbeats 4000000 in
set_option maxRecDepth 100000 in
theorem c_X6_first (l : Launch) (D : va_G) (cI cC cQ : ClassId) (h6 : Nat) (a_mt : Nat) (a_mo : Nat) (a_md : Nat) (a_mb : Nat) (a_ms : Nat) (a_mp : Nat) (a_mi : Nat) (a_mn : Nat) (a_mh : Nat) (a_mg : Nat) (a_mr : Nat) (a_mx : Nat) (mt : Nat → Int32) (my : Int32) (mo : Nat → Int32) (md : Nat → Int32) (mb : Nat → Int32) (ms : Nat → Int32) (mp : Nat → Int32) (mk : Int32) (mi : Nat → Int32) (mq : Int32) (mn : Nat → Int32) (mz : Int32) (ma : Int32) (mh : Nat → Int32) (mg : Nat → Int32) (mr : Nat → Int32) (mx : Nat → Int32) (Q : Int32 → (Nat → Int32) → (Nat → Int32) → (Nat → Int32) → Prop) (h : wX6_first mo ms mh mg Q) : Ci (S := (Nat → Int32) × (Nat → Int32) × (Nat → Int32)) l D cI cC cQ yX6_first wsX6_first rmX6_first [.ref h6] [(h6, .inr (6, [.ref a_mt, .int my, .ref a_mo, .ref a_md, .ref a_mb, .ref a_ms, .ref a_mp, .int mk, .ref a_mi, .int mq, .ref a_mn, .int mz, .int ma, .ref a_mh, .ref a_mg, .ref a_mr, .ref a_mx])), (a_mt, .inl (cI, 200, .inl mt)), (a_mo, .inl (cI, 16, .inl mo)), (a_md, .inl (cI, 16, .inl md)), (a_mb, .inl (cI, 56, .inl mb)), (a_ms, .inl (cI, 56, .inl ms)), (a_mp, .inl (cI, 448, .inl mp)), (a_mi, .inl (cI, 112, .inl mi)), (a_mn, .inl (cI, 12, .inl mn)), (a_mh, .inl (cI, 42, .inl mh)), (a_mg, .inl (cI, 56, .inl mg)), (a_mr, .inl (cI, 6, .inl mr)), (a_mx, .inl (cI, 6, .inl mx))] (fun u => [(h6, .inr (6, [.ref a_mt, .int my, .ref a_mo, .ref a_md, .ref a_mb, .ref a_ms, .ref a_mp, .int mk, .ref a_mi, .int mq, .ref a_mn, .int mz, .int ma, .ref a_mh, .ref a_mg, .ref a_mr, .ref a_mx])), (a_mt, .inl (cI, 200, .inl mt)), (a_mo, .inl (cI, 16, .inl mo)), (a_md, .inl (cI, 16, .inl md)), (a_mb, .inl (cI, 56, .inl mb)), (a_ms, .inl (cI, 56, .inl u.1)), (a_mp, .inl (cI, 448, .inl mp)), (a_mi, .inl (cI, 112, .inl mi)), (a_mn, .inl (cI, 12, .inl mn)), (a_mh, .inl (cI, 42, .inl u.2.1)), (a_mg, .inl (cI, 56, .inl u.2.2)), (a_mr, .inl (cI, 6, .inl mr)), (a_mx, .inl (cI, 6, .inl mx))]) (fun r u => Q r u.1 u.2.1 u.2.2) := by
  refine Ci_mk (cc := cX6_first) (maxL := 5) (by decide) rfl (Nat.le_of_ble_eq_true rfl) ?_
  intro p e s m args below meth c A Z ls hx hb hml hown hts hK hA hP hD hret hl
  have hS : va_S A s.heap s.heap [] := va_S.rf
  have hin6 : ∀ w ∈ u_ws RX6 TX6 17, w ∈ wsX6_first := by decide +kernel
  have k_0 := hts (.fieldLink RX6 13 "DoubtCourtModel" "told" "[I") (by decide +kernel)
  have hl : lv_has ls 5 [(0, .ref h6)] := hl
  have L8 : ∀ (n : Nat) {x1 : Int32} {x2 : Int32} {x3 : Int32} {ms : Nat → Int32} {mh : Nat → Int32} {mg : Nat → Int32} {H : Heap} {locs : List Loc} {ls : Array Slot}, wX6_first_L8 mo Q n x1 x2 x3 ms mh mg → va_P D vwCl [(h6, .inr (6, [.ref a_mt, .int my, .ref a_mo, .ref a_md, .ref a_mb, .ref a_ms, .ref a_mp, .int mk, .ref a_mi, .int mq, .ref a_mn, .int mz, .int ma, .ref a_mh, .ref a_mg, .ref a_mr, .ref a_mx])), (a_mt, .inl (cI, 200, .inl mt)), (a_mo, .inl (cI, 16, .inl mo)), (a_md, .inl (cI, 16, .inl md)), (a_mb, .inl (cI, 56, .inl mb)), (a_ms, .inl (cI, 56, .inl ms)), (a_mp, .inl (cI, 448, .inl mp)), (a_mi, .inl (cI, 112, .inl mi)), (a_mn, .inl (cI, 12, .inl mn)), (a_mh, .inl (cI, 42, .inl mh)), (a_mg, .inl (cI, 56, .inl mg)), (a_mr, .inl (cI, 6, .inl mr)), (a_mx, .inl (cI, 6, .inl mx))] H → va_D A [(h6, .inr (6, [.ref a_mt, .int my, .ref a_mo, .ref a_md, .ref a_mb, .ref a_ms, .ref a_mp, .int mk, .ref a_mi, .int mq, .ref a_mn, .int mz, .int ma, .ref a_mh, .ref a_mg, .ref a_mr, .ref a_mx])), (a_mt, .inl (cI, 200, .inl mt)), (a_mo, .inl (cI, 16, .inl mo)), (a_md, .inl (cI, 16, .inl md)), (a_mb, .inl (cI, 56, .inl mb)), (a_ms, .inl (cI, 56, .inl ms)), (a_mp, .inl (cI, 448, .inl mp)), (a_mi, .inl (cI, 112, .inl mi)), (a_mn, .inl (cI, 12, .inl mn)), (a_mh, .inl (cI, 42, .inl mh)), (a_mg, .inl (cI, 56, .inl mg)), (a_mr, .inl (cI, 6, .inl mr)), (a_mx, .inl (cI, 6, .inl mx))] → va_S A s.heap H locs → lv_has ls 5 [(0, .ref h6), (1, .int x1), (2, .int x2), (3, .int x3)] → W p l e rmX6_first s m args below meth c H locs 0 0 Z (F0 m 8 ls []) := by
    intro n
    induction n with
    | zero =>
      intro x1 x2 x3 ms mh mg H locs ls h hP hD hS hl
      exact (show False from h).elim
    | succ n ih =>
      intro x1 x2 x3 ms mh mg H locs ls h hP hD hS hl
      refine lv_iload_n hx hb dX6_first_8 rfl (lv_at hl 3 rfl) ?_
      refine lv_aload_n hx hb dX6_first_9 rfl (lv_at hl 0 rfl) ?_
      refine va_get (D := D) (ci := 6) (v := .ref a_mo) (C := RX6) (T := TX6) (N := 17) hx hb hts hin6 hown hK.1 hP 0 rfl rfl 2 (by decide) (k_0) (fun _ h9 => h9) rfl dX6_first_10 ?_
      refine lv_iconst (v := 1) hx hb dX6_first_13 (by decide) ?_
      refine z_iald (k := 1) hx hb hK.1 hP 2 rfl (by decide) vi_1_16 dX6_first_14 ?_
      refine lv_icmp_ge (tgt := 47) hx hb dX6_first_15 (by decide) (fun c_8 => ?_) (fun c_8 => ?_)
      · have h := h.1 c_8
        refine lv_iload_n hx hb dX6_first_47 rfl (lv_at hl 1 rfl) ?_
        exact hret x1 (ms, mh, mg) _ _ _ ls h hP hD hS dX6_first_48
      · have h := h.2 c_8
        refine lv_aload_n hx hb dX6_first_18 rfl (lv_at hl 0 rfl) ?_
        refine lv_iload_n hx hb dX6_first_19 rfl (lv_at hl 3 rfl) ?_
        refine k0V_i (As := [.int x3]) (n := 1) ⟨hx, hb, hml, hown, hts⟩ hK hP hD hS hA (c_X6_comesIn l D cI cC cQ h6 a_mt a_mo a_md a_mb a_ms a_mp a_mi a_mn a_mh a_mg a_mr a_mx mt my mo md mb ms mp mk mi mq mn mz ma mh mg mr mx x3 _ h) gX6_first_X6_comesIn rfl rfl ⟨rfl, rfl⟩ yoX6_comesIn ⟨Nat.le_of_ble_eq_true rfl, Nat.le_of_ble_eq_true rfl⟩ (q0 := 0) (ci := 6) rfl rfl rfl rfl hl.1 rfl (Nat.le_of_ble_eq_true rfl) dX6_first_20 ⟨Nat.zero_le _, Nat.zero_le _⟩ (fun r_9 u H locs h hP hD hS => ?_)
        obtain ⟨ms_10, mh_11, mg_12⟩ := u
        have hP : va_P D vwCl [(h6, .inr (6, [.ref a_mt, .int my, .ref a_mo, .ref a_md, .ref a_mb, .ref a_ms, .ref a_mp, .int mk, .ref a_mi, .int mq, .ref a_mn, .int mz, .int ma, .ref a_mh, .ref a_mg, .ref a_mr, .ref a_mx])), (a_mt, .inl (cI, 200, .inl mt)), (a_mo, .inl (cI, 16, .inl mo)), (a_md, .inl (cI, 16, .inl md)), (a_mb, .inl (cI, 56, .inl mb)), (a_ms, .inl (cI, 56, .inl ms_10)), (a_mp, .inl (cI, 448, .inl mp)), (a_mi, .inl (cI, 112, .inl mi)), (a_mn, .inl (cI, 12, .inl mn)), (a_mh, .inl (cI, 42, .inl mh_11)), (a_mg, .inl (cI, 56, .inl mg_12)), (a_mr, .inl (cI, 6, .inl mr)), (a_mx, .inl (cI, 6, .inl mx))] H := hP
        have hD : va_D A [(h6, .inr (6, [.ref a_mt, .int my, .ref a_mo, .ref a_md, .ref a_mb, .ref a_ms, .ref a_mp, .int mk, .ref a_mi, .int mq, .ref a_mn, .int mz, .int ma, .ref a_mh, .ref a_mg, .ref a_mr, .ref a_mx])), (a_mt, .inl (cI, 200, .inl mt)), (a_mo, .inl (cI, 16, .inl mo)), (a_md, .inl (cI, 16, .inl md)), (a_mb, .inl (cI, 56, .inl mb)), (a_ms, .inl (cI, 56, .inl ms_10)), (a_mp, .inl (cI, 448, .inl mp)), (a_mi, .inl (cI, 112, .inl mi)), (a_mn, .inl (cI, 12, .inl mn)), (a_mh, .inl (cI, 42, .inl mh_11)), (a_mg, .inl (cI, 56, .inl mg_12)), (a_mr, .inl (cI, 6, .inl mr)), (a_mx, .inl (cI, 6, .inl mx))] := hD
        refine lv_istore (lv' := [(4, .int r_9), (0, .ref h6), (1, .int x1), (2, .int x2), (3, .int x3)]) hx hb dX6_first_23 hl (by decide) rfl (fun ls hl => ?_)
        refine lv_iload hx hb dX6_first_25 (lv_at hl 0 rfl) ?_
        refine lv_if_le (tgt := 41) hx hb dX6_first_27 (by decide) (fun c_13 => ?_) (fun c_13 => ?_)
        · have h := h.1 c_13
          refine lv_iinc (v := (x3 + (1 : Int32))) (lv' := [(3, .int (x3 + (1 : Int32))), (4, .int r_9), (0, .ref h6), (1, .int x1), (2, .int x2)]) hx hb dX6_first_41 hl (k := 4) rfl rfl (by decide) rfl (fun ls hl => ?_)
          refine lv_goto (tgt := 8) hx hb dX6_first_44 (by decide) ?_
          exact ih h hP hD hS (lv_sub hl [2, 3, 4, 0] rfl)
        · have h := h.2 c_13
          refine lv_iload hx hb dX6_first_30 (lv_at hl 0 rfl) ?_
          refine lv_iload_n hx hb dX6_first_32 rfl (lv_at hl 3 rfl) ?_
          refine lv_icmp_ge (tgt := 41) hx hb dX6_first_33 (by decide) (fun c_14 => ?_) (fun c_14 => ?_)
          · have h := h.1 c_14
            refine lv_iinc (v := (x3 + (1 : Int32))) (lv' := [(3, .int (x3 + (1 : Int32))), (4, .int r_9), (0, .ref h6), (1, .int x1), (2, .int x2)]) hx hb dX6_first_41 hl (k := 4) rfl rfl (by decide) rfl (fun ls hl => ?_)
            refine lv_goto (tgt := 8) hx hb dX6_first_44 (by decide) ?_
            exact ih h hP hD hS (lv_sub hl [2, 3, 4, 0] rfl)
          · have h := h.2 c_14
            refine lv_iload_n hx hb dX6_first_36 rfl (lv_at hl 4 rfl) ?_
            refine lv_istore_n (lv' := [(1, .int x3), (4, .int r_9), (0, .ref h6), (2, .int x2), (3, .int x3)]) hx hb dX6_first_37 rfl hl (by decide) rfl (fun ls hl => ?_)
            refine lv_iload hx hb dX6_first_38 (lv_at hl 1 rfl) ?_
            refine lv_istore_n (lv' := [(2, .int r_9), (1, .int x3), (4, .int r_9), (0, .ref h6), (3, .int x3)]) hx hb dX6_first_40 rfl hl (by decide) rfl (fun ls hl => ?_)
            refine lv_iinc (v := (x3 + (1 : Int32))) (lv' := [(3, .int (x3 + (1 : Int32))), (2, .int r_9), (1, .int x3), (4, .int r_9), (0, .ref h6)]) hx hb dX6_first_41 hl (k := 4) rfl rfl (by decide) rfl (fun ls hl => ?_)
            refine lv_goto (tgt := 8) hx hb dX6_first_44 (by decide) ?_
            exact ih h hP hD hS (lv_sub hl [4, 2, 1, 0] rfl)
  refine lv_bipush (v := -4) hx hb dX6_first_0 (by decide) ?_
  refine lv_istore_n (lv' := [(1, .int (-4 : Int32)), (0, .ref h6)]) hx hb dX6_first_2 rfl hl (by decide) rfl (fun ls hl => ?_)
  refine lv_bipush (v := 61) hx hb dX6_first_3 (by decide) ?_
  refine lv_istore_n (lv' := [(2, .int (61 : Int32)), (1, .int (-4 : Int32)), (0, .ref h6)]) hx hb dX6_first_5 rfl hl (by decide) rfl (fun ls hl => ?_)
  refine lv_iconst (v := 0) hx hb dX6_first_6 (by decide) ?_
  refine lv_istore_n (lv' := [(3, .int (0 : Int32)), (2, .int (61 : Int32)), (1, .int (-4 : Int32)), (0, .ref h6)]) hx hb dX6_first_7 rfl hl (by decide) rfl (fun ls hl => ?_)
  obtain ⟨n_15, h⟩ := h
  exact L8 n_15 h hP hD hS (lv_sub hl [3, 2, 1, 0] rfl)

/-! DoubtCourtModel.ones -/
abbrev rmX6_ones : Room := { frames := 0, cells := 0, slots := 0, locals := 0 }
theorem yoX6_ones : yX6_ones.cls ≠ "java/lang/invoke/MethodHandle" ∧ yX6_ones.cls ≠ "java/lang/invoke/VarHandle" ∧ (parseMethodDescriptor yX6_ones.desc).map (fun d => d.parameters.length) = some 1 := by decide +kernel
set_option maxHeartbeats 4000000 in
set_option maxRecDepth 100000 in
theorem c_X6_ones (l : Launch) (D : va_G) (cI cC cQ : ClassId) (x0 : Int32) (Q : Int32 → Prop) (h : wX6_ones x0 Q) : Ci (S := Unit) l D cI cC cQ yX6_ones wsX6_ones rmX6_ones [.int x0] [] (fun _ => []) (fun r _ => Q r) := by
  refine Ci_mk (cc := cX6_ones) (maxL := 3) (by decide) rfl (Nat.le_of_ble_eq_true rfl) ?_
  intro p e s m args below meth c A Z ls hx hb hml hown hts hK hA hP hD hret hl
  have hS : va_S A s.heap s.heap [] := va_S.rf
  have hl : lv_has ls 3 [(0, .int x0)] := hl
  have L4 : ∀ (n : Nat) {x0 : Int32} {x1 : Int32} {x2 : Int32} {H : Heap} {locs : List Loc} {ls : Array Slot}, wX6_ones_L4 x0 Q n x1 x2 → va_P D vwCl [] H → va_D A [] → va_S A s.heap H locs → lv_has ls 3 [(0, .int x0), (1, .int x1), (2, .int x2)] → W p l e rmX6_ones s m args below meth c H locs 0 0 Z (F0 m 4 ls []) := by
    intro n
    induction n with
    | zero =>
      intro x0 x1 x2 H locs ls h hP hD hS hl
      exact (show False from h).elim
    | succ n ih =>
      intro x0 x1 x2 H locs ls h hP hD hS hl
      refine lv_iload_n hx hb dX6_ones_4 rfl (lv_at hl 2 rfl) ?_
      refine lv_bipush (v := 7) hx hb dX6_ones_5 (by decide) ?_
      refine lv_icmp_ge (tgt := 24) hx hb dX6_ones_7 (by decide) (fun c_3 => ?_) (fun c_3 => ?_)
      · have h := h.1 c_3
        refine lv_iload_n hx hb dX6_ones_24 rfl (lv_at hl 1 rfl) ?_
        exact hret x1 () _ _ _ ls h hP hD hS dX6_ones_25
      · have h := h.2 c_3
        refine lv_iload_n hx hb dX6_ones_10 rfl (lv_at hl 1 rfl) ?_
        refine lv_iload_n hx hb dX6_ones_11 rfl (lv_at hl 0 rfl) ?_
        refine lv_iload_n hx hb dX6_ones_12 rfl (lv_at hl 2 rfl) ?_
        refine lv_ishr hx hb dX6_ones_13 ?_
        refine lv_iconst (v := 1) hx hb dX6_ones_14 (by decide) ?_
        refine lv_iand hx hb dX6_ones_15 ?_
        refine lv_iadd hx hb dX6_ones_16 ?_
        refine lv_topi (fun v_4 ev_4 => ?_)
        have h := h v_4 ev_4
        refine lv_istore_n (lv' := [(1, .int v_4), (0, .int x0), (2, .int x2)]) hx hb dX6_ones_17 rfl hl (by decide) rfl (fun ls hl => ?_)
        refine lv_iinc (v := (x2 + (1 : Int32))) (lv' := [(2, .int (x2 + (1 : Int32))), (1, .int v_4), (0, .int x0)]) hx hb dX6_ones_18 hl (k := 2) rfl rfl (by decide) rfl (fun ls hl => ?_)
        refine lv_goto (tgt := 4) hx hb dX6_ones_21 (by decide) ?_
        exact ih h hP hD hS (lv_sub hl [2, 1, 0] rfl)
  refine lv_iconst (v := 0) hx hb dX6_ones_0 (by decide) ?_
  refine lv_istore_n (lv' := [(1, .int (0 : Int32)), (0, .int x0)]) hx hb dX6_ones_1 rfl hl (by decide) rfl (fun ls hl => ?_)
  refine lv_iconst (v := 0) hx hb dX6_ones_2 (by decide) ?_
  refine lv_istore_n (lv' := [(2, .int (0 : Int32)), (1, .int (0 : Int32)), (0, .int x0)]) hx hb dX6_ones_3 rfl hl (by decide) rfl (fun ls hl => ?_)
  obtain ⟨n_5, h⟩ := h
  exact L4 n_5 h hP hD hS (lv_sub hl [2, 1, 0] rfl)

/-! DoubtCourtModel.fewest -/
abbrev rmX6_fewest : Room := { frames := 3, cells := 0, slots := 0, locals := 73 }
theorem yoX6_fewest : yX6_fewest.cls ≠ "java/lang/invoke/MethodHandle" ∧ yX6_fewest.cls ≠ "java/lang/invoke/VarHandle" ∧ (parseMethodDescriptor yX6_fewest.desc).map (fun d => d.parameters.length) = some 4 := by decide +kernel
set_option maxHeartbeats 4000000 in
set_option maxRecDepth 100000 in
theorem c_X6_fewest (l : Launch) (D : va_G) (cI cC cQ : ClassId) (h6 : Nat) (a_mt : Nat) (a_mo : Nat) (a_md : Nat) (a_mb : Nat) (a_ms : Nat) (a_mp : Nat) (a_mi : Nat) (a_mn : Nat) (a_mh : Nat) (a_mg : Nat) (a_mr : Nat) (a_mx : Nat) (mt : Nat → Int32) (my : Int32) (mo : Nat → Int32) (md : Nat → Int32) (mb : Nat → Int32) (ms : Nat → Int32) (mp : Nat → Int32) (mk : Int32) (mi : Nat → Int32) (mq : Int32) (mn : Nat → Int32) (mz : Int32) (ma : Int32) (mh : Nat → Int32) (mg : Nat → Int32) (mr : Nat → Int32) (mx : Nat → Int32) (x1 : Int32) (x2 : Int32) (x3 : Int32) (x4 : Int32) (Q : Int32 → (Nat → Int32) → (Nat → Int32) → (Nat → Int32) → Prop) (h : wX6_fewest x1 x2 x3 x4 mo ms mh mg Q) : Ci (S := (Nat → Int32) × (Nat → Int32) × (Nat → Int32)) l D cI cC cQ yX6_fewest wsX6_fewest rmX6_fewest [.ref h6, .int x1, .int x2, .int x3, .int x4] [(h6, .inr (6, [.ref a_mt, .int my, .ref a_mo, .ref a_md, .ref a_mb, .ref a_ms, .ref a_mp, .int mk, .ref a_mi, .int mq, .ref a_mn, .int mz, .int ma, .ref a_mh, .ref a_mg, .ref a_mr, .ref a_mx])), (a_mt, .inl (cI, 200, .inl mt)), (a_mo, .inl (cI, 16, .inl mo)), (a_md, .inl (cI, 16, .inl md)), (a_mb, .inl (cI, 56, .inl mb)), (a_ms, .inl (cI, 56, .inl ms)), (a_mp, .inl (cI, 448, .inl mp)), (a_mi, .inl (cI, 112, .inl mi)), (a_mn, .inl (cI, 12, .inl mn)), (a_mh, .inl (cI, 42, .inl mh)), (a_mg, .inl (cI, 56, .inl mg)), (a_mr, .inl (cI, 6, .inl mr)), (a_mx, .inl (cI, 6, .inl mx))] (fun u => [(h6, .inr (6, [.ref a_mt, .int my, .ref a_mo, .ref a_md, .ref a_mb, .ref a_ms, .ref a_mp, .int mk, .ref a_mi, .int mq, .ref a_mn, .int mz, .int ma, .ref a_mh, .ref a_mg, .ref a_mr, .ref a_mx])), (a_mt, .inl (cI, 200, .inl mt)), (a_mo, .inl (cI, 16, .inl mo)), (a_md, .inl (cI, 16, .inl md)), (a_mb, .inl (cI, 56, .inl mb)), (a_ms, .inl (cI, 56, .inl u.1)), (a_mp, .inl (cI, 448, .inl mp)), (a_mi, .inl (cI, 112, .inl mi)), (a_mn, .inl (cI, 12, .inl mn)), (a_mh, .inl (cI, 42, .inl u.2.1)), (a_mg, .inl (cI, 56, .inl u.2.2)), (a_mr, .inl (cI, 6, .inl mr)), (a_mx, .inl (cI, 6, .inl mx))]) (fun r u => Q r u.1 u.2.1 u.2.2) := by
  refine Ci_mk (cc := cX6_fewest) (maxL := 9) (by decide) rfl (Nat.le_of_ble_eq_true rfl) ?_
  intro p e s m args below meth c A Z ls hx hb hml hown hts hK hA hP hD hret hl
  have hS : va_S A s.heap s.heap [] := va_S.rf
  have hin6 : ∀ w ∈ u_ws RX6 TX6 17, w ∈ wsX6_fewest := by decide +kernel
  have k_0 := hts (.fieldLink RX6 13 "DoubtCourtModel" "told" "[I") (by decide +kernel)
  have k_1 := hts (.fieldLink RX6 22 "DoubtCourtModel" "s" "[I") (by decide +kernel)
  have hl : lv_has ls 9 [(0, .ref h6), (1, .int x1), (2, .int x2), (3, .int x3), (4, .int x4)] := hl
  have L27 : ∀ {K85 : (Nat → Int32) → Prop} (n : Nat) {x1 : Int32} {x2 : Int32} {x3 : Int32} {x4 : Int32} {x5 : Int32} {x6 : Int32} {x7 : Int32} {ms : Nat → Int32} {mh : Nat → Int32} {mg : Nat → Int32} {H : Heap} {locs : List Loc} {ls : Array Slot}, wX6_fewest_L27 x1 x3 x6 mo K85 n x7 ms → va_P D vwCl [(h6, .inr (6, [.ref a_mt, .int my, .ref a_mo, .ref a_md, .ref a_mb, .ref a_ms, .ref a_mp, .int mk, .ref a_mi, .int mq, .ref a_mn, .int mz, .int ma, .ref a_mh, .ref a_mg, .ref a_mr, .ref a_mx])), (a_mt, .inl (cI, 200, .inl mt)), (a_mo, .inl (cI, 16, .inl mo)), (a_md, .inl (cI, 16, .inl md)), (a_mb, .inl (cI, 56, .inl mb)), (a_ms, .inl (cI, 56, .inl ms)), (a_mp, .inl (cI, 448, .inl mp)), (a_mi, .inl (cI, 112, .inl mi)), (a_mn, .inl (cI, 12, .inl mn)), (a_mh, .inl (cI, 42, .inl mh)), (a_mg, .inl (cI, 56, .inl mg)), (a_mr, .inl (cI, 6, .inl mr)), (a_mx, .inl (cI, 6, .inl mx))] H → va_D A [(h6, .inr (6, [.ref a_mt, .int my, .ref a_mo, .ref a_md, .ref a_mb, .ref a_ms, .ref a_mp, .int mk, .ref a_mi, .int mq, .ref a_mn, .int mz, .int ma, .ref a_mh, .ref a_mg, .ref a_mr, .ref a_mx])), (a_mt, .inl (cI, 200, .inl mt)), (a_mo, .inl (cI, 16, .inl mo)), (a_md, .inl (cI, 16, .inl md)), (a_mb, .inl (cI, 56, .inl mb)), (a_ms, .inl (cI, 56, .inl ms)), (a_mp, .inl (cI, 448, .inl mp)), (a_mi, .inl (cI, 112, .inl mi)), (a_mn, .inl (cI, 12, .inl mn)), (a_mh, .inl (cI, 42, .inl mh)), (a_mg, .inl (cI, 56, .inl mg)), (a_mr, .inl (cI, 6, .inl mr)), (a_mx, .inl (cI, 6, .inl mx))] → va_S A s.heap H locs → lv_has ls 9 [(0, .ref h6), (1, .int x1), (2, .int x2), (3, .int x3), (4, .int x4), (5, .int x5), (6, .int x6), (7, .int x7)] → (∀ (ms : Nat → Int32) (H : Heap) (locs : List Loc) (ls : Array Slot), K85 ms → va_P D vwCl [(h6, .inr (6, [.ref a_mt, .int my, .ref a_mo, .ref a_md, .ref a_mb, .ref a_ms, .ref a_mp, .int mk, .ref a_mi, .int mq, .ref a_mn, .int mz, .int ma, .ref a_mh, .ref a_mg, .ref a_mr, .ref a_mx])), (a_mt, .inl (cI, 200, .inl mt)), (a_mo, .inl (cI, 16, .inl mo)), (a_md, .inl (cI, 16, .inl md)), (a_mb, .inl (cI, 56, .inl mb)), (a_ms, .inl (cI, 56, .inl ms)), (a_mp, .inl (cI, 448, .inl mp)), (a_mi, .inl (cI, 112, .inl mi)), (a_mn, .inl (cI, 12, .inl mn)), (a_mh, .inl (cI, 42, .inl mh)), (a_mg, .inl (cI, 56, .inl mg)), (a_mr, .inl (cI, 6, .inl mr)), (a_mx, .inl (cI, 6, .inl mx))] H → va_D A [(h6, .inr (6, [.ref a_mt, .int my, .ref a_mo, .ref a_md, .ref a_mb, .ref a_ms, .ref a_mp, .int mk, .ref a_mi, .int mq, .ref a_mn, .int mz, .int ma, .ref a_mh, .ref a_mg, .ref a_mr, .ref a_mx])), (a_mt, .inl (cI, 200, .inl mt)), (a_mo, .inl (cI, 16, .inl mo)), (a_md, .inl (cI, 16, .inl md)), (a_mb, .inl (cI, 56, .inl mb)), (a_ms, .inl (cI, 56, .inl ms)), (a_mp, .inl (cI, 448, .inl mp)), (a_mi, .inl (cI, 112, .inl mi)), (a_mn, .inl (cI, 12, .inl mn)), (a_mh, .inl (cI, 42, .inl mh)), (a_mg, .inl (cI, 56, .inl mg)), (a_mr, .inl (cI, 6, .inl mr)), (a_mx, .inl (cI, 6, .inl mx))] → va_S A s.heap H locs → lv_has ls 9 [(0, .ref h6), (1, .int x1), (2, .int x2), (3, .int x3), (4, .int x4), (5, .int x5), (6, .int x6)] → W p l e rmX6_fewest s m args below meth c H locs 0 0 Z (F0 m 85 ls [])) → W p l e rmX6_fewest s m args below meth c H locs 0 0 Z (F0 m 27 ls []) := by
    intro K85
    intro n
    induction n with
    | zero =>
      intro x1 x2 x3 x4 x5 x6 x7 ms mh mg H locs ls h hP hD hS hl hk85
      exact (show False from h).elim
    | succ n ih =>
      intro x1 x2 x3 x4 x5 x6 x7 ms mh mg H locs ls h hP hD hS hl hk85
      refine lv_iload hx hb dX6_fewest_27 (lv_at hl 7 rfl) ?_
      refine lv_aload_n hx hb dX6_fewest_29 rfl (lv_at hl 0 rfl) ?_
      refine va_get (D := D) (ci := 6) (v := .ref a_mo) (C := RX6) (T := TX6) (N := 17) hx hb hts hin6 hown hK.1 hP 0 rfl rfl 2 (by decide) (k_0) (fun _ h9 => h9) rfl dX6_fewest_30 ?_
      refine lv_iconst (v := 0) hx hb dX6_fewest_33 (by decide) ?_
      refine z_iald (k := 0) hx hb hK.1 hP 2 rfl (by decide) vi_0_16 dX6_fewest_34 ?_
      refine lv_icmp_ge (tgt := 85) hx hb dX6_fewest_35 (by decide) (fun c_39 => ?_) (fun c_39 => ?_)
      · have h := h.1 c_39
        exact hk85 ms _ _ _ h hP hD hS (lv_sub hl [0, 1, 2, 3, 4, 5, 6] rfl)
      · have h := h.2 c_39
        refine lv_bipush (v := 14) hx hb dX6_fewest_38 (by decide) ?_
        refine lv_bipush (v := 7) hx hb dX6_fewest_40 (by decide) ?_
        refine lv_iload_n hx hb dX6_fewest_42 rfl (lv_at hl 1 rfl) ?_
        refine lv_imul hx hb dX6_fewest_43 ?_
        refine lv_iadd hx hb dX6_fewest_44 ?_
        refine lv_iload hx hb dX6_fewest_45 (lv_at hl 7 rfl) ?_
        refine lv_iadd hx hb dX6_fewest_47 ?_
        refine lv_topi (fun v_40 ev_40 => ?_)
        have h := h v_40 ev_40
        refine lv_istore (lv' := [(8, .int v_40), (0, .ref h6), (1, .int x1), (2, .int x2), (3, .int x3), (4, .int x4), (5, .int x5), (6, .int x6), (7, .int x7)]) hx hb dX6_fewest_48 hl (by decide) rfl (fun ls hl => ?_)
        refine lv_aload_n hx hb dX6_fewest_50 rfl (lv_at hl 1 rfl) ?_
        refine va_get (D := D) (ci := 6) (v := .ref a_ms) (C := RX6) (T := TX6) (N := 17) hx hb hts hin6 hown hK.1 hP 0 rfl rfl 5 (by decide) (k_1) (fun _ h9 => h9) rfl dX6_fewest_51 ?_
        refine lv_iload hx hb dX6_fewest_54 (lv_at hl 0 rfl) ?_
        refine lv_iload hx hb dX6_fewest_56 (lv_at hl 7 rfl) ?_
        refine lv_iload hx hb dX6_fewest_58 (lv_at hl 8 rfl) ?_
        refine lv_ishr hx hb dX6_fewest_60 ?_
        refine lv_iconst (v := 1) hx hb dX6_fewest_61 (by decide) ?_
        refine lv_iand hx hb dX6_fewest_62 ?_
        refine lv_iconst (v := 1) hx hb dX6_fewest_63 (by decide) ?_
        refine lv_icmp_ne (tgt := 71) hx hb dX6_fewest_64 (by decide) (fun c_41 => ?_) (fun c_41 => ?_)
        · have h := h.2 c_41
          refine lv_aload_n hx hb dX6_fewest_71 rfl (lv_at hl 1 rfl) ?_
          refine va_get (D := D) (ci := 6) (v := .ref a_ms) (C := RX6) (T := TX6) (N := 17) hx hb hts hin6 hown hK.1 hP 0 rfl rfl 5 (by decide) (k_1) (fun _ h9 => h9) rfl dX6_fewest_72 ?_
          refine lv_iload hx hb dX6_fewest_75 (lv_at hl 0 rfl) ?_
          refine z_iald (k := v_40.toNatClampNeg) hx hb hK.1 hP 5 rfl rfl h.1 dX6_fewest_77 ?_
          have h := h.2
          refine z_iast (k := v_40.toNatClampNeg) hx hb hK.1 hP hD hS 5 rfl rfl h.1 dX6_fewest_78 (fun H locs hP hD hS => ?_)
          have h := h.2
          have hP : va_P D vwCl [(h6, .inr (6, [.ref a_mt, .int my, .ref a_mo, .ref a_md, .ref a_mb, .ref a_ms, .ref a_mp, .int mk, .ref a_mi, .int mq, .ref a_mn, .int mz, .int ma, .ref a_mh, .ref a_mg, .ref a_mr, .ref a_mx])), (a_mt, .inl (cI, 200, .inl mt)), (a_mo, .inl (cI, 16, .inl mo)), (a_md, .inl (cI, 16, .inl md)), (a_mb, .inl (cI, 56, .inl mb)), (a_ms, .inl (cI, 56, .inl (upd ms v_40.toNatClampNeg (ms v_40.toNatClampNeg)))), (a_mp, .inl (cI, 448, .inl mp)), (a_mi, .inl (cI, 112, .inl mi)), (a_mn, .inl (cI, 12, .inl mn)), (a_mh, .inl (cI, 42, .inl mh)), (a_mg, .inl (cI, 56, .inl mg)), (a_mr, .inl (cI, 6, .inl mr)), (a_mx, .inl (cI, 6, .inl mx))] H := hP
          have hD : va_D A [(h6, .inr (6, [.ref a_mt, .int my, .ref a_mo, .ref a_md, .ref a_mb, .ref a_ms, .ref a_mp, .int mk, .ref a_mi, .int mq, .ref a_mn, .int mz, .int ma, .ref a_mh, .ref a_mg, .ref a_mr, .ref a_mx])), (a_mt, .inl (cI, 200, .inl mt)), (a_mo, .inl (cI, 16, .inl mo)), (a_md, .inl (cI, 16, .inl md)), (a_mb, .inl (cI, 56, .inl mb)), (a_ms, .inl (cI, 56, .inl (upd ms v_40.toNatClampNeg (ms v_40.toNatClampNeg)))), (a_mp, .inl (cI, 448, .inl mp)), (a_mi, .inl (cI, 112, .inl mi)), (a_mn, .inl (cI, 12, .inl mn)), (a_mh, .inl (cI, 42, .inl mh)), (a_mg, .inl (cI, 56, .inl mg)), (a_mr, .inl (cI, 6, .inl mr)), (a_mx, .inl (cI, 6, .inl mx))] := hD
          refine lv_iinc (v := (x7 + (1 : Int32))) (lv' := [(7, .int (x7 + (1 : Int32))), (8, .int v_40), (0, .ref h6), (1, .int x1), (2, .int x2), (3, .int x3), (4, .int x4), (5, .int x5), (6, .int x6)]) hx hb dX6_fewest_79 hl (k := 8) rfl rfl (by decide) rfl (fun ls hl => ?_)
          refine lv_goto (tgt := 27) hx hb dX6_fewest_82 (by decide) ?_
          exact ih h hP hD hS (lv_sub hl [2, 3, 4, 5, 6, 7, 8, 0] rfl) hk85
        · have h := h.1 c_41
          refine lv_iload_n hx hb dX6_fewest_67 rfl (lv_at hl 4 rfl) ?_
          refine lv_goto (tgt := 78) hx hb dX6_fewest_68 (by decide) ?_
          refine z_iast (k := v_40.toNatClampNeg) hx hb hK.1 hP hD hS 5 rfl rfl h.1 dX6_fewest_78 (fun H locs hP hD hS => ?_)
          have h := h.2
          have hP : va_P D vwCl [(h6, .inr (6, [.ref a_mt, .int my, .ref a_mo, .ref a_md, .ref a_mb, .ref a_ms, .ref a_mp, .int mk, .ref a_mi, .int mq, .ref a_mn, .int mz, .int ma, .ref a_mh, .ref a_mg, .ref a_mr, .ref a_mx])), (a_mt, .inl (cI, 200, .inl mt)), (a_mo, .inl (cI, 16, .inl mo)), (a_md, .inl (cI, 16, .inl md)), (a_mb, .inl (cI, 56, .inl mb)), (a_ms, .inl (cI, 56, .inl (upd ms v_40.toNatClampNeg x3))), (a_mp, .inl (cI, 448, .inl mp)), (a_mi, .inl (cI, 112, .inl mi)), (a_mn, .inl (cI, 12, .inl mn)), (a_mh, .inl (cI, 42, .inl mh)), (a_mg, .inl (cI, 56, .inl mg)), (a_mr, .inl (cI, 6, .inl mr)), (a_mx, .inl (cI, 6, .inl mx))] H := hP
          have hD : va_D A [(h6, .inr (6, [.ref a_mt, .int my, .ref a_mo, .ref a_md, .ref a_mb, .ref a_ms, .ref a_mp, .int mk, .ref a_mi, .int mq, .ref a_mn, .int mz, .int ma, .ref a_mh, .ref a_mg, .ref a_mr, .ref a_mx])), (a_mt, .inl (cI, 200, .inl mt)), (a_mo, .inl (cI, 16, .inl mo)), (a_md, .inl (cI, 16, .inl md)), (a_mb, .inl (cI, 56, .inl mb)), (a_ms, .inl (cI, 56, .inl (upd ms v_40.toNatClampNeg x3))), (a_mp, .inl (cI, 448, .inl mp)), (a_mi, .inl (cI, 112, .inl mi)), (a_mn, .inl (cI, 12, .inl mn)), (a_mh, .inl (cI, 42, .inl mh)), (a_mg, .inl (cI, 56, .inl mg)), (a_mr, .inl (cI, 6, .inl mr)), (a_mx, .inl (cI, 6, .inl mx))] := hD
          refine lv_iinc (v := (x7 + (1 : Int32))) (lv' := [(7, .int (x7 + (1 : Int32))), (8, .int v_40), (0, .ref h6), (1, .int x1), (2, .int x2), (3, .int x3), (4, .int x4), (5, .int x5), (6, .int x6)]) hx hb dX6_fewest_79 hl (k := 8) rfl rfl (by decide) rfl (fun ls hl => ?_)
          refine lv_goto (tgt := 27) hx hb dX6_fewest_82 (by decide) ?_
          exact ih h hP hD hS (lv_sub hl [2, 3, 4, 5, 6, 7, 8, 0] rfl) hk85
  have L88 : ∀ {K104 : (Nat → Int32) → (Nat → Int32) → Prop} (n : Nat) {x1 : Int32} {x2 : Int32} {x3 : Int32} {x4 : Int32} {x5 : Int32} {x6 : Int32} {x7 : Int32} {ms : Nat → Int32} {mh : Nat → Int32} {mg : Nat → Int32} {H : Heap} {locs : List Loc} {ls : Array Slot}, wX6_fewest_L88 x2 mo K104 n x7 ms mh → va_P D vwCl [(h6, .inr (6, [.ref a_mt, .int my, .ref a_mo, .ref a_md, .ref a_mb, .ref a_ms, .ref a_mp, .int mk, .ref a_mi, .int mq, .ref a_mn, .int mz, .int ma, .ref a_mh, .ref a_mg, .ref a_mr, .ref a_mx])), (a_mt, .inl (cI, 200, .inl mt)), (a_mo, .inl (cI, 16, .inl mo)), (a_md, .inl (cI, 16, .inl md)), (a_mb, .inl (cI, 56, .inl mb)), (a_ms, .inl (cI, 56, .inl ms)), (a_mp, .inl (cI, 448, .inl mp)), (a_mi, .inl (cI, 112, .inl mi)), (a_mn, .inl (cI, 12, .inl mn)), (a_mh, .inl (cI, 42, .inl mh)), (a_mg, .inl (cI, 56, .inl mg)), (a_mr, .inl (cI, 6, .inl mr)), (a_mx, .inl (cI, 6, .inl mx))] H → va_D A [(h6, .inr (6, [.ref a_mt, .int my, .ref a_mo, .ref a_md, .ref a_mb, .ref a_ms, .ref a_mp, .int mk, .ref a_mi, .int mq, .ref a_mn, .int mz, .int ma, .ref a_mh, .ref a_mg, .ref a_mr, .ref a_mx])), (a_mt, .inl (cI, 200, .inl mt)), (a_mo, .inl (cI, 16, .inl mo)), (a_md, .inl (cI, 16, .inl md)), (a_mb, .inl (cI, 56, .inl mb)), (a_ms, .inl (cI, 56, .inl ms)), (a_mp, .inl (cI, 448, .inl mp)), (a_mi, .inl (cI, 112, .inl mi)), (a_mn, .inl (cI, 12, .inl mn)), (a_mh, .inl (cI, 42, .inl mh)), (a_mg, .inl (cI, 56, .inl mg)), (a_mr, .inl (cI, 6, .inl mr)), (a_mx, .inl (cI, 6, .inl mx))] → va_S A s.heap H locs → lv_has ls 9 [(0, .ref h6), (1, .int x1), (2, .int x2), (3, .int x3), (4, .int x4), (5, .int x5), (6, .int x6), (7, .int x7)] → (∀ (ms : Nat → Int32) (mh : Nat → Int32) (H : Heap) (locs : List Loc) (ls : Array Slot), K104 ms mh → va_P D vwCl [(h6, .inr (6, [.ref a_mt, .int my, .ref a_mo, .ref a_md, .ref a_mb, .ref a_ms, .ref a_mp, .int mk, .ref a_mi, .int mq, .ref a_mn, .int mz, .int ma, .ref a_mh, .ref a_mg, .ref a_mr, .ref a_mx])), (a_mt, .inl (cI, 200, .inl mt)), (a_mo, .inl (cI, 16, .inl mo)), (a_md, .inl (cI, 16, .inl md)), (a_mb, .inl (cI, 56, .inl mb)), (a_ms, .inl (cI, 56, .inl ms)), (a_mp, .inl (cI, 448, .inl mp)), (a_mi, .inl (cI, 112, .inl mi)), (a_mn, .inl (cI, 12, .inl mn)), (a_mh, .inl (cI, 42, .inl mh)), (a_mg, .inl (cI, 56, .inl mg)), (a_mr, .inl (cI, 6, .inl mr)), (a_mx, .inl (cI, 6, .inl mx))] H → va_D A [(h6, .inr (6, [.ref a_mt, .int my, .ref a_mo, .ref a_md, .ref a_mb, .ref a_ms, .ref a_mp, .int mk, .ref a_mi, .int mq, .ref a_mn, .int mz, .int ma, .ref a_mh, .ref a_mg, .ref a_mr, .ref a_mx])), (a_mt, .inl (cI, 200, .inl mt)), (a_mo, .inl (cI, 16, .inl mo)), (a_md, .inl (cI, 16, .inl md)), (a_mb, .inl (cI, 56, .inl mb)), (a_ms, .inl (cI, 56, .inl ms)), (a_mp, .inl (cI, 448, .inl mp)), (a_mi, .inl (cI, 112, .inl mi)), (a_mn, .inl (cI, 12, .inl mn)), (a_mh, .inl (cI, 42, .inl mh)), (a_mg, .inl (cI, 56, .inl mg)), (a_mr, .inl (cI, 6, .inl mr)), (a_mx, .inl (cI, 6, .inl mx))] → va_S A s.heap H locs → lv_has ls 9 [(0, .ref h6), (1, .int x1), (2, .int x2), (3, .int x3), (4, .int x4), (5, .int x5), (6, .int x6)] → W p l e rmX6_fewest s m args below meth c H locs 0 0 Z (F0 m 104 ls [])) → W p l e rmX6_fewest s m args below meth c H locs 0 0 Z (F0 m 88 ls []) := by
    intro K104
    intro n
    induction n with
    | zero =>
      intro x1 x2 x3 x4 x5 x6 x7 ms mh mg H locs ls h hP hD hS hl hk104
      exact (show False from h).elim
    | succ n ih =>
      intro x1 x2 x3 x4 x5 x6 x7 ms mh mg H locs ls h hP hD hS hl hk104
      refine lv_iload hx hb dX6_fewest_88 (lv_at hl 7 rfl) ?_
      refine lv_iload_n hx hb dX6_fewest_90 rfl (lv_at hl 2 rfl) ?_
      refine lv_icmp_ge (tgt := 104) hx hb dX6_fewest_91 (by decide) (fun c_46 => ?_) (fun c_46 => ?_)
      · have h := h.1 c_46
        exact hk104 ms mh _ _ _ h hP hD hS (lv_sub hl [0, 1, 2, 3, 4, 5, 6] rfl)
      · have h := h.2 c_46
        refine lv_aload_n hx hb dX6_fewest_94 rfl (lv_at hl 0 rfl) ?_
        refine k0V_v (As := []) (n := 0) ⟨hx, hb, hml, hown, hts⟩ hK hP hD hS hA (c_X6_passes l D cI cC cQ h6 a_mt a_mo a_md a_mb a_ms a_mp a_mi a_mn a_mh a_mg a_mr a_mx mt my mo md mb ms mp mk mi mq mn mz ma mh mg mr mx  _ h) gX6_fewest_X6_passes rfl rfl ⟨rfl, rfl⟩ yoX6_passes ⟨Nat.le_of_ble_eq_true rfl, Nat.le_of_ble_eq_true rfl⟩ (q0 := 0) (ci := 6) rfl rfl rfl rfl hl.1 rfl (Nat.le_of_ble_eq_true rfl) dX6_fewest_95 ⟨Nat.zero_le _, Nat.zero_le _⟩ (fun u H locs h hP hD hS => ?_)
        obtain ⟨ms_47, mh_48⟩ := u
        have hP : va_P D vwCl [(h6, .inr (6, [.ref a_mt, .int my, .ref a_mo, .ref a_md, .ref a_mb, .ref a_ms, .ref a_mp, .int mk, .ref a_mi, .int mq, .ref a_mn, .int mz, .int ma, .ref a_mh, .ref a_mg, .ref a_mr, .ref a_mx])), (a_mt, .inl (cI, 200, .inl mt)), (a_mo, .inl (cI, 16, .inl mo)), (a_md, .inl (cI, 16, .inl md)), (a_mb, .inl (cI, 56, .inl mb)), (a_ms, .inl (cI, 56, .inl ms_47)), (a_mp, .inl (cI, 448, .inl mp)), (a_mi, .inl (cI, 112, .inl mi)), (a_mn, .inl (cI, 12, .inl mn)), (a_mh, .inl (cI, 42, .inl mh_48)), (a_mg, .inl (cI, 56, .inl mg)), (a_mr, .inl (cI, 6, .inl mr)), (a_mx, .inl (cI, 6, .inl mx))] H := hP
        have hD : va_D A [(h6, .inr (6, [.ref a_mt, .int my, .ref a_mo, .ref a_md, .ref a_mb, .ref a_ms, .ref a_mp, .int mk, .ref a_mi, .int mq, .ref a_mn, .int mz, .int ma, .ref a_mh, .ref a_mg, .ref a_mr, .ref a_mx])), (a_mt, .inl (cI, 200, .inl mt)), (a_mo, .inl (cI, 16, .inl mo)), (a_md, .inl (cI, 16, .inl md)), (a_mb, .inl (cI, 56, .inl mb)), (a_ms, .inl (cI, 56, .inl ms_47)), (a_mp, .inl (cI, 448, .inl mp)), (a_mi, .inl (cI, 112, .inl mi)), (a_mn, .inl (cI, 12, .inl mn)), (a_mh, .inl (cI, 42, .inl mh_48)), (a_mg, .inl (cI, 56, .inl mg)), (a_mr, .inl (cI, 6, .inl mr)), (a_mx, .inl (cI, 6, .inl mx))] := hD
        refine lv_iinc (v := (x7 + (1 : Int32))) (lv' := [(7, .int (x7 + (1 : Int32))), (0, .ref h6), (1, .int x1), (2, .int x2), (3, .int x3), (4, .int x4), (5, .int x5), (6, .int x6)]) hx hb dX6_fewest_98 hl (k := 7) rfl rfl (by decide) rfl (fun ls hl => ?_)
        refine lv_goto (tgt := 88) hx hb dX6_fewest_101 (by decide) ?_
        exact ih h hP hD hS (lv_sub hl [1, 2, 3, 4, 5, 6, 7, 0] rfl) hk104
  have L11 : ∀ (n : Nat) {x1 : Int32} {x2 : Int32} {x3 : Int32} {x4 : Int32} {x5 : Int32} {x6 : Int32} {ms : Nat → Int32} {mh : Nat → Int32} {mg : Nat → Int32} {H : Heap} {locs : List Loc} {ls : Array Slot}, wX6_fewest_L11 x1 x2 x3 x4 mo mg Q n x5 x6 ms mh → va_P D vwCl [(h6, .inr (6, [.ref a_mt, .int my, .ref a_mo, .ref a_md, .ref a_mb, .ref a_ms, .ref a_mp, .int mk, .ref a_mi, .int mq, .ref a_mn, .int mz, .int ma, .ref a_mh, .ref a_mg, .ref a_mr, .ref a_mx])), (a_mt, .inl (cI, 200, .inl mt)), (a_mo, .inl (cI, 16, .inl mo)), (a_md, .inl (cI, 16, .inl md)), (a_mb, .inl (cI, 56, .inl mb)), (a_ms, .inl (cI, 56, .inl ms)), (a_mp, .inl (cI, 448, .inl mp)), (a_mi, .inl (cI, 112, .inl mi)), (a_mn, .inl (cI, 12, .inl mn)), (a_mh, .inl (cI, 42, .inl mh)), (a_mg, .inl (cI, 56, .inl mg)), (a_mr, .inl (cI, 6, .inl mr)), (a_mx, .inl (cI, 6, .inl mx))] H → va_D A [(h6, .inr (6, [.ref a_mt, .int my, .ref a_mo, .ref a_md, .ref a_mb, .ref a_ms, .ref a_mp, .int mk, .ref a_mi, .int mq, .ref a_mn, .int mz, .int ma, .ref a_mh, .ref a_mg, .ref a_mr, .ref a_mx])), (a_mt, .inl (cI, 200, .inl mt)), (a_mo, .inl (cI, 16, .inl mo)), (a_md, .inl (cI, 16, .inl md)), (a_mb, .inl (cI, 56, .inl mb)), (a_ms, .inl (cI, 56, .inl ms)), (a_mp, .inl (cI, 448, .inl mp)), (a_mi, .inl (cI, 112, .inl mi)), (a_mn, .inl (cI, 12, .inl mn)), (a_mh, .inl (cI, 42, .inl mh)), (a_mg, .inl (cI, 56, .inl mg)), (a_mr, .inl (cI, 6, .inl mr)), (a_mx, .inl (cI, 6, .inl mx))] → va_S A s.heap H locs → lv_has ls 9 [(0, .ref h6), (1, .int x1), (2, .int x2), (3, .int x3), (4, .int x4), (5, .int x5), (6, .int x6)] → W p l e rmX6_fewest s m args below meth c H locs 0 0 Z (F0 m 11 ls []) := by
    intro n
    induction n with
    | zero =>
      intro x1 x2 x3 x4 x5 x6 ms mh mg H locs ls h hP hD hS hl
      exact (show False from h).elim
    | succ n ih =>
      intro x1 x2 x3 x4 x5 x6 ms mh mg H locs ls h hP hD hS hl
      refine lv_iload hx hb dX6_fewest_11 (lv_at hl 6 rfl) ?_
      refine lv_iconst (v := 1) hx hb dX6_fewest_13 (by decide) ?_
      refine lv_aload_n hx hb dX6_fewest_14 rfl (lv_at hl 0 rfl) ?_
      refine va_get (D := D) (ci := 6) (v := .ref a_mo) (C := RX6) (T := TX6) (N := 17) hx hb hts hin6 hown hK.1 hP 0 rfl rfl 2 (by decide) (k_0) (fun _ h9 => h9) rfl dX6_fewest_15 ?_
      refine lv_iconst (v := 0) hx hb dX6_fewest_18 (by decide) ?_
      refine z_iald (k := 0) hx hb hK.1 hP 2 rfl (by decide) vi_0_16 dX6_fewest_19 ?_
      refine lv_ishl hx hb dX6_fewest_20 ?_
      refine lv_icmp_ge (tgt := 179) hx hb dX6_fewest_21 (by decide) (fun c_35 => ?_) (fun c_35 => ?_)
      · have h := h.1 c_35
        refine lv_iload hx hb dX6_fewest_179 (lv_at hl 5 rfl) ?_
        exact hret x5 (ms, mh, mg) _ _ _ ls h hP hD hS dX6_fewest_181
      · have h := h.2 c_35
        refine lv_iconst (v := 0) hx hb dX6_fewest_24 (by decide) ?_
        refine lv_istore (lv' := [(7, .int (0 : Int32)), (0, .ref h6), (1, .int x1), (2, .int x2), (3, .int x3), (4, .int x4), (5, .int x5), (6, .int x6)]) hx hb dX6_fewest_25 hl (by decide) rfl (fun ls hl => ?_)
        obtain ⟨n_67, h⟩ := h
        refine L27 n_67 h hP hD hS (lv_sub hl [1, 2, 3, 4, 5, 6, 7, 0] rfl) (fun ms_42 H locs ls h hP hD hS hl => ?_)
        refine lv_iconst (v := 0) hx hb dX6_fewest_85 (by decide) ?_
        refine lv_istore (lv' := [(7, .int (0 : Int32)), (0, .ref h6), (1, .int x1), (2, .int x2), (3, .int x3), (4, .int x4), (5, .int x5), (6, .int x6)]) hx hb dX6_fewest_86 hl (by decide) rfl (fun ls hl => ?_)
        obtain ⟨n_66, h⟩ := h
        refine L88 n_66 h hP hD hS (lv_sub hl [1, 2, 3, 4, 5, 6, 7, 0] rfl) (fun ms_49 mh_50 H locs ls h hP hD hS hl => ?_)
        refine lv_aload_n hx hb dX6_fewest_104 rfl (lv_at hl 0 rfl) ?_
        refine va_get (D := D) (ci := 6) (v := .ref a_ms) (C := RX6) (T := TX6) (N := 17) hx hb hts hin6 hown hK.1 hP 0 rfl rfl 5 (by decide) (k_1) (fun _ h9 => h9) rfl dX6_fewest_105 ?_
        refine lv_bipush (v := 8) hx hb dX6_fewest_108 (by decide) ?_
        refine lv_iload_n hx hb dX6_fewest_110 rfl (lv_at hl 1 rfl) ?_
        refine lv_iadd hx hb dX6_fewest_111 ?_
        refine z_iald (k := ((8 : Int32) + x1).toNatClampNeg) hx hb hK.1 hP 5 rfl rfl h.1 dX6_fewest_112 ?_
        have h := h.2
        refine lv_bipush (v := 9) hx hb dX6_fewest_113 (by decide) ?_
        refine lv_icmp_ne (tgt := 122) hx hb dX6_fewest_115 (by decide) (fun c_51 => ?_) (fun c_51 => ?_)
        · have h := h.2 c_51
          refine lv_iconst (v := 0) hx hb dX6_fewest_122 (by decide) ?_
          refine lv_iload hx hb dX6_fewest_123 (lv_at hl 4 rfl) ?_
          refine lv_icmp_ne (tgt := 132) hx hb dX6_fewest_125 (by decide) (fun c_52 => ?_) (fun c_52 => ?_)
          · have h := h.2 c_52
            refine lv_iconst (v := 0) hx hb dX6_fewest_132 (by decide) ?_
            refine lv_istore (lv' := [(7, .int (0 : Int32)), (0, .ref h6), (1, .int x1), (2, .int x2), (3, .int x3), (4, .int x4), (5, .int x5), (6, .int x6)]) hx hb dX6_fewest_133 hl (by decide) rfl (fun ls hl => ?_)
            refine lv_aload_n hx hb dX6_fewest_135 rfl (lv_at hl 1 rfl) ?_
            refine k0V_v (As := []) (n := 0) ⟨hx, hb, hml, hown, hts⟩ hK hP hD hS hA (c_X6_lets l D cI cC cQ h6 a_mt a_mo a_md a_mb a_ms a_mp a_mi a_mn a_mh a_mg a_mr a_mx mt my mo md mb ms_49 mp mk mi mq mn mz ma mh_50 mg mr mx  _ h) gX6_fewest_X6_lets rfl rfl ⟨rfl, rfl⟩ yoX6_lets ⟨Nat.le_of_ble_eq_true rfl, Nat.le_of_ble_eq_true rfl⟩ (q0 := 0) (ci := 6) rfl rfl rfl rfl hl.1 rfl (Nat.le_of_ble_eq_true rfl) dX6_fewest_136 ⟨Nat.zero_le _, Nat.zero_le _⟩ (fun ms_53 H locs h hP hD hS => ?_)
            have hP : va_P D vwCl [(h6, .inr (6, [.ref a_mt, .int my, .ref a_mo, .ref a_md, .ref a_mb, .ref a_ms, .ref a_mp, .int mk, .ref a_mi, .int mq, .ref a_mn, .int mz, .int ma, .ref a_mh, .ref a_mg, .ref a_mr, .ref a_mx])), (a_mt, .inl (cI, 200, .inl mt)), (a_mo, .inl (cI, 16, .inl mo)), (a_md, .inl (cI, 16, .inl md)), (a_mb, .inl (cI, 56, .inl mb)), (a_ms, .inl (cI, 56, .inl ms_53)), (a_mp, .inl (cI, 448, .inl mp)), (a_mi, .inl (cI, 112, .inl mi)), (a_mn, .inl (cI, 12, .inl mn)), (a_mh, .inl (cI, 42, .inl mh_50)), (a_mg, .inl (cI, 56, .inl mg)), (a_mr, .inl (cI, 6, .inl mr)), (a_mx, .inl (cI, 6, .inl mx))] H := hP
            have hD : va_D A [(h6, .inr (6, [.ref a_mt, .int my, .ref a_mo, .ref a_md, .ref a_mb, .ref a_ms, .ref a_mp, .int mk, .ref a_mi, .int mq, .ref a_mn, .int mz, .int ma, .ref a_mh, .ref a_mg, .ref a_mr, .ref a_mx])), (a_mt, .inl (cI, 200, .inl mt)), (a_mo, .inl (cI, 16, .inl mo)), (a_md, .inl (cI, 16, .inl md)), (a_mb, .inl (cI, 56, .inl mb)), (a_ms, .inl (cI, 56, .inl ms_53)), (a_mp, .inl (cI, 448, .inl mp)), (a_mi, .inl (cI, 112, .inl mi)), (a_mn, .inl (cI, 12, .inl mn)), (a_mh, .inl (cI, 42, .inl mh_50)), (a_mg, .inl (cI, 56, .inl mg)), (a_mr, .inl (cI, 6, .inl mr)), (a_mx, .inl (cI, 6, .inl mx))] := hD
            refine lv_iload hx hb dX6_fewest_139 (lv_at hl 0 rfl) ?_
            refine lv_if_eq (tgt := 169) hx hb dX6_fewest_141 (by decide) (fun _ => ?_) (fun c_ => absurd c_ (by decide))
            refine lv_iload hx hb dX6_fewest_169 (lv_at hl 6 rfl) ?_
            refine lv_istore (lv' := [(5, .int x5), (7, .int (0 : Int32)), (0, .ref h6), (1, .int x1), (2, .int x2), (3, .int x3), (4, .int x4), (6, .int x6)]) hx hb dX6_fewest_171 hl (by decide) rfl (fun ls hl => ?_)
            refine lv_iinc (v := (x6 + (1 : Int32))) (lv' := [(6, .int (x6 + (1 : Int32))), (5, .int x5), (7, .int (0 : Int32)), (0, .ref h6), (1, .int x1), (2, .int x2), (3, .int x3), (4, .int x4)]) hx hb dX6_fewest_173 hl (k := 7) rfl rfl (by decide) rfl (fun ls hl => ?_)
            refine lv_goto (tgt := 11) hx hb dX6_fewest_176 (by decide) ?_
            exact ih h hP hD hS (lv_sub hl [3, 4, 5, 6, 7, 1, 0] rfl)
          · have h := h.1 c_52
            refine lv_iconst (v := 1) hx hb dX6_fewest_128 (by decide) ?_
            refine lv_goto (tgt := 133) hx hb dX6_fewest_129 (by decide) ?_
            refine lv_istore (lv' := [(7, .int (1 : Int32)), (0, .ref h6), (1, .int x1), (2, .int x2), (3, .int x3), (4, .int x4), (5, .int x5), (6, .int x6)]) hx hb dX6_fewest_133 hl (by decide) rfl (fun ls hl => ?_)
            refine lv_aload_n hx hb dX6_fewest_135 rfl (lv_at hl 1 rfl) ?_
            refine k0V_v (As := []) (n := 0) ⟨hx, hb, hml, hown, hts⟩ hK hP hD hS hA (c_X6_lets l D cI cC cQ h6 a_mt a_mo a_md a_mb a_ms a_mp a_mi a_mn a_mh a_mg a_mr a_mx mt my mo md mb ms_49 mp mk mi mq mn mz ma mh_50 mg mr mx  _ h) gX6_fewest_X6_lets rfl rfl ⟨rfl, rfl⟩ yoX6_lets ⟨Nat.le_of_ble_eq_true rfl, Nat.le_of_ble_eq_true rfl⟩ (q0 := 0) (ci := 6) rfl rfl rfl rfl hl.1 rfl (Nat.le_of_ble_eq_true rfl) dX6_fewest_136 ⟨Nat.zero_le _, Nat.zero_le _⟩ (fun ms_54 H locs h hP hD hS => ?_)
            have hP : va_P D vwCl [(h6, .inr (6, [.ref a_mt, .int my, .ref a_mo, .ref a_md, .ref a_mb, .ref a_ms, .ref a_mp, .int mk, .ref a_mi, .int mq, .ref a_mn, .int mz, .int ma, .ref a_mh, .ref a_mg, .ref a_mr, .ref a_mx])), (a_mt, .inl (cI, 200, .inl mt)), (a_mo, .inl (cI, 16, .inl mo)), (a_md, .inl (cI, 16, .inl md)), (a_mb, .inl (cI, 56, .inl mb)), (a_ms, .inl (cI, 56, .inl ms_54)), (a_mp, .inl (cI, 448, .inl mp)), (a_mi, .inl (cI, 112, .inl mi)), (a_mn, .inl (cI, 12, .inl mn)), (a_mh, .inl (cI, 42, .inl mh_50)), (a_mg, .inl (cI, 56, .inl mg)), (a_mr, .inl (cI, 6, .inl mr)), (a_mx, .inl (cI, 6, .inl mx))] H := hP
            have hD : va_D A [(h6, .inr (6, [.ref a_mt, .int my, .ref a_mo, .ref a_md, .ref a_mb, .ref a_ms, .ref a_mp, .int mk, .ref a_mi, .int mq, .ref a_mn, .int mz, .int ma, .ref a_mh, .ref a_mg, .ref a_mr, .ref a_mx])), (a_mt, .inl (cI, 200, .inl mt)), (a_mo, .inl (cI, 16, .inl mo)), (a_md, .inl (cI, 16, .inl md)), (a_mb, .inl (cI, 56, .inl mb)), (a_ms, .inl (cI, 56, .inl ms_54)), (a_mp, .inl (cI, 448, .inl mp)), (a_mi, .inl (cI, 112, .inl mi)), (a_mn, .inl (cI, 12, .inl mn)), (a_mh, .inl (cI, 42, .inl mh_50)), (a_mg, .inl (cI, 56, .inl mg)), (a_mr, .inl (cI, 6, .inl mr)), (a_mx, .inl (cI, 6, .inl mx))] := hD
            refine lv_iload hx hb dX6_fewest_139 (lv_at hl 0 rfl) ?_
            refine lv_if_eq (tgt := 169) hx hb dX6_fewest_141 (by decide) (fun c_ => absurd c_ (by decide)) (fun _ => ?_)
            refine lv_iload hx hb dX6_fewest_144 (lv_at hl 6 rfl) ?_
            refine lv_bipush (v := -4) hx hb dX6_fewest_146 (by decide) ?_
            refine lv_icmp_eq (tgt := 164) hx hb dX6_fewest_148 (by decide) (fun c_55 => ?_) (fun c_55 => ?_)
            · have h := h.1 c_55
              refine lv_iload hx hb dX6_fewest_164 (lv_at hl 7 rfl) ?_
              refine lv_goto (tgt := 171) hx hb dX6_fewest_166 (by decide) ?_
              refine lv_istore (lv' := [(5, .int x6), (7, .int (1 : Int32)), (0, .ref h6), (1, .int x1), (2, .int x2), (3, .int x3), (4, .int x4), (6, .int x6)]) hx hb dX6_fewest_171 hl (by decide) rfl (fun ls hl => ?_)
              refine lv_iinc (v := (x6 + (1 : Int32))) (lv' := [(6, .int (x6 + (1 : Int32))), (5, .int x6), (7, .int (1 : Int32)), (0, .ref h6), (1, .int x1), (2, .int x2), (3, .int x3), (4, .int x4)]) hx hb dX6_fewest_173 hl (k := 7) rfl rfl (by decide) rfl (fun ls hl => ?_)
              refine lv_goto (tgt := 11) hx hb dX6_fewest_176 (by decide) ?_
              exact ih h hP hD hS (lv_sub hl [3, 4, 5, 6, 7, 1, 0] rfl)
            · have h := h.2 c_55
              refine lv_iload hx hb dX6_fewest_151 (lv_at hl 7 rfl) ?_
              refine kS_i (wr := [(h6, .inr (6, [.ref a_mt, .int my, .ref a_mo, .ref a_md, .ref a_mb, .ref a_ms, .ref a_mp, .int mk, .ref a_mi, .int mq, .ref a_mn, .int mz, .int ma, .ref a_mh, .ref a_mg, .ref a_mr, .ref a_mx])), (a_mt, .inl (cI, 200, .inl mt)), (a_mo, .inl (cI, 16, .inl mo)), (a_md, .inl (cI, 16, .inl md)), (a_mb, .inl (cI, 56, .inl mb)), (a_ms, .inl (cI, 56, .inl ms_54)), (a_mp, .inl (cI, 448, .inl mp)), (a_mi, .inl (cI, 112, .inl mi)), (a_mn, .inl (cI, 12, .inl mn)), (a_mh, .inl (cI, 42, .inl mh_50)), (a_mg, .inl (cI, 56, .inl mg)), (a_mr, .inl (cI, 6, .inl mr)), (a_mx, .inl (cI, 6, .inl mx))]) (As := [.int x6]) (n := 1) ⟨hx, hb, hml, hown, hts⟩ hK hP hD hS hA (c_X6_ones l D cI cC cQ   x6 _ h) gX6_fewest_X6_ones rfl ⟨rfl, rfl⟩ yoX6_ones ⟨Nat.le_of_ble_eq_true rfl, Nat.le_of_ble_eq_true rfl⟩ rfl hl.1 rfl (Nat.le_of_ble_eq_true rfl) dX6_fewest_153 ⟨Nat.zero_le _, Nat.zero_le _⟩ [] [0, 1, 2, 3, 4, 5, 6, 7, 8, 9, 10, 11, 12] rfl (by decide) rfl (by decide) (by decide) (fun r_56 u H locs h hP hD hS => ?_)
              have hP : va_P D vwCl [(h6, .inr (6, [.ref a_mt, .int my, .ref a_mo, .ref a_md, .ref a_mb, .ref a_ms, .ref a_mp, .int mk, .ref a_mi, .int mq, .ref a_mn, .int mz, .int ma, .ref a_mh, .ref a_mg, .ref a_mr, .ref a_mx])), (a_mt, .inl (cI, 200, .inl mt)), (a_mo, .inl (cI, 16, .inl mo)), (a_md, .inl (cI, 16, .inl md)), (a_mb, .inl (cI, 56, .inl mb)), (a_ms, .inl (cI, 56, .inl ms_54)), (a_mp, .inl (cI, 448, .inl mp)), (a_mi, .inl (cI, 112, .inl mi)), (a_mn, .inl (cI, 12, .inl mn)), (a_mh, .inl (cI, 42, .inl mh_50)), (a_mg, .inl (cI, 56, .inl mg)), (a_mr, .inl (cI, 6, .inl mr)), (a_mx, .inl (cI, 6, .inl mx))] H := hP
              have hD : va_D A [(h6, .inr (6, [.ref a_mt, .int my, .ref a_mo, .ref a_md, .ref a_mb, .ref a_ms, .ref a_mp, .int mk, .ref a_mi, .int mq, .ref a_mn, .int mz, .int ma, .ref a_mh, .ref a_mg, .ref a_mr, .ref a_mx])), (a_mt, .inl (cI, 200, .inl mt)), (a_mo, .inl (cI, 16, .inl mo)), (a_md, .inl (cI, 16, .inl md)), (a_mb, .inl (cI, 56, .inl mb)), (a_ms, .inl (cI, 56, .inl ms_54)), (a_mp, .inl (cI, 448, .inl mp)), (a_mi, .inl (cI, 112, .inl mi)), (a_mn, .inl (cI, 12, .inl mn)), (a_mh, .inl (cI, 42, .inl mh_50)), (a_mg, .inl (cI, 56, .inl mg)), (a_mr, .inl (cI, 6, .inl mr)), (a_mx, .inl (cI, 6, .inl mx))] := hD
              refine lv_iload hx hb dX6_fewest_156 (lv_at hl 6 rfl) ?_
              refine kS_i (wr := [(h6, .inr (6, [.ref a_mt, .int my, .ref a_mo, .ref a_md, .ref a_mb, .ref a_ms, .ref a_mp, .int mk, .ref a_mi, .int mq, .ref a_mn, .int mz, .int ma, .ref a_mh, .ref a_mg, .ref a_mr, .ref a_mx])), (a_mt, .inl (cI, 200, .inl mt)), (a_mo, .inl (cI, 16, .inl mo)), (a_md, .inl (cI, 16, .inl md)), (a_mb, .inl (cI, 56, .inl mb)), (a_ms, .inl (cI, 56, .inl ms_54)), (a_mp, .inl (cI, 448, .inl mp)), (a_mi, .inl (cI, 112, .inl mi)), (a_mn, .inl (cI, 12, .inl mn)), (a_mh, .inl (cI, 42, .inl mh_50)), (a_mg, .inl (cI, 56, .inl mg)), (a_mr, .inl (cI, 6, .inl mr)), (a_mx, .inl (cI, 6, .inl mx))]) (As := [.int x5]) (n := 1) ⟨hx, hb, hml, hown, hts⟩ hK hP hD hS hA (c_X6_ones l D cI cC cQ   x5 _ h) gX6_fewest_X6_ones rfl ⟨rfl, rfl⟩ yoX6_ones ⟨Nat.le_of_ble_eq_true rfl, Nat.le_of_ble_eq_true rfl⟩ rfl hl.1 rfl (Nat.le_of_ble_eq_true rfl) dX6_fewest_158 ⟨Nat.zero_le _, Nat.zero_le _⟩ [] [0, 1, 2, 3, 4, 5, 6, 7, 8, 9, 10, 11, 12] rfl (by decide) rfl (by decide) (by decide) (fun r_57 u H locs h hP hD hS => ?_)
              have hP : va_P D vwCl [(h6, .inr (6, [.ref a_mt, .int my, .ref a_mo, .ref a_md, .ref a_mb, .ref a_ms, .ref a_mp, .int mk, .ref a_mi, .int mq, .ref a_mn, .int mz, .int ma, .ref a_mh, .ref a_mg, .ref a_mr, .ref a_mx])), (a_mt, .inl (cI, 200, .inl mt)), (a_mo, .inl (cI, 16, .inl mo)), (a_md, .inl (cI, 16, .inl md)), (a_mb, .inl (cI, 56, .inl mb)), (a_ms, .inl (cI, 56, .inl ms_54)), (a_mp, .inl (cI, 448, .inl mp)), (a_mi, .inl (cI, 112, .inl mi)), (a_mn, .inl (cI, 12, .inl mn)), (a_mh, .inl (cI, 42, .inl mh_50)), (a_mg, .inl (cI, 56, .inl mg)), (a_mr, .inl (cI, 6, .inl mr)), (a_mx, .inl (cI, 6, .inl mx))] H := hP
              have hD : va_D A [(h6, .inr (6, [.ref a_mt, .int my, .ref a_mo, .ref a_md, .ref a_mb, .ref a_ms, .ref a_mp, .int mk, .ref a_mi, .int mq, .ref a_mn, .int mz, .int ma, .ref a_mh, .ref a_mg, .ref a_mr, .ref a_mx])), (a_mt, .inl (cI, 200, .inl mt)), (a_mo, .inl (cI, 16, .inl mo)), (a_md, .inl (cI, 16, .inl md)), (a_mb, .inl (cI, 56, .inl mb)), (a_ms, .inl (cI, 56, .inl ms_54)), (a_mp, .inl (cI, 448, .inl mp)), (a_mi, .inl (cI, 112, .inl mi)), (a_mn, .inl (cI, 12, .inl mn)), (a_mh, .inl (cI, 42, .inl mh_50)), (a_mg, .inl (cI, 56, .inl mg)), (a_mr, .inl (cI, 6, .inl mr)), (a_mx, .inl (cI, 6, .inl mx))] := hD
              refine lv_icmp_ge (tgt := 169) hx hb dX6_fewest_161 (by decide) (fun c_58 => ?_) (fun c_58 => ?_)
              · have h := h.1 c_58
                refine lv_iload hx hb dX6_fewest_169 (lv_at hl 6 rfl) ?_
                refine lv_istore (lv' := [(5, .int x5), (7, .int (1 : Int32)), (0, .ref h6), (1, .int x1), (2, .int x2), (3, .int x3), (4, .int x4), (6, .int x6)]) hx hb dX6_fewest_171 hl (by decide) rfl (fun ls hl => ?_)
                refine lv_iinc (v := (x6 + (1 : Int32))) (lv' := [(6, .int (x6 + (1 : Int32))), (5, .int x5), (7, .int (1 : Int32)), (0, .ref h6), (1, .int x1), (2, .int x2), (3, .int x3), (4, .int x4)]) hx hb dX6_fewest_173 hl (k := 7) rfl rfl (by decide) rfl (fun ls hl => ?_)
                refine lv_goto (tgt := 11) hx hb dX6_fewest_176 (by decide) ?_
                exact ih h hP hD hS (lv_sub hl [3, 4, 5, 6, 7, 1, 0] rfl)
              · have h := h.2 c_58
                refine lv_iload hx hb dX6_fewest_164 (lv_at hl 7 rfl) ?_
                refine lv_goto (tgt := 171) hx hb dX6_fewest_166 (by decide) ?_
                refine lv_istore (lv' := [(5, .int x6), (7, .int (1 : Int32)), (0, .ref h6), (1, .int x1), (2, .int x2), (3, .int x3), (4, .int x4), (6, .int x6)]) hx hb dX6_fewest_171 hl (by decide) rfl (fun ls hl => ?_)
                refine lv_iinc (v := (x6 + (1 : Int32))) (lv' := [(6, .int (x6 + (1 : Int32))), (5, .int x6), (7, .int (1 : Int32)), (0, .ref h6), (1, .int x1), (2, .int x2), (3, .int x3), (4, .int x4)]) hx hb dX6_fewest_173 hl (k := 7) rfl rfl (by decide) rfl (fun ls hl => ?_)
                refine lv_goto (tgt := 11) hx hb dX6_fewest_176 (by decide) ?_
                exact ih h hP hD hS (lv_sub hl [3, 4, 5, 6, 7, 1, 0] rfl)
        · have h := h.1 c_51
          refine lv_iconst (v := 1) hx hb dX6_fewest_118 (by decide) ?_
          refine lv_goto (tgt := 123) hx hb dX6_fewest_119 (by decide) ?_
          refine lv_iload hx hb dX6_fewest_123 (lv_at hl 4 rfl) ?_
          refine lv_icmp_ne (tgt := 132) hx hb dX6_fewest_125 (by decide) (fun c_59 => ?_) (fun c_59 => ?_)
          · have h := h.2 c_59
            refine lv_iconst (v := 0) hx hb dX6_fewest_132 (by decide) ?_
            refine lv_istore (lv' := [(7, .int (0 : Int32)), (0, .ref h6), (1, .int x1), (2, .int x2), (3, .int x3), (4, .int x4), (5, .int x5), (6, .int x6)]) hx hb dX6_fewest_133 hl (by decide) rfl (fun ls hl => ?_)
            refine lv_aload_n hx hb dX6_fewest_135 rfl (lv_at hl 1 rfl) ?_
            refine k0V_v (As := []) (n := 0) ⟨hx, hb, hml, hown, hts⟩ hK hP hD hS hA (c_X6_lets l D cI cC cQ h6 a_mt a_mo a_md a_mb a_ms a_mp a_mi a_mn a_mh a_mg a_mr a_mx mt my mo md mb ms_49 mp mk mi mq mn mz ma mh_50 mg mr mx  _ h) gX6_fewest_X6_lets rfl rfl ⟨rfl, rfl⟩ yoX6_lets ⟨Nat.le_of_ble_eq_true rfl, Nat.le_of_ble_eq_true rfl⟩ (q0 := 0) (ci := 6) rfl rfl rfl rfl hl.1 rfl (Nat.le_of_ble_eq_true rfl) dX6_fewest_136 ⟨Nat.zero_le _, Nat.zero_le _⟩ (fun ms_60 H locs h hP hD hS => ?_)
            have hP : va_P D vwCl [(h6, .inr (6, [.ref a_mt, .int my, .ref a_mo, .ref a_md, .ref a_mb, .ref a_ms, .ref a_mp, .int mk, .ref a_mi, .int mq, .ref a_mn, .int mz, .int ma, .ref a_mh, .ref a_mg, .ref a_mr, .ref a_mx])), (a_mt, .inl (cI, 200, .inl mt)), (a_mo, .inl (cI, 16, .inl mo)), (a_md, .inl (cI, 16, .inl md)), (a_mb, .inl (cI, 56, .inl mb)), (a_ms, .inl (cI, 56, .inl ms_60)), (a_mp, .inl (cI, 448, .inl mp)), (a_mi, .inl (cI, 112, .inl mi)), (a_mn, .inl (cI, 12, .inl mn)), (a_mh, .inl (cI, 42, .inl mh_50)), (a_mg, .inl (cI, 56, .inl mg)), (a_mr, .inl (cI, 6, .inl mr)), (a_mx, .inl (cI, 6, .inl mx))] H := hP
            have hD : va_D A [(h6, .inr (6, [.ref a_mt, .int my, .ref a_mo, .ref a_md, .ref a_mb, .ref a_ms, .ref a_mp, .int mk, .ref a_mi, .int mq, .ref a_mn, .int mz, .int ma, .ref a_mh, .ref a_mg, .ref a_mr, .ref a_mx])), (a_mt, .inl (cI, 200, .inl mt)), (a_mo, .inl (cI, 16, .inl mo)), (a_md, .inl (cI, 16, .inl md)), (a_mb, .inl (cI, 56, .inl mb)), (a_ms, .inl (cI, 56, .inl ms_60)), (a_mp, .inl (cI, 448, .inl mp)), (a_mi, .inl (cI, 112, .inl mi)), (a_mn, .inl (cI, 12, .inl mn)), (a_mh, .inl (cI, 42, .inl mh_50)), (a_mg, .inl (cI, 56, .inl mg)), (a_mr, .inl (cI, 6, .inl mr)), (a_mx, .inl (cI, 6, .inl mx))] := hD
            refine lv_iload hx hb dX6_fewest_139 (lv_at hl 0 rfl) ?_
            refine lv_if_eq (tgt := 169) hx hb dX6_fewest_141 (by decide) (fun _ => ?_) (fun c_ => absurd c_ (by decide))
            refine lv_iload hx hb dX6_fewest_169 (lv_at hl 6 rfl) ?_
            refine lv_istore (lv' := [(5, .int x5), (7, .int (0 : Int32)), (0, .ref h6), (1, .int x1), (2, .int x2), (3, .int x3), (4, .int x4), (6, .int x6)]) hx hb dX6_fewest_171 hl (by decide) rfl (fun ls hl => ?_)
            refine lv_iinc (v := (x6 + (1 : Int32))) (lv' := [(6, .int (x6 + (1 : Int32))), (5, .int x5), (7, .int (0 : Int32)), (0, .ref h6), (1, .int x1), (2, .int x2), (3, .int x3), (4, .int x4)]) hx hb dX6_fewest_173 hl (k := 7) rfl rfl (by decide) rfl (fun ls hl => ?_)
            refine lv_goto (tgt := 11) hx hb dX6_fewest_176 (by decide) ?_
            exact ih h hP hD hS (lv_sub hl [3, 4, 5, 6, 7, 1, 0] rfl)
          · have h := h.1 c_59
            refine lv_iconst (v := 1) hx hb dX6_fewest_128 (by decide) ?_
            refine lv_goto (tgt := 133) hx hb dX6_fewest_129 (by decide) ?_
            refine lv_istore (lv' := [(7, .int (1 : Int32)), (0, .ref h6), (1, .int x1), (2, .int x2), (3, .int x3), (4, .int x4), (5, .int x5), (6, .int x6)]) hx hb dX6_fewest_133 hl (by decide) rfl (fun ls hl => ?_)
            refine lv_aload_n hx hb dX6_fewest_135 rfl (lv_at hl 1 rfl) ?_
            refine k0V_v (As := []) (n := 0) ⟨hx, hb, hml, hown, hts⟩ hK hP hD hS hA (c_X6_lets l D cI cC cQ h6 a_mt a_mo a_md a_mb a_ms a_mp a_mi a_mn a_mh a_mg a_mr a_mx mt my mo md mb ms_49 mp mk mi mq mn mz ma mh_50 mg mr mx  _ h) gX6_fewest_X6_lets rfl rfl ⟨rfl, rfl⟩ yoX6_lets ⟨Nat.le_of_ble_eq_true rfl, Nat.le_of_ble_eq_true rfl⟩ (q0 := 0) (ci := 6) rfl rfl rfl rfl hl.1 rfl (Nat.le_of_ble_eq_true rfl) dX6_fewest_136 ⟨Nat.zero_le _, Nat.zero_le _⟩ (fun ms_61 H locs h hP hD hS => ?_)
            have hP : va_P D vwCl [(h6, .inr (6, [.ref a_mt, .int my, .ref a_mo, .ref a_md, .ref a_mb, .ref a_ms, .ref a_mp, .int mk, .ref a_mi, .int mq, .ref a_mn, .int mz, .int ma, .ref a_mh, .ref a_mg, .ref a_mr, .ref a_mx])), (a_mt, .inl (cI, 200, .inl mt)), (a_mo, .inl (cI, 16, .inl mo)), (a_md, .inl (cI, 16, .inl md)), (a_mb, .inl (cI, 56, .inl mb)), (a_ms, .inl (cI, 56, .inl ms_61)), (a_mp, .inl (cI, 448, .inl mp)), (a_mi, .inl (cI, 112, .inl mi)), (a_mn, .inl (cI, 12, .inl mn)), (a_mh, .inl (cI, 42, .inl mh_50)), (a_mg, .inl (cI, 56, .inl mg)), (a_mr, .inl (cI, 6, .inl mr)), (a_mx, .inl (cI, 6, .inl mx))] H := hP
            have hD : va_D A [(h6, .inr (6, [.ref a_mt, .int my, .ref a_mo, .ref a_md, .ref a_mb, .ref a_ms, .ref a_mp, .int mk, .ref a_mi, .int mq, .ref a_mn, .int mz, .int ma, .ref a_mh, .ref a_mg, .ref a_mr, .ref a_mx])), (a_mt, .inl (cI, 200, .inl mt)), (a_mo, .inl (cI, 16, .inl mo)), (a_md, .inl (cI, 16, .inl md)), (a_mb, .inl (cI, 56, .inl mb)), (a_ms, .inl (cI, 56, .inl ms_61)), (a_mp, .inl (cI, 448, .inl mp)), (a_mi, .inl (cI, 112, .inl mi)), (a_mn, .inl (cI, 12, .inl mn)), (a_mh, .inl (cI, 42, .inl mh_50)), (a_mg, .inl (cI, 56, .inl mg)), (a_mr, .inl (cI, 6, .inl mr)), (a_mx, .inl (cI, 6, .inl mx))] := hD
            refine lv_iload hx hb dX6_fewest_139 (lv_at hl 0 rfl) ?_
            refine lv_if_eq (tgt := 169) hx hb dX6_fewest_141 (by decide) (fun c_ => absurd c_ (by decide)) (fun _ => ?_)
            refine lv_iload hx hb dX6_fewest_144 (lv_at hl 6 rfl) ?_
            refine lv_bipush (v := -4) hx hb dX6_fewest_146 (by decide) ?_
            refine lv_icmp_eq (tgt := 164) hx hb dX6_fewest_148 (by decide) (fun c_62 => ?_) (fun c_62 => ?_)
            · have h := h.1 c_62
              refine lv_iload hx hb dX6_fewest_164 (lv_at hl 7 rfl) ?_
              refine lv_goto (tgt := 171) hx hb dX6_fewest_166 (by decide) ?_
              refine lv_istore (lv' := [(5, .int x6), (7, .int (1 : Int32)), (0, .ref h6), (1, .int x1), (2, .int x2), (3, .int x3), (4, .int x4), (6, .int x6)]) hx hb dX6_fewest_171 hl (by decide) rfl (fun ls hl => ?_)
              refine lv_iinc (v := (x6 + (1 : Int32))) (lv' := [(6, .int (x6 + (1 : Int32))), (5, .int x6), (7, .int (1 : Int32)), (0, .ref h6), (1, .int x1), (2, .int x2), (3, .int x3), (4, .int x4)]) hx hb dX6_fewest_173 hl (k := 7) rfl rfl (by decide) rfl (fun ls hl => ?_)
              refine lv_goto (tgt := 11) hx hb dX6_fewest_176 (by decide) ?_
              exact ih h hP hD hS (lv_sub hl [3, 4, 5, 6, 7, 1, 0] rfl)
            · have h := h.2 c_62
              refine lv_iload hx hb dX6_fewest_151 (lv_at hl 7 rfl) ?_
              refine kS_i (wr := [(h6, .inr (6, [.ref a_mt, .int my, .ref a_mo, .ref a_md, .ref a_mb, .ref a_ms, .ref a_mp, .int mk, .ref a_mi, .int mq, .ref a_mn, .int mz, .int ma, .ref a_mh, .ref a_mg, .ref a_mr, .ref a_mx])), (a_mt, .inl (cI, 200, .inl mt)), (a_mo, .inl (cI, 16, .inl mo)), (a_md, .inl (cI, 16, .inl md)), (a_mb, .inl (cI, 56, .inl mb)), (a_ms, .inl (cI, 56, .inl ms_61)), (a_mp, .inl (cI, 448, .inl mp)), (a_mi, .inl (cI, 112, .inl mi)), (a_mn, .inl (cI, 12, .inl mn)), (a_mh, .inl (cI, 42, .inl mh_50)), (a_mg, .inl (cI, 56, .inl mg)), (a_mr, .inl (cI, 6, .inl mr)), (a_mx, .inl (cI, 6, .inl mx))]) (As := [.int x6]) (n := 1) ⟨hx, hb, hml, hown, hts⟩ hK hP hD hS hA (c_X6_ones l D cI cC cQ   x6 _ h) gX6_fewest_X6_ones rfl ⟨rfl, rfl⟩ yoX6_ones ⟨Nat.le_of_ble_eq_true rfl, Nat.le_of_ble_eq_true rfl⟩ rfl hl.1 rfl (Nat.le_of_ble_eq_true rfl) dX6_fewest_153 ⟨Nat.zero_le _, Nat.zero_le _⟩ [] [0, 1, 2, 3, 4, 5, 6, 7, 8, 9, 10, 11, 12] rfl (by decide) rfl (by decide) (by decide) (fun r_63 u H locs h hP hD hS => ?_)
              have hP : va_P D vwCl [(h6, .inr (6, [.ref a_mt, .int my, .ref a_mo, .ref a_md, .ref a_mb, .ref a_ms, .ref a_mp, .int mk, .ref a_mi, .int mq, .ref a_mn, .int mz, .int ma, .ref a_mh, .ref a_mg, .ref a_mr, .ref a_mx])), (a_mt, .inl (cI, 200, .inl mt)), (a_mo, .inl (cI, 16, .inl mo)), (a_md, .inl (cI, 16, .inl md)), (a_mb, .inl (cI, 56, .inl mb)), (a_ms, .inl (cI, 56, .inl ms_61)), (a_mp, .inl (cI, 448, .inl mp)), (a_mi, .inl (cI, 112, .inl mi)), (a_mn, .inl (cI, 12, .inl mn)), (a_mh, .inl (cI, 42, .inl mh_50)), (a_mg, .inl (cI, 56, .inl mg)), (a_mr, .inl (cI, 6, .inl mr)), (a_mx, .inl (cI, 6, .inl mx))] H := hP
              have hD : va_D A [(h6, .inr (6, [.ref a_mt, .int my, .ref a_mo, .ref a_md, .ref a_mb, .ref a_ms, .ref a_mp, .int mk, .ref a_mi, .int mq, .ref a_mn, .int mz, .int ma, .ref a_mh, .ref a_mg, .ref a_mr, .ref a_mx])), (a_mt, .inl (cI, 200, .inl mt)), (a_mo, .inl (cI, 16, .inl mo)), (a_md, .inl (cI, 16, .inl md)), (a_mb, .inl (cI, 56, .inl mb)), (a_ms, .inl (cI, 56, .inl ms_61)), (a_mp, .inl (cI, 448, .inl mp)), (a_mi, .inl (cI, 112, .inl mi)), (a_mn, .inl (cI, 12, .inl mn)), (a_mh, .inl (cI, 42, .inl mh_50)), (a_mg, .inl (cI, 56, .inl mg)), (a_mr, .inl (cI, 6, .inl mr)), (a_mx, .inl (cI, 6, .inl mx))] := hD
              refine lv_iload hx hb dX6_fewest_156 (lv_at hl 6 rfl) ?_
              refine kS_i (wr := [(h6, .inr (6, [.ref a_mt, .int my, .ref a_mo, .ref a_md, .ref a_mb, .ref a_ms, .ref a_mp, .int mk, .ref a_mi, .int mq, .ref a_mn, .int mz, .int ma, .ref a_mh, .ref a_mg, .ref a_mr, .ref a_mx])), (a_mt, .inl (cI, 200, .inl mt)), (a_mo, .inl (cI, 16, .inl mo)), (a_md, .inl (cI, 16, .inl md)), (a_mb, .inl (cI, 56, .inl mb)), (a_ms, .inl (cI, 56, .inl ms_61)), (a_mp, .inl (cI, 448, .inl mp)), (a_mi, .inl (cI, 112, .inl mi)), (a_mn, .inl (cI, 12, .inl mn)), (a_mh, .inl (cI, 42, .inl mh_50)), (a_mg, .inl (cI, 56, .inl mg)), (a_mr, .inl (cI, 6, .inl mr)), (a_mx, .inl (cI, 6, .inl mx))]) (As := [.int x5]) (n := 1) ⟨hx, hb, hml, hown, hts⟩ hK hP hD hS hA (c_X6_ones l D cI cC cQ   x5 _ h) gX6_fewest_X6_ones rfl ⟨rfl, rfl⟩ yoX6_ones ⟨Nat.le_of_ble_eq_true rfl, Nat.le_of_ble_eq_true rfl⟩ rfl hl.1 rfl (Nat.le_of_ble_eq_true rfl) dX6_fewest_158 ⟨Nat.zero_le _, Nat.zero_le _⟩ [] [0, 1, 2, 3, 4, 5, 6, 7, 8, 9, 10, 11, 12] rfl (by decide) rfl (by decide) (by decide) (fun r_64 u H locs h hP hD hS => ?_)
              have hP : va_P D vwCl [(h6, .inr (6, [.ref a_mt, .int my, .ref a_mo, .ref a_md, .ref a_mb, .ref a_ms, .ref a_mp, .int mk, .ref a_mi, .int mq, .ref a_mn, .int mz, .int ma, .ref a_mh, .ref a_mg, .ref a_mr, .ref a_mx])), (a_mt, .inl (cI, 200, .inl mt)), (a_mo, .inl (cI, 16, .inl mo)), (a_md, .inl (cI, 16, .inl md)), (a_mb, .inl (cI, 56, .inl mb)), (a_ms, .inl (cI, 56, .inl ms_61)), (a_mp, .inl (cI, 448, .inl mp)), (a_mi, .inl (cI, 112, .inl mi)), (a_mn, .inl (cI, 12, .inl mn)), (a_mh, .inl (cI, 42, .inl mh_50)), (a_mg, .inl (cI, 56, .inl mg)), (a_mr, .inl (cI, 6, .inl mr)), (a_mx, .inl (cI, 6, .inl mx))] H := hP
              have hD : va_D A [(h6, .inr (6, [.ref a_mt, .int my, .ref a_mo, .ref a_md, .ref a_mb, .ref a_ms, .ref a_mp, .int mk, .ref a_mi, .int mq, .ref a_mn, .int mz, .int ma, .ref a_mh, .ref a_mg, .ref a_mr, .ref a_mx])), (a_mt, .inl (cI, 200, .inl mt)), (a_mo, .inl (cI, 16, .inl mo)), (a_md, .inl (cI, 16, .inl md)), (a_mb, .inl (cI, 56, .inl mb)), (a_ms, .inl (cI, 56, .inl ms_61)), (a_mp, .inl (cI, 448, .inl mp)), (a_mi, .inl (cI, 112, .inl mi)), (a_mn, .inl (cI, 12, .inl mn)), (a_mh, .inl (cI, 42, .inl mh_50)), (a_mg, .inl (cI, 56, .inl mg)), (a_mr, .inl (cI, 6, .inl mr)), (a_mx, .inl (cI, 6, .inl mx))] := hD
              refine lv_icmp_ge (tgt := 169) hx hb dX6_fewest_161 (by decide) (fun c_65 => ?_) (fun c_65 => ?_)
              · have h := h.1 c_65
                refine lv_iload hx hb dX6_fewest_169 (lv_at hl 6 rfl) ?_
                refine lv_istore (lv' := [(5, .int x5), (7, .int (1 : Int32)), (0, .ref h6), (1, .int x1), (2, .int x2), (3, .int x3), (4, .int x4), (6, .int x6)]) hx hb dX6_fewest_171 hl (by decide) rfl (fun ls hl => ?_)
                refine lv_iinc (v := (x6 + (1 : Int32))) (lv' := [(6, .int (x6 + (1 : Int32))), (5, .int x5), (7, .int (1 : Int32)), (0, .ref h6), (1, .int x1), (2, .int x2), (3, .int x3), (4, .int x4)]) hx hb dX6_fewest_173 hl (k := 7) rfl rfl (by decide) rfl (fun ls hl => ?_)
                refine lv_goto (tgt := 11) hx hb dX6_fewest_176 (by decide) ?_
                exact ih h hP hD hS (lv_sub hl [3, 4, 5, 6, 7, 1, 0] rfl)
              · have h := h.2 c_65
                refine lv_iload hx hb dX6_fewest_164 (lv_at hl 7 rfl) ?_
                refine lv_goto (tgt := 171) hx hb dX6_fewest_166 (by decide) ?_
                refine lv_istore (lv' := [(5, .int x6), (7, .int (1 : Int32)), (0, .ref h6), (1, .int x1), (2, .int x2), (3, .int x3), (4, .int x4), (6, .int x6)]) hx hb dX6_fewest_171 hl (by decide) rfl (fun ls hl => ?_)
                refine lv_iinc (v := (x6 + (1 : Int32))) (lv' := [(6, .int (x6 + (1 : Int32))), (5, .int x6), (7, .int (1 : Int32)), (0, .ref h6), (1, .int x1), (2, .int x2), (3, .int x3), (4, .int x4)]) hx hb dX6_fewest_173 hl (k := 7) rfl rfl (by decide) rfl (fun ls hl => ?_)
                refine lv_goto (tgt := 11) hx hb dX6_fewest_176 (by decide) ?_
                exact ih h hP hD hS (lv_sub hl [3, 4, 5, 6, 7, 1, 0] rfl)
  refine lv_aload_n hx hb dX6_fewest_0 rfl (lv_at hl 0 rfl) ?_
  refine k0V_v (As := []) (n := 0) ⟨hx, hb, hml, hown, hts⟩ hK hP hD hS hA (c_X6_holds l D cI cC cQ h6 a_mt a_mo a_md a_mb a_ms a_mp a_mi a_mn a_mh a_mg a_mr a_mx mt my mo md mb ms mp mk mi mq mn mz ma mh mg mr mx  _ h) gX6_fewest_X6_holds rfl rfl ⟨rfl, rfl⟩ yoX6_holds ⟨Nat.le_of_ble_eq_true rfl, Nat.le_of_ble_eq_true rfl⟩ (q0 := 0) (ci := 6) rfl rfl rfl rfl hl.1 rfl (Nat.le_of_ble_eq_true rfl) dX6_fewest_1 ⟨Nat.zero_le _, Nat.zero_le _⟩ (fun mg_1 H locs h hP hD hS => ?_)
  have hP : va_P D vwCl [(h6, .inr (6, [.ref a_mt, .int my, .ref a_mo, .ref a_md, .ref a_mb, .ref a_ms, .ref a_mp, .int mk, .ref a_mi, .int mq, .ref a_mn, .int mz, .int ma, .ref a_mh, .ref a_mg, .ref a_mr, .ref a_mx])), (a_mt, .inl (cI, 200, .inl mt)), (a_mo, .inl (cI, 16, .inl mo)), (a_md, .inl (cI, 16, .inl md)), (a_mb, .inl (cI, 56, .inl mb)), (a_ms, .inl (cI, 56, .inl ms)), (a_mp, .inl (cI, 448, .inl mp)), (a_mi, .inl (cI, 112, .inl mi)), (a_mn, .inl (cI, 12, .inl mn)), (a_mh, .inl (cI, 42, .inl mh)), (a_mg, .inl (cI, 56, .inl mg_1)), (a_mr, .inl (cI, 6, .inl mr)), (a_mx, .inl (cI, 6, .inl mx))] H := hP
  have hD : va_D A [(h6, .inr (6, [.ref a_mt, .int my, .ref a_mo, .ref a_md, .ref a_mb, .ref a_ms, .ref a_mp, .int mk, .ref a_mi, .int mq, .ref a_mn, .int mz, .int ma, .ref a_mh, .ref a_mg, .ref a_mr, .ref a_mx])), (a_mt, .inl (cI, 200, .inl mt)), (a_mo, .inl (cI, 16, .inl mo)), (a_md, .inl (cI, 16, .inl md)), (a_mb, .inl (cI, 56, .inl mb)), (a_ms, .inl (cI, 56, .inl ms)), (a_mp, .inl (cI, 448, .inl mp)), (a_mi, .inl (cI, 112, .inl mi)), (a_mn, .inl (cI, 12, .inl mn)), (a_mh, .inl (cI, 42, .inl mh)), (a_mg, .inl (cI, 56, .inl mg_1)), (a_mr, .inl (cI, 6, .inl mr)), (a_mx, .inl (cI, 6, .inl mx))] := hD
  refine lv_bipush (v := -4) hx hb dX6_fewest_4 (by decide) ?_
  refine lv_istore (lv' := [(5, .int (-4 : Int32)), (0, .ref h6), (1, .int x1), (2, .int x2), (3, .int x3), (4, .int x4)]) hx hb dX6_fewest_6 hl (by decide) rfl (fun ls hl => ?_)
  refine lv_iconst (v := 0) hx hb dX6_fewest_8 (by decide) ?_
  refine lv_istore (lv' := [(6, .int (0 : Int32)), (5, .int (-4 : Int32)), (0, .ref h6), (1, .int x1), (2, .int x2), (3, .int x3), (4, .int x4)]) hx hb dX6_fewest_9 hl (by decide) rfl (fun ls hl => ?_)
  obtain ⟨n_68, h⟩ := h
  exact L11 n_68 h hP hD hS (lv_sub hl [2, 3, 4, 5, 6, 1, 0] rfl)

/-! DoubtCourtModel.likewise -/
abbrev rmX6_likewise : Room := { frames := 4, cells := 0, slots := 0, locals := 101 }
theorem yoX6_likewise : yX6_likewise.cls ≠ "java/lang/invoke/MethodHandle" ∧ yX6_likewise.cls ≠ "java/lang/invoke/VarHandle" ∧ (parseMethodDescriptor yX6_likewise.desc).map (fun d => d.parameters.length) = some 5 := by decide +kernel
set_option maxHeartbeats 4000000 in
set_option maxRecDepth 100000 in
theorem c_X6_likewise (l : Launch) (D : va_G) (cI cC cQ : ClassId) (h6 : Nat) (a_mt : Nat) (a_mo : Nat) (a_md : Nat) (a_mb : Nat) (a_ms : Nat) (a_mp : Nat) (a_mi : Nat) (a_mn : Nat) (a_mh : Nat) (a_mg : Nat) (a_mr : Nat) (a_mx : Nat) (mt : Nat → Int32) (my : Int32) (mo : Nat → Int32) (md : Nat → Int32) (mb : Nat → Int32) (ms : Nat → Int32) (mp : Nat → Int32) (mk : Int32) (mi : Nat → Int32) (mq : Int32) (mn : Nat → Int32) (mz : Int32) (ma : Int32) (mh : Nat → Int32) (mg : Nat → Int32) (mr : Nat → Int32) (mx : Nat → Int32) (x1 : Int32) (x2 : Int32) (x3 : Int32) (x4 : Int32) (x5 : Int32) (Q : Int32 → (Nat → Int32) → (Nat → Int32) → (Nat → Int32) → Prop) (h : wX6_likewise x1 x2 x3 x4 x5 mo ms mh mg Q) : Ci (S := (Nat → Int32) × (Nat → Int32) × (Nat → Int32)) l D cI cC cQ yX6_likewise wsX6_likewise rmX6_likewise [.ref h6, .int x1, .int x2, .int x3, .int x4, .int x5] [(h6, .inr (6, [.ref a_mt, .int my, .ref a_mo, .ref a_md, .ref a_mb, .ref a_ms, .ref a_mp, .int mk, .ref a_mi, .int mq, .ref a_mn, .int mz, .int ma, .ref a_mh, .ref a_mg, .ref a_mr, .ref a_mx])), (a_mt, .inl (cI, 200, .inl mt)), (a_mo, .inl (cI, 16, .inl mo)), (a_md, .inl (cI, 16, .inl md)), (a_mb, .inl (cI, 56, .inl mb)), (a_ms, .inl (cI, 56, .inl ms)), (a_mp, .inl (cI, 448, .inl mp)), (a_mi, .inl (cI, 112, .inl mi)), (a_mn, .inl (cI, 12, .inl mn)), (a_mh, .inl (cI, 42, .inl mh)), (a_mg, .inl (cI, 56, .inl mg)), (a_mr, .inl (cI, 6, .inl mr)), (a_mx, .inl (cI, 6, .inl mx))] (fun u => [(h6, .inr (6, [.ref a_mt, .int my, .ref a_mo, .ref a_md, .ref a_mb, .ref a_ms, .ref a_mp, .int mk, .ref a_mi, .int mq, .ref a_mn, .int mz, .int ma, .ref a_mh, .ref a_mg, .ref a_mr, .ref a_mx])), (a_mt, .inl (cI, 200, .inl mt)), (a_mo, .inl (cI, 16, .inl mo)), (a_md, .inl (cI, 16, .inl md)), (a_mb, .inl (cI, 56, .inl mb)), (a_ms, .inl (cI, 56, .inl u.1)), (a_mp, .inl (cI, 448, .inl mp)), (a_mi, .inl (cI, 112, .inl mi)), (a_mn, .inl (cI, 12, .inl mn)), (a_mh, .inl (cI, 42, .inl u.2.1)), (a_mg, .inl (cI, 56, .inl u.2.2)), (a_mr, .inl (cI, 6, .inl mr)), (a_mx, .inl (cI, 6, .inl mx))]) (fun r u => Q r u.1 u.2.1 u.2.2) := by
  refine Ci_mk (cc := cX6_likewise) (maxL := 7) (by decide) rfl (Nat.le_of_ble_eq_true rfl) ?_
  intro p e s m args below meth c A Z ls hx hb hml hown hts hK hA hP hD hret hl
  have hS : va_S A s.heap s.heap [] := va_S.rf
  have hin6 : ∀ w ∈ u_ws RX6 TX6 17, w ∈ wsX6_likewise := by decide +kernel
  have k_0 := hts (.fieldLink RX6 22 "DoubtCourtModel" "s" "[I") (by decide +kernel)
  have hl : lv_has ls 7 [(0, .ref h6), (1, .int x1), (2, .int x2), (3, .int x3), (4, .int x4), (5, .int x5)] := hl
  refine lv_aload_n hx hb dX6_likewise_0 rfl (lv_at hl 0 rfl) ?_
  refine lv_iload_n hx hb dX6_likewise_1 rfl (lv_at hl 1 rfl) ?_
  refine k0V_i (As := [.int x1]) (n := 1) ⟨hx, hb, hml, hown, hts⟩ hK hP hD hS hA (c_X6_isNews l D cI cC cQ h6 a_mt a_mo a_md a_mb a_ms a_mp a_mi a_mn a_mh a_mg a_mr a_mx mt my mo md mb ms mp mk mi mq mn mz ma mh mg mr mx x1 _ h) gX6_likewise_X6_isNews rfl rfl ⟨rfl, rfl⟩ yoX6_isNews ⟨Nat.le_of_ble_eq_true rfl, Nat.le_of_ble_eq_true rfl⟩ (q0 := 0) (ci := 6) rfl rfl rfl rfl hl.1 rfl (Nat.le_of_ble_eq_true rfl) dX6_likewise_2 ⟨Nat.zero_le _, Nat.zero_le _⟩ (fun r_1 u H locs h hP hD hS => ?_)
  obtain ⟨b_2, h⟩ := h
  refine lv_if_eq (tgt := 27) hx hb dX6_likewise_5 (by decide) (fun c_3 => ?_) (fun c_3 => ?_)
  · have h := h.1 c_3
    refine lv_iconst (v := -1) hx hb dX6_likewise_27 (by decide) ?_
    exact hret (-1 : Int32) (ms, mh, mg) _ _ _ ls h hP hD hS dX6_likewise_28
  · have h := h.2 c_3
    refine lv_iload_n hx hb dX6_likewise_8 rfl (lv_at hl 2 rfl) ?_
    refine lv_iconst (v := 1) hx hb dX6_likewise_9 (by decide) ?_
    refine lv_bipush (v := 20) hx hb dX6_likewise_10 (by decide) ?_
    refine kS_i (wr := [(h6, .inr (6, [.ref a_mt, .int my, .ref a_mo, .ref a_md, .ref a_mb, .ref a_ms, .ref a_mp, .int mk, .ref a_mi, .int mq, .ref a_mn, .int mz, .int ma, .ref a_mh, .ref a_mg, .ref a_mr, .ref a_mx])), (a_mt, .inl (cI, 200, .inl mt)), (a_mo, .inl (cI, 16, .inl mo)), (a_md, .inl (cI, 16, .inl md)), (a_mb, .inl (cI, 56, .inl mb)), (a_ms, .inl (cI, 56, .inl ms)), (a_mp, .inl (cI, 448, .inl mp)), (a_mi, .inl (cI, 112, .inl mi)), (a_mn, .inl (cI, 12, .inl mn)), (a_mh, .inl (cI, 42, .inl mh)), (a_mg, .inl (cI, 56, .inl mg)), (a_mr, .inl (cI, 6, .inl mr)), (a_mx, .inl (cI, 6, .inl mx))]) (As := [.int x2, .int (1 : Int32), .int (20 : Int32)]) (n := 3) ⟨hx, hb, hml, hown, hts⟩ hK hP hD hS hA (c_X6_in l D cI cC cQ   x2 (1 : Int32) (20 : Int32) _ h) gX6_likewise_X6_in rfl ⟨rfl, rfl⟩ yoX6_in ⟨Nat.le_of_ble_eq_true rfl, Nat.le_of_ble_eq_true rfl⟩ rfl hl.1 rfl (Nat.le_of_ble_eq_true rfl) dX6_likewise_12 ⟨Nat.zero_le _, Nat.zero_le _⟩ [] [0, 1, 2, 3, 4, 5, 6, 7, 8, 9, 10, 11, 12] rfl (by decide) rfl (by decide) (by decide) (fun r_4 u H locs h hP hD hS => ?_)
    have hP : va_P D vwCl [(h6, .inr (6, [.ref a_mt, .int my, .ref a_mo, .ref a_md, .ref a_mb, .ref a_ms, .ref a_mp, .int mk, .ref a_mi, .int mq, .ref a_mn, .int mz, .int ma, .ref a_mh, .ref a_mg, .ref a_mr, .ref a_mx])), (a_mt, .inl (cI, 200, .inl mt)), (a_mo, .inl (cI, 16, .inl mo)), (a_md, .inl (cI, 16, .inl md)), (a_mb, .inl (cI, 56, .inl mb)), (a_ms, .inl (cI, 56, .inl ms)), (a_mp, .inl (cI, 448, .inl mp)), (a_mi, .inl (cI, 112, .inl mi)), (a_mn, .inl (cI, 12, .inl mn)), (a_mh, .inl (cI, 42, .inl mh)), (a_mg, .inl (cI, 56, .inl mg)), (a_mr, .inl (cI, 6, .inl mr)), (a_mx, .inl (cI, 6, .inl mx))] H := hP
    have hD : va_D A [(h6, .inr (6, [.ref a_mt, .int my, .ref a_mo, .ref a_md, .ref a_mb, .ref a_ms, .ref a_mp, .int mk, .ref a_mi, .int mq, .ref a_mn, .int mz, .int ma, .ref a_mh, .ref a_mg, .ref a_mr, .ref a_mx])), (a_mt, .inl (cI, 200, .inl mt)), (a_mo, .inl (cI, 16, .inl mo)), (a_md, .inl (cI, 16, .inl md)), (a_mb, .inl (cI, 56, .inl mb)), (a_ms, .inl (cI, 56, .inl ms)), (a_mp, .inl (cI, 448, .inl mp)), (a_mi, .inl (cI, 112, .inl mi)), (a_mn, .inl (cI, 12, .inl mn)), (a_mh, .inl (cI, 42, .inl mh)), (a_mg, .inl (cI, 56, .inl mg)), (a_mr, .inl (cI, 6, .inl mr)), (a_mx, .inl (cI, 6, .inl mx))] := hD
    obtain ⟨b_5, h⟩ := h
    refine lv_if_eq (tgt := 27) hx hb dX6_likewise_15 (by decide) (fun c_6 => ?_) (fun c_6 => ?_)
    · have h := h.1 c_6
      refine lv_iconst (v := -1) hx hb dX6_likewise_27 (by decide) ?_
      exact hret (-1 : Int32) (ms, mh, mg) _ _ _ ls h hP hD hS dX6_likewise_28
    · have h := h.2 c_6
      refine lv_iload_n hx hb dX6_likewise_18 rfl (lv_at hl 3 rfl) ?_
      refine lv_iconst (v := 0) hx hb dX6_likewise_19 (by decide) ?_
      refine lv_iconst (v := 1) hx hb dX6_likewise_20 (by decide) ?_
      refine kS_i (wr := [(h6, .inr (6, [.ref a_mt, .int my, .ref a_mo, .ref a_md, .ref a_mb, .ref a_ms, .ref a_mp, .int mk, .ref a_mi, .int mq, .ref a_mn, .int mz, .int ma, .ref a_mh, .ref a_mg, .ref a_mr, .ref a_mx])), (a_mt, .inl (cI, 200, .inl mt)), (a_mo, .inl (cI, 16, .inl mo)), (a_md, .inl (cI, 16, .inl md)), (a_mb, .inl (cI, 56, .inl mb)), (a_ms, .inl (cI, 56, .inl ms)), (a_mp, .inl (cI, 448, .inl mp)), (a_mi, .inl (cI, 112, .inl mi)), (a_mn, .inl (cI, 12, .inl mn)), (a_mh, .inl (cI, 42, .inl mh)), (a_mg, .inl (cI, 56, .inl mg)), (a_mr, .inl (cI, 6, .inl mr)), (a_mx, .inl (cI, 6, .inl mx))]) (As := [.int x3, .int (0 : Int32), .int (1 : Int32)]) (n := 3) ⟨hx, hb, hml, hown, hts⟩ hK hP hD hS hA (c_X6_in l D cI cC cQ   x3 (0 : Int32) (1 : Int32) _ h) gX6_likewise_X6_in rfl ⟨rfl, rfl⟩ yoX6_in ⟨Nat.le_of_ble_eq_true rfl, Nat.le_of_ble_eq_true rfl⟩ rfl hl.1 rfl (Nat.le_of_ble_eq_true rfl) dX6_likewise_21 ⟨Nat.zero_le _, Nat.zero_le _⟩ [] [0, 1, 2, 3, 4, 5, 6, 7, 8, 9, 10, 11, 12] rfl (by decide) rfl (by decide) (by decide) (fun r_7 u H locs h hP hD hS => ?_)
      have hP : va_P D vwCl [(h6, .inr (6, [.ref a_mt, .int my, .ref a_mo, .ref a_md, .ref a_mb, .ref a_ms, .ref a_mp, .int mk, .ref a_mi, .int mq, .ref a_mn, .int mz, .int ma, .ref a_mh, .ref a_mg, .ref a_mr, .ref a_mx])), (a_mt, .inl (cI, 200, .inl mt)), (a_mo, .inl (cI, 16, .inl mo)), (a_md, .inl (cI, 16, .inl md)), (a_mb, .inl (cI, 56, .inl mb)), (a_ms, .inl (cI, 56, .inl ms)), (a_mp, .inl (cI, 448, .inl mp)), (a_mi, .inl (cI, 112, .inl mi)), (a_mn, .inl (cI, 12, .inl mn)), (a_mh, .inl (cI, 42, .inl mh)), (a_mg, .inl (cI, 56, .inl mg)), (a_mr, .inl (cI, 6, .inl mr)), (a_mx, .inl (cI, 6, .inl mx))] H := hP
      have hD : va_D A [(h6, .inr (6, [.ref a_mt, .int my, .ref a_mo, .ref a_md, .ref a_mb, .ref a_ms, .ref a_mp, .int mk, .ref a_mi, .int mq, .ref a_mn, .int mz, .int ma, .ref a_mh, .ref a_mg, .ref a_mr, .ref a_mx])), (a_mt, .inl (cI, 200, .inl mt)), (a_mo, .inl (cI, 16, .inl mo)), (a_md, .inl (cI, 16, .inl md)), (a_mb, .inl (cI, 56, .inl mb)), (a_ms, .inl (cI, 56, .inl ms)), (a_mp, .inl (cI, 448, .inl mp)), (a_mi, .inl (cI, 112, .inl mi)), (a_mn, .inl (cI, 12, .inl mn)), (a_mh, .inl (cI, 42, .inl mh)), (a_mg, .inl (cI, 56, .inl mg)), (a_mr, .inl (cI, 6, .inl mr)), (a_mx, .inl (cI, 6, .inl mx))] := hD
      obtain ⟨b_8, h⟩ := h
      refine lv_if_ne (tgt := 29) hx hb dX6_likewise_24 (by decide) (fun c_9 => ?_) (fun c_9 => ?_)
      · have h := h.2 c_9
        refine lv_aload_n hx hb dX6_likewise_29 rfl (lv_at hl 0 rfl) ?_
        refine va_get (D := D) (ci := 6) (v := .ref a_ms) (C := RX6) (T := TX6) (N := 17) hx hb hts hin6 hown hK.1 hP 0 rfl rfl 5 (by decide) (k_0) (fun _ h9 => h9) rfl dX6_likewise_30 ?_
        refine lv_bipush (v := 8) hx hb dX6_likewise_33 (by decide) ?_
        refine lv_iload_n hx hb dX6_likewise_35 rfl (lv_at hl 1 rfl) ?_
        refine lv_iadd hx hb dX6_likewise_36 ?_
        refine z_iald (k := ((8 : Int32) + x1).toNatClampNeg) hx hb hK.1 hP 5 rfl rfl h.1 dX6_likewise_37 ?_
        have h := h.2
        refine lv_bipush (v := 9) hx hb dX6_likewise_38 (by decide) ?_
        refine lv_icmp_ne (tgt := 46) hx hb dX6_likewise_40 (by decide) (fun c_10 => ?_) (fun c_10 => ?_)
        · have h := h.2 c_10
          refine lv_aload_n hx hb dX6_likewise_46 rfl (lv_at hl 0 rfl) ?_
          refine lv_iload_n hx hb dX6_likewise_47 rfl (lv_at hl 1 rfl) ?_
          refine lv_iload_n hx hb dX6_likewise_48 rfl (lv_at hl 2 rfl) ?_
          refine lv_iload hx hb dX6_likewise_49 (lv_at hl 4 rfl) ?_
          refine lv_iload hx hb dX6_likewise_51 (lv_at hl 5 rfl) ?_
          refine k0V_i (As := [.int x1, .int x2, .int x4, .int x5]) (n := 4) ⟨hx, hb, hml, hown, hts⟩ hK hP hD hS hA (c_X6_fewest l D cI cC cQ h6 a_mt a_mo a_md a_mb a_ms a_mp a_mi a_mn a_mh a_mg a_mr a_mx mt my mo md mb ms mp mk mi mq mn mz ma mh mg mr mx x1 x2 x4 x5 _ h) gX6_likewise_X6_fewest rfl rfl ⟨rfl, rfl⟩ yoX6_fewest ⟨Nat.le_of_ble_eq_true rfl, Nat.le_of_ble_eq_true rfl⟩ (q0 := 0) (ci := 6) rfl rfl rfl rfl hl.1 rfl (Nat.le_of_ble_eq_true rfl) dX6_likewise_53 ⟨Nat.zero_le _, Nat.zero_le _⟩ (fun r_11 u H locs h hP hD hS => ?_)
          obtain ⟨ms_12, mh_13, mg_14⟩ := u
          have hP : va_P D vwCl [(h6, .inr (6, [.ref a_mt, .int my, .ref a_mo, .ref a_md, .ref a_mb, .ref a_ms, .ref a_mp, .int mk, .ref a_mi, .int mq, .ref a_mn, .int mz, .int ma, .ref a_mh, .ref a_mg, .ref a_mr, .ref a_mx])), (a_mt, .inl (cI, 200, .inl mt)), (a_mo, .inl (cI, 16, .inl mo)), (a_md, .inl (cI, 16, .inl md)), (a_mb, .inl (cI, 56, .inl mb)), (a_ms, .inl (cI, 56, .inl ms_12)), (a_mp, .inl (cI, 448, .inl mp)), (a_mi, .inl (cI, 112, .inl mi)), (a_mn, .inl (cI, 12, .inl mn)), (a_mh, .inl (cI, 42, .inl mh_13)), (a_mg, .inl (cI, 56, .inl mg_14)), (a_mr, .inl (cI, 6, .inl mr)), (a_mx, .inl (cI, 6, .inl mx))] H := hP
          have hD : va_D A [(h6, .inr (6, [.ref a_mt, .int my, .ref a_mo, .ref a_md, .ref a_mb, .ref a_ms, .ref a_mp, .int mk, .ref a_mi, .int mq, .ref a_mn, .int mz, .int ma, .ref a_mh, .ref a_mg, .ref a_mr, .ref a_mx])), (a_mt, .inl (cI, 200, .inl mt)), (a_mo, .inl (cI, 16, .inl mo)), (a_md, .inl (cI, 16, .inl md)), (a_mb, .inl (cI, 56, .inl mb)), (a_ms, .inl (cI, 56, .inl ms_12)), (a_mp, .inl (cI, 448, .inl mp)), (a_mi, .inl (cI, 112, .inl mi)), (a_mn, .inl (cI, 12, .inl mn)), (a_mh, .inl (cI, 42, .inl mh_13)), (a_mg, .inl (cI, 56, .inl mg_14)), (a_mr, .inl (cI, 6, .inl mr)), (a_mx, .inl (cI, 6, .inl mx))] := hD
          refine lv_istore (lv' := [(6, .int r_11), (0, .ref h6), (1, .int x1), (2, .int x2), (3, .int x3), (4, .int x4), (5, .int x5)]) hx hb dX6_likewise_56 hl (by decide) rfl (fun ls hl => ?_)
          refine lv_iload hx hb dX6_likewise_58 (lv_at hl 0 rfl) ?_
          refine lv_bipush (v := -4) hx hb dX6_likewise_60 (by decide) ?_
          refine lv_icmp_eq (tgt := 70) hx hb dX6_likewise_62 (by decide) (fun c_15 => ?_) (fun c_15 => ?_)
          · have h := h.1 c_15
            refine lv_iload hx hb dX6_likewise_70 (lv_at hl 0 rfl) ?_
            refine lv_goto (tgt := 80) hx hb dX6_likewise_72 (by decide) ?_
            exact hret r_11 (ms_12, mh_13, mg_14) _ _ _ ls h hP hD hS dX6_likewise_80
          · have h := h.2 c_15
            refine lv_iload_n hx hb dX6_likewise_65 rfl (lv_at hl 4 rfl) ?_
            refine lv_iconst (v := 1) hx hb dX6_likewise_66 (by decide) ?_
            refine lv_icmp_ne (tgt := 75) hx hb dX6_likewise_67 (by decide) (fun c_16 => ?_) (fun c_16 => ?_)
            · have h := h.2 c_16
              refine lv_iload hx hb dX6_likewise_75 (lv_at hl 0 rfl) ?_
              refine kS_i (wr := [(h6, .inr (6, [.ref a_mt, .int my, .ref a_mo, .ref a_md, .ref a_mb, .ref a_ms, .ref a_mp, .int mk, .ref a_mi, .int mq, .ref a_mn, .int mz, .int ma, .ref a_mh, .ref a_mg, .ref a_mr, .ref a_mx])), (a_mt, .inl (cI, 200, .inl mt)), (a_mo, .inl (cI, 16, .inl mo)), (a_md, .inl (cI, 16, .inl md)), (a_mb, .inl (cI, 56, .inl mb)), (a_ms, .inl (cI, 56, .inl ms_12)), (a_mp, .inl (cI, 448, .inl mp)), (a_mi, .inl (cI, 112, .inl mi)), (a_mn, .inl (cI, 12, .inl mn)), (a_mh, .inl (cI, 42, .inl mh_13)), (a_mg, .inl (cI, 56, .inl mg_14)), (a_mr, .inl (cI, 6, .inl mr)), (a_mx, .inl (cI, 6, .inl mx))]) (As := [.int r_11]) (n := 1) ⟨hx, hb, hml, hown, hts⟩ hK hP hD hS hA (c_X6_ones l D cI cC cQ   r_11 _ h) gX6_likewise_X6_ones rfl ⟨rfl, rfl⟩ yoX6_ones ⟨Nat.le_of_ble_eq_true rfl, Nat.le_of_ble_eq_true rfl⟩ rfl hl.1 rfl (Nat.le_of_ble_eq_true rfl) dX6_likewise_77 ⟨Nat.zero_le _, Nat.zero_le _⟩ [] [0, 1, 2, 3, 4, 5, 6, 7, 8, 9, 10, 11, 12] rfl (by decide) rfl (by decide) (by decide) (fun r_17 u H locs h hP hD hS => ?_)
              have hP : va_P D vwCl [(h6, .inr (6, [.ref a_mt, .int my, .ref a_mo, .ref a_md, .ref a_mb, .ref a_ms, .ref a_mp, .int mk, .ref a_mi, .int mq, .ref a_mn, .int mz, .int ma, .ref a_mh, .ref a_mg, .ref a_mr, .ref a_mx])), (a_mt, .inl (cI, 200, .inl mt)), (a_mo, .inl (cI, 16, .inl mo)), (a_md, .inl (cI, 16, .inl md)), (a_mb, .inl (cI, 56, .inl mb)), (a_ms, .inl (cI, 56, .inl ms_12)), (a_mp, .inl (cI, 448, .inl mp)), (a_mi, .inl (cI, 112, .inl mi)), (a_mn, .inl (cI, 12, .inl mn)), (a_mh, .inl (cI, 42, .inl mh_13)), (a_mg, .inl (cI, 56, .inl mg_14)), (a_mr, .inl (cI, 6, .inl mr)), (a_mx, .inl (cI, 6, .inl mx))] H := hP
              have hD : va_D A [(h6, .inr (6, [.ref a_mt, .int my, .ref a_mo, .ref a_md, .ref a_mb, .ref a_ms, .ref a_mp, .int mk, .ref a_mi, .int mq, .ref a_mn, .int mz, .int ma, .ref a_mh, .ref a_mg, .ref a_mr, .ref a_mx])), (a_mt, .inl (cI, 200, .inl mt)), (a_mo, .inl (cI, 16, .inl mo)), (a_md, .inl (cI, 16, .inl md)), (a_mb, .inl (cI, 56, .inl mb)), (a_ms, .inl (cI, 56, .inl ms_12)), (a_mp, .inl (cI, 448, .inl mp)), (a_mi, .inl (cI, 112, .inl mi)), (a_mn, .inl (cI, 12, .inl mn)), (a_mh, .inl (cI, 42, .inl mh_13)), (a_mg, .inl (cI, 56, .inl mg_14)), (a_mr, .inl (cI, 6, .inl mr)), (a_mx, .inl (cI, 6, .inl mx))] := hD
              exact hret r_17 (ms_12, mh_13, mg_14) _ _ _ ls h hP hD hS dX6_likewise_80
            · have h := h.1 c_16
              refine lv_iload hx hb dX6_likewise_70 (lv_at hl 0 rfl) ?_
              refine lv_goto (tgt := 80) hx hb dX6_likewise_72 (by decide) ?_
              exact hret r_11 (ms_12, mh_13, mg_14) _ _ _ ls h hP hD hS dX6_likewise_80
        · have h := h.1 c_10
          refine lv_bipush (v := -2) hx hb dX6_likewise_43 (by decide) ?_
          exact hret (-2 : Int32) (ms, mh, mg) _ _ _ ls h hP hD hS dX6_likewise_45
      · have h := h.1 c_9
        refine lv_iconst (v := -1) hx hb dX6_likewise_27 (by decide) ?_
        exact hret (-1 : Int32) (ms, mh, mg) _ _ _ ls h hP hD hS dX6_likewise_28

/-! DoubtCourtModel.hush -/
abbrev rmX6_hush : Room := { frames := 5, cells := 0, slots := 0, locals := 127 }
theorem yoX6_hush : yX6_hush.cls ≠ "java/lang/invoke/MethodHandle" ∧ yX6_hush.cls ≠ "java/lang/invoke/VarHandle" ∧ (parseMethodDescriptor yX6_hush.desc).map (fun d => d.parameters.length) = some 3 := by decide +kernel
set_option maxHeartbeats 4000000 in
set_option maxRecDepth 100000 in
theorem c_X6_hush (l : Launch) (D : va_G) (cI cC cQ : ClassId) (h6 : Nat) (a_mt : Nat) (a_mo : Nat) (a_md : Nat) (a_mb : Nat) (a_ms : Nat) (a_mp : Nat) (a_mi : Nat) (a_mn : Nat) (a_mh : Nat) (a_mg : Nat) (a_mr : Nat) (a_mx : Nat) (mt : Nat → Int32) (my : Int32) (mo : Nat → Int32) (md : Nat → Int32) (mb : Nat → Int32) (ms : Nat → Int32) (mp : Nat → Int32) (mk : Int32) (mi : Nat → Int32) (mq : Int32) (mn : Nat → Int32) (mz : Int32) (ma : Int32) (mh : Nat → Int32) (mg : Nat → Int32) (mr : Nat → Int32) (mx : Nat → Int32) (x1 : Int32) (x2 : Int32) (x3 : Int32) (Q : Int32 → (Nat → Int32) → (Nat → Int32) → (Nat → Int32) → Prop) (h : wX6_hush x1 x2 x3 mo ms mh mg Q) : Ci (S := (Nat → Int32) × (Nat → Int32) × (Nat → Int32)) l D cI cC cQ yX6_hush wsX6_hush rmX6_hush [.ref h6, .int x1, .int x2, .int x3] [(h6, .inr (6, [.ref a_mt, .int my, .ref a_mo, .ref a_md, .ref a_mb, .ref a_ms, .ref a_mp, .int mk, .ref a_mi, .int mq, .ref a_mn, .int mz, .int ma, .ref a_mh, .ref a_mg, .ref a_mr, .ref a_mx])), (a_mt, .inl (cI, 200, .inl mt)), (a_mo, .inl (cI, 16, .inl mo)), (a_md, .inl (cI, 16, .inl md)), (a_mb, .inl (cI, 56, .inl mb)), (a_ms, .inl (cI, 56, .inl ms)), (a_mp, .inl (cI, 448, .inl mp)), (a_mi, .inl (cI, 112, .inl mi)), (a_mn, .inl (cI, 12, .inl mn)), (a_mh, .inl (cI, 42, .inl mh)), (a_mg, .inl (cI, 56, .inl mg)), (a_mr, .inl (cI, 6, .inl mr)), (a_mx, .inl (cI, 6, .inl mx))] (fun u => [(h6, .inr (6, [.ref a_mt, .int my, .ref a_mo, .ref a_md, .ref a_mb, .ref a_ms, .ref a_mp, .int mk, .ref a_mi, .int mq, .ref a_mn, .int mz, .int ma, .ref a_mh, .ref a_mg, .ref a_mr, .ref a_mx])), (a_mt, .inl (cI, 200, .inl mt)), (a_mo, .inl (cI, 16, .inl mo)), (a_md, .inl (cI, 16, .inl md)), (a_mb, .inl (cI, 56, .inl mb)), (a_ms, .inl (cI, 56, .inl u.1)), (a_mp, .inl (cI, 448, .inl mp)), (a_mi, .inl (cI, 112, .inl mi)), (a_mn, .inl (cI, 12, .inl mn)), (a_mh, .inl (cI, 42, .inl u.2.1)), (a_mg, .inl (cI, 56, .inl u.2.2)), (a_mr, .inl (cI, 6, .inl mr)), (a_mx, .inl (cI, 6, .inl mx))]) (fun r u => Q r u.1 u.2.1 u.2.2) := by
  refine Ci_mk (cc := cX6_hush) (maxL := 4) (by decide) rfl (Nat.le_of_ble_eq_true rfl) ?_
  intro p e s m args below meth c A Z ls hx hb hml hown hts hK hA hP hD hret hl
  have hS : va_S A s.heap s.heap [] := va_S.rf
  have hl : lv_has ls 4 [(0, .ref h6), (1, .int x1), (2, .int x2), (3, .int x3)] := hl
  refine lv_aload_n hx hb dX6_hush_0 rfl (lv_at hl 0 rfl) ?_
  refine lv_iload_n hx hb dX6_hush_1 rfl (lv_at hl 1 rfl) ?_
  refine lv_iload_n hx hb dX6_hush_2 rfl (lv_at hl 2 rfl) ?_
  refine lv_iload_n hx hb dX6_hush_3 rfl (lv_at hl 3 rfl) ?_
  refine lv_bipush (v := 9) hx hb dX6_hush_4 (by decide) ?_
  refine lv_iconst (v := 0) hx hb dX6_hush_6 (by decide) ?_
  refine k0V_i (As := [.int x1, .int x2, .int x3, .int (9 : Int32), .int (0 : Int32)]) (n := 5) ⟨hx, hb, hml, hown, hts⟩ hK hP hD hS hA (c_X6_likewise l D cI cC cQ h6 a_mt a_mo a_md a_mb a_ms a_mp a_mi a_mn a_mh a_mg a_mr a_mx mt my mo md mb ms mp mk mi mq mn mz ma mh mg mr mx x1 x2 x3 (9 : Int32) (0 : Int32) _ h) gX6_hush_X6_likewise rfl rfl ⟨rfl, rfl⟩ yoX6_likewise ⟨Nat.le_of_ble_eq_true rfl, Nat.le_of_ble_eq_true rfl⟩ (q0 := 0) (ci := 6) rfl rfl rfl rfl hl.1 rfl (Nat.le_of_ble_eq_true rfl) dX6_hush_7 ⟨Nat.zero_le _, Nat.zero_le _⟩ (fun r_1 u H locs h hP hD hS => ?_)
  obtain ⟨ms_2, mh_3, mg_4⟩ := u
  have hP : va_P D vwCl [(h6, .inr (6, [.ref a_mt, .int my, .ref a_mo, .ref a_md, .ref a_mb, .ref a_ms, .ref a_mp, .int mk, .ref a_mi, .int mq, .ref a_mn, .int mz, .int ma, .ref a_mh, .ref a_mg, .ref a_mr, .ref a_mx])), (a_mt, .inl (cI, 200, .inl mt)), (a_mo, .inl (cI, 16, .inl mo)), (a_md, .inl (cI, 16, .inl md)), (a_mb, .inl (cI, 56, .inl mb)), (a_ms, .inl (cI, 56, .inl ms_2)), (a_mp, .inl (cI, 448, .inl mp)), (a_mi, .inl (cI, 112, .inl mi)), (a_mn, .inl (cI, 12, .inl mn)), (a_mh, .inl (cI, 42, .inl mh_3)), (a_mg, .inl (cI, 56, .inl mg_4)), (a_mr, .inl (cI, 6, .inl mr)), (a_mx, .inl (cI, 6, .inl mx))] H := hP
  have hD : va_D A [(h6, .inr (6, [.ref a_mt, .int my, .ref a_mo, .ref a_md, .ref a_mb, .ref a_ms, .ref a_mp, .int mk, .ref a_mi, .int mq, .ref a_mn, .int mz, .int ma, .ref a_mh, .ref a_mg, .ref a_mr, .ref a_mx])), (a_mt, .inl (cI, 200, .inl mt)), (a_mo, .inl (cI, 16, .inl mo)), (a_md, .inl (cI, 16, .inl md)), (a_mb, .inl (cI, 56, .inl mb)), (a_ms, .inl (cI, 56, .inl ms_2)), (a_mp, .inl (cI, 448, .inl mp)), (a_mi, .inl (cI, 112, .inl mi)), (a_mn, .inl (cI, 12, .inl mn)), (a_mh, .inl (cI, 42, .inl mh_3)), (a_mg, .inl (cI, 56, .inl mg_4)), (a_mr, .inl (cI, 6, .inl mr)), (a_mx, .inl (cI, 6, .inl mx))] := hD
  exact hret r_1 (ms_2, mh_3, mg_4) _ _ _ ls h hP hD hS dX6_hush_10

/-! DoubtCourtModel.loose -/
abbrev rmX6_loose : Room := { frames := 5, cells := 0, slots := 0, locals := 127 }
theorem yoX6_loose : yX6_loose.cls ≠ "java/lang/invoke/MethodHandle" ∧ yX6_loose.cls ≠ "java/lang/invoke/VarHandle" ∧ (parseMethodDescriptor yX6_loose.desc).map (fun d => d.parameters.length) = some 3 := by decide +kernel
set_option maxHeartbeats 4000000 in
set_option maxRecDepth 100000 in
theorem c_X6_loose (l : Launch) (D : va_G) (cI cC cQ : ClassId) (h6 : Nat) (a_mt : Nat) (a_mo : Nat) (a_md : Nat) (a_mb : Nat) (a_ms : Nat) (a_mp : Nat) (a_mi : Nat) (a_mn : Nat) (a_mh : Nat) (a_mg : Nat) (a_mr : Nat) (a_mx : Nat) (mt : Nat → Int32) (my : Int32) (mo : Nat → Int32) (md : Nat → Int32) (mb : Nat → Int32) (ms : Nat → Int32) (mp : Nat → Int32) (mk : Int32) (mi : Nat → Int32) (mq : Int32) (mn : Nat → Int32) (mz : Int32) (ma : Int32) (mh : Nat → Int32) (mg : Nat → Int32) (mr : Nat → Int32) (mx : Nat → Int32) (x1 : Int32) (x2 : Int32) (x3 : Int32) (Q : Int32 → (Nat → Int32) → (Nat → Int32) → (Nat → Int32) → Prop) (h : wX6_loose x1 x2 x3 mo ms mh mg Q) : Ci (S := (Nat → Int32) × (Nat → Int32) × (Nat → Int32)) l D cI cC cQ yX6_loose wsX6_loose rmX6_loose [.ref h6, .int x1, .int x2, .int x3] [(h6, .inr (6, [.ref a_mt, .int my, .ref a_mo, .ref a_md, .ref a_mb, .ref a_ms, .ref a_mp, .int mk, .ref a_mi, .int mq, .ref a_mn, .int mz, .int ma, .ref a_mh, .ref a_mg, .ref a_mr, .ref a_mx])), (a_mt, .inl (cI, 200, .inl mt)), (a_mo, .inl (cI, 16, .inl mo)), (a_md, .inl (cI, 16, .inl md)), (a_mb, .inl (cI, 56, .inl mb)), (a_ms, .inl (cI, 56, .inl ms)), (a_mp, .inl (cI, 448, .inl mp)), (a_mi, .inl (cI, 112, .inl mi)), (a_mn, .inl (cI, 12, .inl mn)), (a_mh, .inl (cI, 42, .inl mh)), (a_mg, .inl (cI, 56, .inl mg)), (a_mr, .inl (cI, 6, .inl mr)), (a_mx, .inl (cI, 6, .inl mx))] (fun u => [(h6, .inr (6, [.ref a_mt, .int my, .ref a_mo, .ref a_md, .ref a_mb, .ref a_ms, .ref a_mp, .int mk, .ref a_mi, .int mq, .ref a_mn, .int mz, .int ma, .ref a_mh, .ref a_mg, .ref a_mr, .ref a_mx])), (a_mt, .inl (cI, 200, .inl mt)), (a_mo, .inl (cI, 16, .inl mo)), (a_md, .inl (cI, 16, .inl md)), (a_mb, .inl (cI, 56, .inl mb)), (a_ms, .inl (cI, 56, .inl u.1)), (a_mp, .inl (cI, 448, .inl mp)), (a_mi, .inl (cI, 112, .inl mi)), (a_mn, .inl (cI, 12, .inl mn)), (a_mh, .inl (cI, 42, .inl u.2.1)), (a_mg, .inl (cI, 56, .inl u.2.2)), (a_mr, .inl (cI, 6, .inl mr)), (a_mx, .inl (cI, 6, .inl mx))]) (fun r u => Q r u.1 u.2.1 u.2.2) := by
  refine Ci_mk (cc := cX6_loose) (maxL := 4) (by decide) rfl (Nat.le_of_ble_eq_true rfl) ?_
  intro p e s m args below meth c A Z ls hx hb hml hown hts hK hA hP hD hret hl
  have hS : va_S A s.heap s.heap [] := va_S.rf
  have hl : lv_has ls 4 [(0, .ref h6), (1, .int x1), (2, .int x2), (3, .int x3)] := hl
  refine lv_aload_n hx hb dX6_loose_0 rfl (lv_at hl 0 rfl) ?_
  refine lv_iload_n hx hb dX6_loose_1 rfl (lv_at hl 1 rfl) ?_
  refine lv_iload_n hx hb dX6_loose_2 rfl (lv_at hl 2 rfl) ?_
  refine lv_iload_n hx hb dX6_loose_3 rfl (lv_at hl 3 rfl) ?_
  refine lv_iconst (v := 0) hx hb dX6_loose_4 (by decide) ?_
  refine lv_iconst (v := 1) hx hb dX6_loose_5 (by decide) ?_
  refine k0V_i (As := [.int x1, .int x2, .int x3, .int (0 : Int32), .int (1 : Int32)]) (n := 5) ⟨hx, hb, hml, hown, hts⟩ hK hP hD hS hA (c_X6_likewise l D cI cC cQ h6 a_mt a_mo a_md a_mb a_ms a_mp a_mi a_mn a_mh a_mg a_mr a_mx mt my mo md mb ms mp mk mi mq mn mz ma mh mg mr mx x1 x2 x3 (0 : Int32) (1 : Int32) _ h) gX6_loose_X6_likewise rfl rfl ⟨rfl, rfl⟩ yoX6_likewise ⟨Nat.le_of_ble_eq_true rfl, Nat.le_of_ble_eq_true rfl⟩ (q0 := 0) (ci := 6) rfl rfl rfl rfl hl.1 rfl (Nat.le_of_ble_eq_true rfl) dX6_loose_6 ⟨Nat.zero_le _, Nat.zero_le _⟩ (fun r_1 u H locs h hP hD hS => ?_)
  obtain ⟨ms_2, mh_3, mg_4⟩ := u
  have hP : va_P D vwCl [(h6, .inr (6, [.ref a_mt, .int my, .ref a_mo, .ref a_md, .ref a_mb, .ref a_ms, .ref a_mp, .int mk, .ref a_mi, .int mq, .ref a_mn, .int mz, .int ma, .ref a_mh, .ref a_mg, .ref a_mr, .ref a_mx])), (a_mt, .inl (cI, 200, .inl mt)), (a_mo, .inl (cI, 16, .inl mo)), (a_md, .inl (cI, 16, .inl md)), (a_mb, .inl (cI, 56, .inl mb)), (a_ms, .inl (cI, 56, .inl ms_2)), (a_mp, .inl (cI, 448, .inl mp)), (a_mi, .inl (cI, 112, .inl mi)), (a_mn, .inl (cI, 12, .inl mn)), (a_mh, .inl (cI, 42, .inl mh_3)), (a_mg, .inl (cI, 56, .inl mg_4)), (a_mr, .inl (cI, 6, .inl mr)), (a_mx, .inl (cI, 6, .inl mx))] H := hP
  have hD : va_D A [(h6, .inr (6, [.ref a_mt, .int my, .ref a_mo, .ref a_md, .ref a_mb, .ref a_ms, .ref a_mp, .int mk, .ref a_mi, .int mq, .ref a_mn, .int mz, .int ma, .ref a_mh, .ref a_mg, .ref a_mr, .ref a_mx])), (a_mt, .inl (cI, 200, .inl mt)), (a_mo, .inl (cI, 16, .inl mo)), (a_md, .inl (cI, 16, .inl md)), (a_mb, .inl (cI, 56, .inl mb)), (a_ms, .inl (cI, 56, .inl ms_2)), (a_mp, .inl (cI, 448, .inl mp)), (a_mi, .inl (cI, 112, .inl mi)), (a_mn, .inl (cI, 12, .inl mn)), (a_mh, .inl (cI, 42, .inl mh_3)), (a_mg, .inl (cI, 56, .inl mg_4)), (a_mr, .inl (cI, 6, .inl mr)), (a_mx, .inl (cI, 6, .inl mx))] := hD
  exact hret r_1 (ms_2, mh_3, mg_4) _ _ _ ls h hP hD hS dX6_loose_9

/-! DoubtCourtModel.sooner -/
abbrev rmX6_sooner : Room := { frames := 5, cells := 0, slots := 0, locals := 117 }
theorem yoX6_sooner : yX6_sooner.cls ≠ "java/lang/invoke/MethodHandle" ∧ yX6_sooner.cls ≠ "java/lang/invoke/VarHandle" ∧ (parseMethodDescriptor yX6_sooner.desc).map (fun d => d.parameters.length) = some 2 := by decide +kernel
set_option maxHeartbeats 4000000 in
set_option maxRecDepth 100000 in
theorem c_X6_sooner (l : Launch) (D : va_G) (cI cC cQ : ClassId) (h6 : Nat) (a_mt : Nat) (a_mo : Nat) (a_md : Nat) (a_mb : Nat) (a_ms : Nat) (a_mp : Nat) (a_mi : Nat) (a_mn : Nat) (a_mh : Nat) (a_mg : Nat) (a_mr : Nat) (a_mx : Nat) (mt : Nat → Int32) (my : Int32) (mo : Nat → Int32) (md : Nat → Int32) (mb : Nat → Int32) (ms : Nat → Int32) (mp : Nat → Int32) (mk : Int32) (mi : Nat → Int32) (mq : Int32) (mn : Nat → Int32) (mz : Int32) (ma : Int32) (mh : Nat → Int32) (mg : Nat → Int32) (mr : Nat → Int32) (mx : Nat → Int32) (x1 : Int32) (x2 : Int32) (Q : Int32 → (Nat → Int32) → (Nat → Int32) → (Nat → Int32) → Prop) (h : wX6_sooner x1 x2 mo ms mh mg Q) : Ci (S := (Nat → Int32) × (Nat → Int32) × (Nat → Int32)) l D cI cC cQ yX6_sooner wsX6_sooner rmX6_sooner [.ref h6, .int x1, .int x2] [(h6, .inr (6, [.ref a_mt, .int my, .ref a_mo, .ref a_md, .ref a_mb, .ref a_ms, .ref a_mp, .int mk, .ref a_mi, .int mq, .ref a_mn, .int mz, .int ma, .ref a_mh, .ref a_mg, .ref a_mr, .ref a_mx])), (a_mt, .inl (cI, 200, .inl mt)), (a_mo, .inl (cI, 16, .inl mo)), (a_md, .inl (cI, 16, .inl md)), (a_mb, .inl (cI, 56, .inl mb)), (a_ms, .inl (cI, 56, .inl ms)), (a_mp, .inl (cI, 448, .inl mp)), (a_mi, .inl (cI, 112, .inl mi)), (a_mn, .inl (cI, 12, .inl mn)), (a_mh, .inl (cI, 42, .inl mh)), (a_mg, .inl (cI, 56, .inl mg)), (a_mr, .inl (cI, 6, .inl mr)), (a_mx, .inl (cI, 6, .inl mx))] (fun u => [(h6, .inr (6, [.ref a_mt, .int my, .ref a_mo, .ref a_md, .ref a_mb, .ref a_ms, .ref a_mp, .int mk, .ref a_mi, .int mq, .ref a_mn, .int mz, .int ma, .ref a_mh, .ref a_mg, .ref a_mr, .ref a_mx])), (a_mt, .inl (cI, 200, .inl mt)), (a_mo, .inl (cI, 16, .inl mo)), (a_md, .inl (cI, 16, .inl md)), (a_mb, .inl (cI, 56, .inl mb)), (a_ms, .inl (cI, 56, .inl u.1)), (a_mp, .inl (cI, 448, .inl mp)), (a_mi, .inl (cI, 112, .inl mi)), (a_mn, .inl (cI, 12, .inl mn)), (a_mh, .inl (cI, 42, .inl u.2.1)), (a_mg, .inl (cI, 56, .inl u.2.2)), (a_mr, .inl (cI, 6, .inl mr)), (a_mx, .inl (cI, 6, .inl mx))]) (fun r u => Q r u.1 u.2.1 u.2.2) := by
  refine Ci_mk (cc := cX6_sooner) (maxL := 8) (by decide) rfl (Nat.le_of_ble_eq_true rfl) ?_
  intro p e s m args below meth c A Z ls hx hb hml hown hts hK hA hP hD hret hl
  have hS : va_S A s.heap s.heap [] := va_S.rf
  have hin6 : ∀ w ∈ u_ws RX6 TX6 17, w ∈ wsX6_sooner := by decide +kernel
  have k_0 := hts (.fieldLink RX6 22 "DoubtCourtModel" "s" "[I") (by decide +kernel)
  have k_1 := hts (.fieldLink RX6 13 "DoubtCourtModel" "told" "[I") (by decide +kernel)
  have hl : lv_has ls 8 [(0, .ref h6), (1, .int x1), (2, .int x2)] := hl
  have L79 : ∀ {K62 : Int32 → Int32 → Int32 → (Nat → Int32) → (Nat → Int32) → (Nat → Int32) → Prop} (n : Nat) {x1 : Int32} {x2 : Int32} {x3 : Int32} {x4 : Int32} {x5 : Int32} {x6 : Int32} {ms : Nat → Int32} {mh : Nat → Int32} {mg : Nat → Int32} {H : Heap} {locs : List Loc} {ls : Array Slot}, wX6_sooner_L79 x1 x5 mo K62 n x3 x4 x6 ms mh mg → va_P D vwCl [(h6, .inr (6, [.ref a_mt, .int my, .ref a_mo, .ref a_md, .ref a_mb, .ref a_ms, .ref a_mp, .int mk, .ref a_mi, .int mq, .ref a_mn, .int mz, .int ma, .ref a_mh, .ref a_mg, .ref a_mr, .ref a_mx])), (a_mt, .inl (cI, 200, .inl mt)), (a_mo, .inl (cI, 16, .inl mo)), (a_md, .inl (cI, 16, .inl md)), (a_mb, .inl (cI, 56, .inl mb)), (a_ms, .inl (cI, 56, .inl ms)), (a_mp, .inl (cI, 448, .inl mp)), (a_mi, .inl (cI, 112, .inl mi)), (a_mn, .inl (cI, 12, .inl mn)), (a_mh, .inl (cI, 42, .inl mh)), (a_mg, .inl (cI, 56, .inl mg)), (a_mr, .inl (cI, 6, .inl mr)), (a_mx, .inl (cI, 6, .inl mx))] H → va_D A [(h6, .inr (6, [.ref a_mt, .int my, .ref a_mo, .ref a_md, .ref a_mb, .ref a_ms, .ref a_mp, .int mk, .ref a_mi, .int mq, .ref a_mn, .int mz, .int ma, .ref a_mh, .ref a_mg, .ref a_mr, .ref a_mx])), (a_mt, .inl (cI, 200, .inl mt)), (a_mo, .inl (cI, 16, .inl mo)), (a_md, .inl (cI, 16, .inl md)), (a_mb, .inl (cI, 56, .inl mb)), (a_ms, .inl (cI, 56, .inl ms)), (a_mp, .inl (cI, 448, .inl mp)), (a_mi, .inl (cI, 112, .inl mi)), (a_mn, .inl (cI, 12, .inl mn)), (a_mh, .inl (cI, 42, .inl mh)), (a_mg, .inl (cI, 56, .inl mg)), (a_mr, .inl (cI, 6, .inl mr)), (a_mx, .inl (cI, 6, .inl mx))] → va_S A s.heap H locs → lv_has ls 8 [(0, .ref h6), (1, .int x1), (2, .int x2), (3, .int x3), (4, .int x4), (5, .int x5), (6, .int x6)] → (∀ (x3 : Int32) (x4 : Int32) (x5 : Int32) (ms : Nat → Int32) (mh : Nat → Int32) (mg : Nat → Int32) (H : Heap) (locs : List Loc) (ls : Array Slot), K62 x3 x4 x5 ms mh mg → va_P D vwCl [(h6, .inr (6, [.ref a_mt, .int my, .ref a_mo, .ref a_md, .ref a_mb, .ref a_ms, .ref a_mp, .int mk, .ref a_mi, .int mq, .ref a_mn, .int mz, .int ma, .ref a_mh, .ref a_mg, .ref a_mr, .ref a_mx])), (a_mt, .inl (cI, 200, .inl mt)), (a_mo, .inl (cI, 16, .inl mo)), (a_md, .inl (cI, 16, .inl md)), (a_mb, .inl (cI, 56, .inl mb)), (a_ms, .inl (cI, 56, .inl ms)), (a_mp, .inl (cI, 448, .inl mp)), (a_mi, .inl (cI, 112, .inl mi)), (a_mn, .inl (cI, 12, .inl mn)), (a_mh, .inl (cI, 42, .inl mh)), (a_mg, .inl (cI, 56, .inl mg)), (a_mr, .inl (cI, 6, .inl mr)), (a_mx, .inl (cI, 6, .inl mx))] H → va_D A [(h6, .inr (6, [.ref a_mt, .int my, .ref a_mo, .ref a_md, .ref a_mb, .ref a_ms, .ref a_mp, .int mk, .ref a_mi, .int mq, .ref a_mn, .int mz, .int ma, .ref a_mh, .ref a_mg, .ref a_mr, .ref a_mx])), (a_mt, .inl (cI, 200, .inl mt)), (a_mo, .inl (cI, 16, .inl mo)), (a_md, .inl (cI, 16, .inl md)), (a_mb, .inl (cI, 56, .inl mb)), (a_ms, .inl (cI, 56, .inl ms)), (a_mp, .inl (cI, 448, .inl mp)), (a_mi, .inl (cI, 112, .inl mi)), (a_mn, .inl (cI, 12, .inl mn)), (a_mh, .inl (cI, 42, .inl mh)), (a_mg, .inl (cI, 56, .inl mg)), (a_mr, .inl (cI, 6, .inl mr)), (a_mx, .inl (cI, 6, .inl mx))] → va_S A s.heap H locs → lv_has ls 8 [(0, .ref h6), (1, .int x1), (2, .int x2), (3, .int x3), (4, .int x4), (5, .int x5)] → W p l e rmX6_sooner s m args below meth c H locs 0 0 Z (F0 m 62 ls [])) → W p l e rmX6_sooner s m args below meth c H locs 0 0 Z (F0 m 79 ls []) := by
    intro K62
    intro n
    induction n with
    | zero =>
      intro x1 x2 x3 x4 x5 x6 ms mh mg H locs ls h hP hD hS hl hk62
      exact (show False from h).elim
    | succ n ih =>
      intro x1 x2 x3 x4 x5 x6 ms mh mg H locs ls h hP hD hS hl hk62
      refine lv_iload hx hb dX6_sooner_79 (lv_at hl 6 rfl) ?_
      refine lv_aload_n hx hb dX6_sooner_81 rfl (lv_at hl 0 rfl) ?_
      refine va_get (D := D) (ci := 6) (v := .ref a_mo) (C := RX6) (T := TX6) (N := 17) hx hb hts hin6 hown hK.1 hP 0 rfl rfl 2 (by decide) (k_1) (fun _ h9 => h9) rfl dX6_sooner_82 ?_
      refine lv_iconst (v := 0) hx hb dX6_sooner_85 (by decide) ?_
      refine z_iald (k := 0) hx hb hK.1 hP 2 rfl (by decide) vi_0_16 dX6_sooner_86 ?_
      refine lv_icmp_ge (tgt := 145) hx hb dX6_sooner_87 (by decide) (fun c_58 => ?_) (fun c_58 => ?_)
      · have h := h.1 c_58
        refine lv_iinc (v := (x5 + (1 : Int32))) (lv' := [(5, .int (x5 + (1 : Int32))), (0, .ref h6), (1, .int x1), (2, .int x2), (3, .int x3), (4, .int x4), (6, .int x6)]) hx hb dX6_sooner_145 hl (k := 5) rfl rfl (by decide) rfl (fun ls hl => ?_)
        refine lv_goto (tgt := 62) hx hb dX6_sooner_148 (by decide) ?_
        exact hk62 x3 x4 (x5 + (1 : Int32)) ms mh mg _ _ _ h hP hD hS (lv_sub hl [1, 2, 3, 4, 5, 0] rfl)
      · have h := h.2 c_58
        refine lv_aload_n hx hb dX6_sooner_90 rfl (lv_at hl 0 rfl) ?_
        refine lv_iload hx hb dX6_sooner_91 (lv_at hl 5 rfl) ?_
        refine lv_iload hx hb dX6_sooner_93 (lv_at hl 6 rfl) ?_
        refine k0V_v (As := [.int x5, .int x6]) (n := 2) ⟨hx, hb, hml, hown, hts⟩ hK hP hD hS hA (c_X6_changes l D cI cC cQ h6 a_mt a_mo a_md a_mb a_ms a_mp a_mi a_mn a_mh a_mg a_mr a_mx mt my mo md mb ms mp mk mi mq mn mz ma mh mg mr mx x5 x6 _ h) gX6_sooner_X6_changes rfl rfl ⟨rfl, rfl⟩ yoX6_changes ⟨Nat.le_of_ble_eq_true rfl, Nat.le_of_ble_eq_true rfl⟩ (q0 := 0) (ci := 6) rfl rfl rfl rfl hl.1 rfl (Nat.le_of_ble_eq_true rfl) dX6_sooner_95 ⟨Nat.zero_le _, Nat.zero_le _⟩ (fun ms_59 H locs h hP hD hS => ?_)
        have hP : va_P D vwCl [(h6, .inr (6, [.ref a_mt, .int my, .ref a_mo, .ref a_md, .ref a_mb, .ref a_ms, .ref a_mp, .int mk, .ref a_mi, .int mq, .ref a_mn, .int mz, .int ma, .ref a_mh, .ref a_mg, .ref a_mr, .ref a_mx])), (a_mt, .inl (cI, 200, .inl mt)), (a_mo, .inl (cI, 16, .inl mo)), (a_md, .inl (cI, 16, .inl md)), (a_mb, .inl (cI, 56, .inl mb)), (a_ms, .inl (cI, 56, .inl ms_59)), (a_mp, .inl (cI, 448, .inl mp)), (a_mi, .inl (cI, 112, .inl mi)), (a_mn, .inl (cI, 12, .inl mn)), (a_mh, .inl (cI, 42, .inl mh)), (a_mg, .inl (cI, 56, .inl mg)), (a_mr, .inl (cI, 6, .inl mr)), (a_mx, .inl (cI, 6, .inl mx))] H := hP
        have hD : va_D A [(h6, .inr (6, [.ref a_mt, .int my, .ref a_mo, .ref a_md, .ref a_mb, .ref a_ms, .ref a_mp, .int mk, .ref a_mi, .int mq, .ref a_mn, .int mz, .int ma, .ref a_mh, .ref a_mg, .ref a_mr, .ref a_mx])), (a_mt, .inl (cI, 200, .inl mt)), (a_mo, .inl (cI, 16, .inl mo)), (a_md, .inl (cI, 16, .inl md)), (a_mb, .inl (cI, 56, .inl mb)), (a_ms, .inl (cI, 56, .inl ms_59)), (a_mp, .inl (cI, 448, .inl mp)), (a_mi, .inl (cI, 112, .inl mi)), (a_mn, .inl (cI, 12, .inl mn)), (a_mh, .inl (cI, 42, .inl mh)), (a_mg, .inl (cI, 56, .inl mg)), (a_mr, .inl (cI, 6, .inl mr)), (a_mx, .inl (cI, 6, .inl mx))] := hD
        refine lv_aload_n hx hb dX6_sooner_98 rfl (lv_at hl 0 rfl) ?_
        refine lv_iload_n hx hb dX6_sooner_99 rfl (lv_at hl 1 rfl) ?_
        refine k0V_i (As := [.int x1]) (n := 1) ⟨hx, hb, hml, hown, hts⟩ hK hP hD hS hA (c_X6_comesIn l D cI cC cQ h6 a_mt a_mo a_md a_mb a_ms a_mp a_mi a_mn a_mh a_mg a_mr a_mx mt my mo md mb ms_59 mp mk mi mq mn mz ma mh mg mr mx x1 _ h) gX6_sooner_X6_comesIn rfl rfl ⟨rfl, rfl⟩ yoX6_comesIn ⟨Nat.le_of_ble_eq_true rfl, Nat.le_of_ble_eq_true rfl⟩ (q0 := 0) (ci := 6) rfl rfl rfl rfl hl.1 rfl (Nat.le_of_ble_eq_true rfl) dX6_sooner_100 ⟨Nat.zero_le _, Nat.zero_le _⟩ (fun r_60 u H locs h hP hD hS => ?_)
        obtain ⟨ms_61, mh_62, mg_63⟩ := u
        have hP : va_P D vwCl [(h6, .inr (6, [.ref a_mt, .int my, .ref a_mo, .ref a_md, .ref a_mb, .ref a_ms, .ref a_mp, .int mk, .ref a_mi, .int mq, .ref a_mn, .int mz, .int ma, .ref a_mh, .ref a_mg, .ref a_mr, .ref a_mx])), (a_mt, .inl (cI, 200, .inl mt)), (a_mo, .inl (cI, 16, .inl mo)), (a_md, .inl (cI, 16, .inl md)), (a_mb, .inl (cI, 56, .inl mb)), (a_ms, .inl (cI, 56, .inl ms_61)), (a_mp, .inl (cI, 448, .inl mp)), (a_mi, .inl (cI, 112, .inl mi)), (a_mn, .inl (cI, 12, .inl mn)), (a_mh, .inl (cI, 42, .inl mh_62)), (a_mg, .inl (cI, 56, .inl mg_63)), (a_mr, .inl (cI, 6, .inl mr)), (a_mx, .inl (cI, 6, .inl mx))] H := hP
        have hD : va_D A [(h6, .inr (6, [.ref a_mt, .int my, .ref a_mo, .ref a_md, .ref a_mb, .ref a_ms, .ref a_mp, .int mk, .ref a_mi, .int mq, .ref a_mn, .int mz, .int ma, .ref a_mh, .ref a_mg, .ref a_mr, .ref a_mx])), (a_mt, .inl (cI, 200, .inl mt)), (a_mo, .inl (cI, 16, .inl mo)), (a_md, .inl (cI, 16, .inl md)), (a_mb, .inl (cI, 56, .inl mb)), (a_ms, .inl (cI, 56, .inl ms_61)), (a_mp, .inl (cI, 448, .inl mp)), (a_mi, .inl (cI, 112, .inl mi)), (a_mn, .inl (cI, 12, .inl mn)), (a_mh, .inl (cI, 42, .inl mh_62)), (a_mg, .inl (cI, 56, .inl mg_63)), (a_mr, .inl (cI, 6, .inl mr)), (a_mx, .inl (cI, 6, .inl mx))] := hD
        refine lv_istore (lv' := [(7, .int r_60), (0, .ref h6), (1, .int x1), (2, .int x2), (3, .int x3), (4, .int x4), (5, .int x5), (6, .int x6)]) hx hb dX6_sooner_103 hl (by decide) rfl (fun ls hl => ?_)
        refine lv_aload_n hx hb dX6_sooner_105 rfl (lv_at hl 1 rfl) ?_
        refine lv_iload hx hb dX6_sooner_106 (lv_at hl 6 rfl) ?_
        refine lv_iload hx hb dX6_sooner_108 (lv_at hl 7 rfl) ?_
        refine k0V_v (As := [.int x5, .int x6]) (n := 2) ⟨hx, hb, hml, hown, hts⟩ hK hP hD hS hA (c_X6_changes l D cI cC cQ h6 a_mt a_mo a_md a_mb a_ms a_mp a_mi a_mn a_mh a_mg a_mr a_mx mt my mo md mb ms_61 mp mk mi mq mn mz ma mh_62 mg_63 mr mx x5 x6 _ h) gX6_sooner_X6_changes rfl rfl ⟨rfl, rfl⟩ yoX6_changes ⟨Nat.le_of_ble_eq_true rfl, Nat.le_of_ble_eq_true rfl⟩ (q0 := 0) (ci := 6) rfl rfl rfl rfl hl.1 rfl (Nat.le_of_ble_eq_true rfl) dX6_sooner_110 ⟨Nat.zero_le _, Nat.zero_le _⟩ (fun ms_64 H locs h hP hD hS => ?_)
        have hP : va_P D vwCl [(h6, .inr (6, [.ref a_mt, .int my, .ref a_mo, .ref a_md, .ref a_mb, .ref a_ms, .ref a_mp, .int mk, .ref a_mi, .int mq, .ref a_mn, .int mz, .int ma, .ref a_mh, .ref a_mg, .ref a_mr, .ref a_mx])), (a_mt, .inl (cI, 200, .inl mt)), (a_mo, .inl (cI, 16, .inl mo)), (a_md, .inl (cI, 16, .inl md)), (a_mb, .inl (cI, 56, .inl mb)), (a_ms, .inl (cI, 56, .inl ms_64)), (a_mp, .inl (cI, 448, .inl mp)), (a_mi, .inl (cI, 112, .inl mi)), (a_mn, .inl (cI, 12, .inl mn)), (a_mh, .inl (cI, 42, .inl mh_62)), (a_mg, .inl (cI, 56, .inl mg_63)), (a_mr, .inl (cI, 6, .inl mr)), (a_mx, .inl (cI, 6, .inl mx))] H := hP
        have hD : va_D A [(h6, .inr (6, [.ref a_mt, .int my, .ref a_mo, .ref a_md, .ref a_mb, .ref a_ms, .ref a_mp, .int mk, .ref a_mi, .int mq, .ref a_mn, .int mz, .int ma, .ref a_mh, .ref a_mg, .ref a_mr, .ref a_mx])), (a_mt, .inl (cI, 200, .inl mt)), (a_mo, .inl (cI, 16, .inl mo)), (a_md, .inl (cI, 16, .inl md)), (a_mb, .inl (cI, 56, .inl mb)), (a_ms, .inl (cI, 56, .inl ms_64)), (a_mp, .inl (cI, 448, .inl mp)), (a_mi, .inl (cI, 112, .inl mi)), (a_mn, .inl (cI, 12, .inl mn)), (a_mh, .inl (cI, 42, .inl mh_62)), (a_mg, .inl (cI, 56, .inl mg_63)), (a_mr, .inl (cI, 6, .inl mr)), (a_mx, .inl (cI, 6, .inl mx))] := hD
        refine lv_iload hx hb dX6_sooner_113 (lv_at hl 0 rfl) ?_
        refine lv_bipush (v := -4) hx hb dX6_sooner_115 (by decide) ?_
        refine lv_icmp_eq (tgt := 139) hx hb dX6_sooner_117 (by decide) (fun c_65 => ?_) (fun c_65 => ?_)
        · have h := h.1 c_65
          refine lv_iinc (v := (x6 + (1 : Int32))) (lv' := [(6, .int (x6 + (1 : Int32))), (7, .int r_60), (0, .ref h6), (1, .int x1), (2, .int x2), (3, .int x3), (4, .int x4), (5, .int x5)]) hx hb dX6_sooner_139 hl (k := 7) rfl rfl (by decide) rfl (fun ls hl => ?_)
          refine lv_goto (tgt := 79) hx hb dX6_sooner_142 (by decide) ?_
          exact ih h hP hD hS (lv_sub hl [2, 3, 4, 5, 6, 7, 0] rfl) hk62
        · have h := h.2 c_65
          refine lv_iload hx hb dX6_sooner_120 (lv_at hl 0 rfl) ?_
          refine lv_iload_n hx hb dX6_sooner_122 rfl (lv_at hl 4 rfl) ?_
          refine lv_icmp_ge (tgt := 139) hx hb dX6_sooner_123 (by decide) (fun c_66 => ?_) (fun c_66 => ?_)
          · have h := h.1 c_66
            refine lv_iinc (v := (x6 + (1 : Int32))) (lv' := [(6, .int (x6 + (1 : Int32))), (7, .int r_60), (0, .ref h6), (1, .int x1), (2, .int x2), (3, .int x3), (4, .int x4), (5, .int x5)]) hx hb dX6_sooner_139 hl (k := 7) rfl rfl (by decide) rfl (fun ls hl => ?_)
            refine lv_goto (tgt := 79) hx hb dX6_sooner_142 (by decide) ?_
            exact ih h hP hD hS (lv_sub hl [2, 3, 4, 5, 6, 7, 0] rfl) hk62
          · have h := h.2 c_66
            refine lv_bipush (v := 10) hx hb dX6_sooner_126 (by decide) ?_
            refine lv_iload hx hb dX6_sooner_128 (lv_at hl 6 rfl) ?_
            refine lv_imul hx hb dX6_sooner_130 ?_
            refine lv_iload hx hb dX6_sooner_131 (lv_at hl 7 rfl) ?_
            refine lv_iadd hx hb dX6_sooner_133 ?_
            refine lv_topi (fun v_67 ev_67 => ?_)
            have h := h v_67 ev_67
            refine lv_istore (lv' := [(4, .int v_67), (7, .int r_60), (0, .ref h6), (1, .int x1), (2, .int x2), (3, .int x3), (5, .int x5), (6, .int x6)]) hx hb dX6_sooner_134 hl (by decide) rfl (fun ls hl => ?_)
            refine lv_iload hx hb dX6_sooner_136 (lv_at hl 1 rfl) ?_
            refine lv_istore_n (lv' := [(3, .int r_60), (4, .int v_67), (7, .int r_60), (0, .ref h6), (1, .int x1), (2, .int x2), (5, .int x5), (6, .int x6)]) hx hb dX6_sooner_138 rfl hl (by decide) rfl (fun ls hl => ?_)
            refine lv_iinc (v := (x6 + (1 : Int32))) (lv' := [(6, .int (x6 + (1 : Int32))), (3, .int r_60), (4, .int v_67), (7, .int r_60), (0, .ref h6), (1, .int x1), (2, .int x2), (5, .int x5)]) hx hb dX6_sooner_139 hl (k := 7) rfl rfl (by decide) rfl (fun ls hl => ?_)
            refine lv_goto (tgt := 79) hx hb dX6_sooner_142 (by decide) ?_
            exact ih h hP hD hS (lv_sub hl [4, 5, 6, 1, 2, 7, 0] rfl) hk62
  have L62 : ∀ (n : Nat) {x1 : Int32} {x2 : Int32} {x3 : Int32} {x4 : Int32} {x5 : Int32} {ms : Nat → Int32} {mh : Nat → Int32} {mg : Nat → Int32} {H : Heap} {locs : List Loc} {ls : Array Slot}, wX6_sooner_L62 x1 x2 mo Q n x3 x4 x5 ms mh mg → va_P D vwCl [(h6, .inr (6, [.ref a_mt, .int my, .ref a_mo, .ref a_md, .ref a_mb, .ref a_ms, .ref a_mp, .int mk, .ref a_mi, .int mq, .ref a_mn, .int mz, .int ma, .ref a_mh, .ref a_mg, .ref a_mr, .ref a_mx])), (a_mt, .inl (cI, 200, .inl mt)), (a_mo, .inl (cI, 16, .inl mo)), (a_md, .inl (cI, 16, .inl md)), (a_mb, .inl (cI, 56, .inl mb)), (a_ms, .inl (cI, 56, .inl ms)), (a_mp, .inl (cI, 448, .inl mp)), (a_mi, .inl (cI, 112, .inl mi)), (a_mn, .inl (cI, 12, .inl mn)), (a_mh, .inl (cI, 42, .inl mh)), (a_mg, .inl (cI, 56, .inl mg)), (a_mr, .inl (cI, 6, .inl mr)), (a_mx, .inl (cI, 6, .inl mx))] H → va_D A [(h6, .inr (6, [.ref a_mt, .int my, .ref a_mo, .ref a_md, .ref a_mb, .ref a_ms, .ref a_mp, .int mk, .ref a_mi, .int mq, .ref a_mn, .int mz, .int ma, .ref a_mh, .ref a_mg, .ref a_mr, .ref a_mx])), (a_mt, .inl (cI, 200, .inl mt)), (a_mo, .inl (cI, 16, .inl mo)), (a_md, .inl (cI, 16, .inl md)), (a_mb, .inl (cI, 56, .inl mb)), (a_ms, .inl (cI, 56, .inl ms)), (a_mp, .inl (cI, 448, .inl mp)), (a_mi, .inl (cI, 112, .inl mi)), (a_mn, .inl (cI, 12, .inl mn)), (a_mh, .inl (cI, 42, .inl mh)), (a_mg, .inl (cI, 56, .inl mg)), (a_mr, .inl (cI, 6, .inl mr)), (a_mx, .inl (cI, 6, .inl mx))] → va_S A s.heap H locs → lv_has ls 8 [(0, .ref h6), (1, .int x1), (2, .int x2), (3, .int x3), (4, .int x4), (5, .int x5)] → W p l e rmX6_sooner s m args below meth c H locs 0 0 Z (F0 m 62 ls []) := by
    intro n
    induction n with
    | zero =>
      intro x1 x2 x3 x4 x5 ms mh mg H locs ls h hP hD hS hl
      exact (show False from h).elim
    | succ n ih =>
      intro x1 x2 x3 x4 x5 ms mh mg H locs ls h hP hD hS hl
      refine lv_iload hx hb dX6_sooner_62 (lv_at hl 5 rfl) ?_
      refine lv_aload_n hx hb dX6_sooner_64 rfl (lv_at hl 0 rfl) ?_
      refine va_get (D := D) (ci := 6) (v := .ref a_mo) (C := RX6) (T := TX6) (N := 17) hx hb hts hin6 hown hK.1 hP 0 rfl rfl 2 (by decide) (k_1) (fun _ h9 => h9) rfl dX6_sooner_65 ?_
      refine lv_iconst (v := 0) hx hb dX6_sooner_68 (by decide) ?_
      refine z_iald (k := 0) hx hb hK.1 hP 2 rfl (by decide) vi_0_16 dX6_sooner_69 ?_
      refine lv_icmp_ge (tgt := 151) hx hb dX6_sooner_70 (by decide) (fun c_44 => ?_) (fun c_44 => ?_)
      · have h := h.1 c_44
        refine lv_iload hx hb dX6_sooner_151 (lv_at hl 4 rfl) ?_
        refine lv_bipush (v := -4) hx hb dX6_sooner_153 (by decide) ?_
        refine lv_icmp_eq (tgt := 162) hx hb dX6_sooner_155 (by decide) (fun c_45 => ?_) (fun c_45 => ?_)
        · have h := h.1 c_45
          refine lv_iload hx hb dX6_sooner_162 (lv_at hl 4 rfl) ?_
          refine lv_goto (tgt := 168) hx hb dX6_sooner_164 (by decide) ?_
          exact hret x4 (ms, mh, mg) _ _ _ ls h hP hD hS dX6_sooner_168
        · have h := h.2 c_45
          refine lv_iload_n hx hb dX6_sooner_158 rfl (lv_at hl 2 rfl) ?_
          refine lv_if_ne (tgt := 167) hx hb dX6_sooner_159 (by decide) (fun c_46 => ?_) (fun c_46 => ?_)
          · have h := h.2 c_46
            refine lv_iload_n hx hb dX6_sooner_167 rfl (lv_at hl 3 rfl) ?_
            exact hret x3 (ms, mh, mg) _ _ _ ls h hP hD hS dX6_sooner_168
          · have h := h.1 c_46
            refine lv_iload hx hb dX6_sooner_162 (lv_at hl 4 rfl) ?_
            refine lv_goto (tgt := 168) hx hb dX6_sooner_164 (by decide) ?_
            exact hret x4 (ms, mh, mg) _ _ _ ls h hP hD hS dX6_sooner_168
      · have h := h.2 c_44
        refine lv_iload hx hb dX6_sooner_73 (lv_at hl 5 rfl) ?_
        refine lv_iconst (v := 1) hx hb dX6_sooner_75 (by decide) ?_
        refine lv_iadd hx hb dX6_sooner_76 ?_
        refine lv_topi (fun v_47 ev_47 => ?_)
        have h := h v_47 ev_47
        refine lv_istore (lv' := [(6, .int v_47), (0, .ref h6), (1, .int x1), (2, .int x2), (3, .int x3), (4, .int x4), (5, .int x5)]) hx hb dX6_sooner_77 hl (by decide) rfl (fun ls hl => ?_)
        obtain ⟨n_74, h⟩ := h
        refine L79 n_74 h hP hD hS (lv_sub hl [1, 2, 3, 4, 5, 6, 0] rfl) (fun x3_68 x4_69 x5_70 ms_71 mh_72 mg_73 H locs ls h hP hD hS hl => ?_)
        exact ih h hP hD hS (lv_sub hl [0, 1, 2, 3, 4, 5] rfl)
  have J54 : ∀ {x1 : Int32} {x2 : Int32} {s0 : Int32} {ms : Nat → Int32} {mh : Nat → Int32} {mg : Nat → Int32} {H : Heap} {locs : List Loc} {ls : Array Slot}, wX6_sooner_J54 x1 x2 s0 mo ms mh mg Q → va_P D vwCl [(h6, .inr (6, [.ref a_mt, .int my, .ref a_mo, .ref a_md, .ref a_mb, .ref a_ms, .ref a_mp, .int mk, .ref a_mi, .int mq, .ref a_mn, .int mz, .int ma, .ref a_mh, .ref a_mg, .ref a_mr, .ref a_mx])), (a_mt, .inl (cI, 200, .inl mt)), (a_mo, .inl (cI, 16, .inl mo)), (a_md, .inl (cI, 16, .inl md)), (a_mb, .inl (cI, 56, .inl mb)), (a_ms, .inl (cI, 56, .inl ms)), (a_mp, .inl (cI, 448, .inl mp)), (a_mi, .inl (cI, 112, .inl mi)), (a_mn, .inl (cI, 12, .inl mn)), (a_mh, .inl (cI, 42, .inl mh)), (a_mg, .inl (cI, 56, .inl mg)), (a_mr, .inl (cI, 6, .inl mr)), (a_mx, .inl (cI, 6, .inl mx))] H → va_D A [(h6, .inr (6, [.ref a_mt, .int my, .ref a_mo, .ref a_md, .ref a_mb, .ref a_ms, .ref a_mp, .int mk, .ref a_mi, .int mq, .ref a_mn, .int mz, .int ma, .ref a_mh, .ref a_mg, .ref a_mr, .ref a_mx])), (a_mt, .inl (cI, 200, .inl mt)), (a_mo, .inl (cI, 16, .inl mo)), (a_md, .inl (cI, 16, .inl md)), (a_mb, .inl (cI, 56, .inl mb)), (a_ms, .inl (cI, 56, .inl ms)), (a_mp, .inl (cI, 448, .inl mp)), (a_mi, .inl (cI, 112, .inl mi)), (a_mn, .inl (cI, 12, .inl mn)), (a_mh, .inl (cI, 42, .inl mh)), (a_mg, .inl (cI, 56, .inl mg)), (a_mr, .inl (cI, 6, .inl mr)), (a_mx, .inl (cI, 6, .inl mx))] → va_S A s.heap H locs → lv_has ls 8 [(0, .ref h6), (1, .int x1), (2, .int x2)] → W p l e rmX6_sooner s m args below meth c H locs 0 0 Z (F0 m 54 ls [.int s0]) := by
    intro x1 x2 s0 ms mh mg H locs ls h hP hD hS hl
    refine lv_istore_n (lv' := [(3, .int s0), (0, .ref h6), (1, .int x1), (2, .int x2)]) hx hb dX6_sooner_54 rfl hl (by decide) rfl (fun ls hl => ?_)
    refine lv_bipush (v := -4) hx hb dX6_sooner_55 (by decide) ?_
    refine lv_istore (lv' := [(4, .int (-4 : Int32)), (3, .int s0), (0, .ref h6), (1, .int x1), (2, .int x2)]) hx hb dX6_sooner_57 hl (by decide) rfl (fun ls hl => ?_)
    refine lv_iconst (v := 0) hx hb dX6_sooner_59 (by decide) ?_
    refine lv_istore (lv' := [(5, .int (0 : Int32)), (4, .int (-4 : Int32)), (3, .int s0), (0, .ref h6), (1, .int x1), (2, .int x2)]) hx hb dX6_sooner_60 hl (by decide) rfl (fun ls hl => ?_)
    obtain ⟨n_75, h⟩ := h
    exact L62 n_75 h hP hD hS (lv_sub hl [3, 4, 5, 2, 1, 0] rfl)
  refine lv_aload_n hx hb dX6_sooner_0 rfl (lv_at hl 0 rfl) ?_
  refine lv_iload_n hx hb dX6_sooner_1 rfl (lv_at hl 1 rfl) ?_
  refine k0V_i (As := [.int x1]) (n := 1) ⟨hx, hb, hml, hown, hts⟩ hK hP hD hS hA (c_X6_isNews l D cI cC cQ h6 a_mt a_mo a_md a_mb a_ms a_mp a_mi a_mn a_mh a_mg a_mr a_mx mt my mo md mb ms mp mk mi mq mn mz ma mh mg mr mx x1 _ h) gX6_sooner_X6_isNews rfl rfl ⟨rfl, rfl⟩ yoX6_isNews ⟨Nat.le_of_ble_eq_true rfl, Nat.le_of_ble_eq_true rfl⟩ (q0 := 0) (ci := 6) rfl rfl rfl rfl hl.1 rfl (Nat.le_of_ble_eq_true rfl) dX6_sooner_2 ⟨Nat.zero_le _, Nat.zero_le _⟩ (fun r_1 u H locs h hP hD hS => ?_)
  obtain ⟨b_2, h⟩ := h
  refine lv_if_eq (tgt := 17) hx hb dX6_sooner_5 (by decide) (fun c_3 => ?_) (fun c_3 => ?_)
  · have h := h.1 c_3
    refine lv_iconst (v := -1) hx hb dX6_sooner_17 (by decide) ?_
    exact hret (-1 : Int32) (ms, mh, mg) _ _ _ ls h hP hD hS dX6_sooner_18
  · have h := h.2 c_3
    refine lv_iload_n hx hb dX6_sooner_8 rfl (lv_at hl 2 rfl) ?_
    refine lv_iconst (v := 0) hx hb dX6_sooner_9 (by decide) ?_
    refine lv_iconst (v := 1) hx hb dX6_sooner_10 (by decide) ?_
    refine kS_i (wr := [(h6, .inr (6, [.ref a_mt, .int my, .ref a_mo, .ref a_md, .ref a_mb, .ref a_ms, .ref a_mp, .int mk, .ref a_mi, .int mq, .ref a_mn, .int mz, .int ma, .ref a_mh, .ref a_mg, .ref a_mr, .ref a_mx])), (a_mt, .inl (cI, 200, .inl mt)), (a_mo, .inl (cI, 16, .inl mo)), (a_md, .inl (cI, 16, .inl md)), (a_mb, .inl (cI, 56, .inl mb)), (a_ms, .inl (cI, 56, .inl ms)), (a_mp, .inl (cI, 448, .inl mp)), (a_mi, .inl (cI, 112, .inl mi)), (a_mn, .inl (cI, 12, .inl mn)), (a_mh, .inl (cI, 42, .inl mh)), (a_mg, .inl (cI, 56, .inl mg)), (a_mr, .inl (cI, 6, .inl mr)), (a_mx, .inl (cI, 6, .inl mx))]) (As := [.int x2, .int (0 : Int32), .int (1 : Int32)]) (n := 3) ⟨hx, hb, hml, hown, hts⟩ hK hP hD hS hA (c_X6_in l D cI cC cQ   x2 (0 : Int32) (1 : Int32) _ h) gX6_sooner_X6_in rfl ⟨rfl, rfl⟩ yoX6_in ⟨Nat.le_of_ble_eq_true rfl, Nat.le_of_ble_eq_true rfl⟩ rfl hl.1 rfl (Nat.le_of_ble_eq_true rfl) dX6_sooner_11 ⟨Nat.zero_le _, Nat.zero_le _⟩ [] [0, 1, 2, 3, 4, 5, 6, 7, 8, 9, 10, 11, 12] rfl (by decide) rfl (by decide) (by decide) (fun r_4 u H locs h hP hD hS => ?_)
    have hP : va_P D vwCl [(h6, .inr (6, [.ref a_mt, .int my, .ref a_mo, .ref a_md, .ref a_mb, .ref a_ms, .ref a_mp, .int mk, .ref a_mi, .int mq, .ref a_mn, .int mz, .int ma, .ref a_mh, .ref a_mg, .ref a_mr, .ref a_mx])), (a_mt, .inl (cI, 200, .inl mt)), (a_mo, .inl (cI, 16, .inl mo)), (a_md, .inl (cI, 16, .inl md)), (a_mb, .inl (cI, 56, .inl mb)), (a_ms, .inl (cI, 56, .inl ms)), (a_mp, .inl (cI, 448, .inl mp)), (a_mi, .inl (cI, 112, .inl mi)), (a_mn, .inl (cI, 12, .inl mn)), (a_mh, .inl (cI, 42, .inl mh)), (a_mg, .inl (cI, 56, .inl mg)), (a_mr, .inl (cI, 6, .inl mr)), (a_mx, .inl (cI, 6, .inl mx))] H := hP
    have hD : va_D A [(h6, .inr (6, [.ref a_mt, .int my, .ref a_mo, .ref a_md, .ref a_mb, .ref a_ms, .ref a_mp, .int mk, .ref a_mi, .int mq, .ref a_mn, .int mz, .int ma, .ref a_mh, .ref a_mg, .ref a_mr, .ref a_mx])), (a_mt, .inl (cI, 200, .inl mt)), (a_mo, .inl (cI, 16, .inl mo)), (a_md, .inl (cI, 16, .inl md)), (a_mb, .inl (cI, 56, .inl mb)), (a_ms, .inl (cI, 56, .inl ms)), (a_mp, .inl (cI, 448, .inl mp)), (a_mi, .inl (cI, 112, .inl mi)), (a_mn, .inl (cI, 12, .inl mn)), (a_mh, .inl (cI, 42, .inl mh)), (a_mg, .inl (cI, 56, .inl mg)), (a_mr, .inl (cI, 6, .inl mr)), (a_mx, .inl (cI, 6, .inl mx))] := hD
    obtain ⟨b_5, h⟩ := h
    refine lv_if_ne (tgt := 19) hx hb dX6_sooner_14 (by decide) (fun c_6 => ?_) (fun c_6 => ?_)
    · have h := h.2 c_6
      refine lv_aload_n hx hb dX6_sooner_19 rfl (lv_at hl 0 rfl) ?_
      refine va_get (D := D) (ci := 6) (v := .ref a_ms) (C := RX6) (T := TX6) (N := 17) hx hb hts hin6 hown hK.1 hP 0 rfl rfl 5 (by decide) (k_0) (fun _ h9 => h9) rfl dX6_sooner_20 ?_
      refine lv_bipush (v := 8) hx hb dX6_sooner_23 (by decide) ?_
      refine lv_iload_n hx hb dX6_sooner_25 rfl (lv_at hl 1 rfl) ?_
      refine lv_iadd hx hb dX6_sooner_26 ?_
      refine z_iald (k := ((8 : Int32) + x1).toNatClampNeg) hx hb hK.1 hP 5 rfl rfl h.1 dX6_sooner_27 ?_
      have h := h.2
      refine lv_bipush (v := 9) hx hb dX6_sooner_28 (by decide) ?_
      refine lv_icmp_ne (tgt := 36) hx hb dX6_sooner_30 (by decide) (fun c_7 => ?_) (fun c_7 => ?_)
      · have h := h.2 c_7
        refine lv_aload_n hx hb dX6_sooner_36 rfl (lv_at hl 0 rfl) ?_
        refine lv_iload_n hx hb dX6_sooner_37 rfl (lv_at hl 1 rfl) ?_
        refine k0V_i (As := [.int x1]) (n := 1) ⟨hx, hb, hml, hown, hts⟩ hK hP hD hS hA (c_X6_comesIn l D cI cC cQ h6 a_mt a_mo a_md a_mb a_ms a_mp a_mi a_mn a_mh a_mg a_mr a_mx mt my mo md mb ms mp mk mi mq mn mz ma mh mg mr mx x1 _ h) gX6_sooner_X6_comesIn rfl rfl ⟨rfl, rfl⟩ yoX6_comesIn ⟨Nat.le_of_ble_eq_true rfl, Nat.le_of_ble_eq_true rfl⟩ (q0 := 0) (ci := 6) rfl rfl rfl rfl hl.1 rfl (Nat.le_of_ble_eq_true rfl) dX6_sooner_38 ⟨Nat.zero_le _, Nat.zero_le _⟩ (fun r_8 u H locs h hP hD hS => ?_)
        obtain ⟨ms_9, mh_10, mg_11⟩ := u
        have hP : va_P D vwCl [(h6, .inr (6, [.ref a_mt, .int my, .ref a_mo, .ref a_md, .ref a_mb, .ref a_ms, .ref a_mp, .int mk, .ref a_mi, .int mq, .ref a_mn, .int mz, .int ma, .ref a_mh, .ref a_mg, .ref a_mr, .ref a_mx])), (a_mt, .inl (cI, 200, .inl mt)), (a_mo, .inl (cI, 16, .inl mo)), (a_md, .inl (cI, 16, .inl md)), (a_mb, .inl (cI, 56, .inl mb)), (a_ms, .inl (cI, 56, .inl ms_9)), (a_mp, .inl (cI, 448, .inl mp)), (a_mi, .inl (cI, 112, .inl mi)), (a_mn, .inl (cI, 12, .inl mn)), (a_mh, .inl (cI, 42, .inl mh_10)), (a_mg, .inl (cI, 56, .inl mg_11)), (a_mr, .inl (cI, 6, .inl mr)), (a_mx, .inl (cI, 6, .inl mx))] H := hP
        have hD : va_D A [(h6, .inr (6, [.ref a_mt, .int my, .ref a_mo, .ref a_md, .ref a_mb, .ref a_ms, .ref a_mp, .int mk, .ref a_mi, .int mq, .ref a_mn, .int mz, .int ma, .ref a_mh, .ref a_mg, .ref a_mr, .ref a_mx])), (a_mt, .inl (cI, 200, .inl mt)), (a_mo, .inl (cI, 16, .inl mo)), (a_md, .inl (cI, 16, .inl md)), (a_mb, .inl (cI, 56, .inl mb)), (a_ms, .inl (cI, 56, .inl ms_9)), (a_mp, .inl (cI, 448, .inl mp)), (a_mi, .inl (cI, 112, .inl mi)), (a_mn, .inl (cI, 12, .inl mn)), (a_mh, .inl (cI, 42, .inl mh_10)), (a_mg, .inl (cI, 56, .inl mg_11)), (a_mr, .inl (cI, 6, .inl mr)), (a_mx, .inl (cI, 6, .inl mx))] := hD
        refine lv_istore_n (lv' := [(3, .int r_8), (0, .ref h6), (1, .int x1), (2, .int x2)]) hx hb dX6_sooner_41 rfl hl (by decide) rfl (fun ls hl => ?_)
        refine lv_iload_n hx hb dX6_sooner_42 rfl (lv_at hl 0 rfl) ?_
        refine lv_bipush (v := -4) hx hb dX6_sooner_43 (by decide) ?_
        refine lv_icmp_ne (tgt := 53) hx hb dX6_sooner_45 (by decide) (fun c_12 => ?_) (fun c_12 => ?_)
        · have h := h.2 c_12
          refine lv_iload_n hx hb dX6_sooner_53 rfl (lv_at hl 0 rfl) ?_
          exact J54 h hP hD hS (lv_sub hl [1, 2, 3] rfl)
        · have h := h.1 c_12
          refine lv_bipush (v := 61) hx hb dX6_sooner_48 (by decide) ?_
          refine lv_goto (tgt := 54) hx hb dX6_sooner_50 (by decide) ?_
          exact J54 h hP hD hS (lv_sub hl [1, 2, 3] rfl)
      · have h := h.1 c_7
        refine lv_bipush (v := -2) hx hb dX6_sooner_33 (by decide) ?_
        exact hret (-2 : Int32) (ms, mh, mg) _ _ _ ls h hP hD hS dX6_sooner_35
    · have h := h.1 c_6
      refine lv_iconst (v := -1) hx hb dX6_sooner_17 (by decide) ?_
      exact hret (-1 : Int32) (ms, mh, mg) _ _ _ ls h hP hD hS dX6_sooner_18

/-! DoubtCourtModel.given -/
abbrev rmX6_given : Room := { frames := 1, cells := 0, slots := 0, locals := 22 }
theorem yoX6_given : yX6_given.cls ≠ "java/lang/invoke/MethodHandle" ∧ yX6_given.cls ≠ "java/lang/invoke/VarHandle" ∧ (parseMethodDescriptor yX6_given.desc).map (fun d => d.parameters.length) = some 0 := by decide +kernel
set_option maxHeartbeats 4000000 in
set_option maxRecDepth 100000 in
theorem c_X6_given (l : Launch) (D : va_G) (cI cC cQ : ClassId) (h6 : Nat) (a_mt : Nat) (a_mo : Nat) (a_md : Nat) (a_mb : Nat) (a_ms : Nat) (a_mp : Nat) (a_mi : Nat) (a_mn : Nat) (a_mh : Nat) (a_mg : Nat) (a_mr : Nat) (a_mx : Nat) (mt : Nat → Int32) (my : Int32) (mo : Nat → Int32) (md : Nat → Int32) (mb : Nat → Int32) (ms : Nat → Int32) (mp : Nat → Int32) (mk : Int32) (mi : Nat → Int32) (mq : Int32) (mn : Nat → Int32) (mz : Int32) (ma : Int32) (mh : Nat → Int32) (mg : Nat → Int32) (mr : Nat → Int32) (mx : Nat → Int32) (Q : Int32 → (Nat → Int32) → (Nat → Int32) → Prop) (h : wX6_given mo ms mr mx Q) : Ci (S := (Nat → Int32) × (Nat → Int32)) l D cI cC cQ yX6_given wsX6_given rmX6_given [.ref h6] [(h6, .inr (6, [.ref a_mt, .int my, .ref a_mo, .ref a_md, .ref a_mb, .ref a_ms, .ref a_mp, .int mk, .ref a_mi, .int mq, .ref a_mn, .int mz, .int ma, .ref a_mh, .ref a_mg, .ref a_mr, .ref a_mx])), (a_mt, .inl (cI, 200, .inl mt)), (a_mo, .inl (cI, 16, .inl mo)), (a_md, .inl (cI, 16, .inl md)), (a_mb, .inl (cI, 56, .inl mb)), (a_ms, .inl (cI, 56, .inl ms)), (a_mp, .inl (cI, 448, .inl mp)), (a_mi, .inl (cI, 112, .inl mi)), (a_mn, .inl (cI, 12, .inl mn)), (a_mh, .inl (cI, 42, .inl mh)), (a_mg, .inl (cI, 56, .inl mg)), (a_mr, .inl (cI, 6, .inl mr)), (a_mx, .inl (cI, 6, .inl mx))] (fun u => [(h6, .inr (6, [.ref a_mt, .int my, .ref a_mo, .ref a_md, .ref a_mb, .ref a_ms, .ref a_mp, .int mk, .ref a_mi, .int mq, .ref a_mn, .int mz, .int ma, .ref a_mh, .ref a_mg, .ref a_mr, .ref a_mx])), (a_mt, .inl (cI, 200, .inl mt)), (a_mo, .inl (cI, 16, .inl mo)), (a_md, .inl (cI, 16, .inl md)), (a_mb, .inl (cI, 56, .inl mb)), (a_ms, .inl (cI, 56, .inl ms)), (a_mp, .inl (cI, 448, .inl mp)), (a_mi, .inl (cI, 112, .inl mi)), (a_mn, .inl (cI, 12, .inl mn)), (a_mh, .inl (cI, 42, .inl mh)), (a_mg, .inl (cI, 56, .inl mg)), (a_mr, .inl (cI, 6, .inl u.1)), (a_mx, .inl (cI, 6, .inl u.2))]) (fun r u => Q r u.1 u.2) := by
  refine Ci_mk (cc := cX6_given) (maxL := 9) (by decide) rfl (Nat.le_of_ble_eq_true rfl) ?_
  intro p e s m args below meth c A Z ls hx hb hml hown hts hK hA hP hD hret hl
  have hS : va_S A s.heap s.heap [] := va_S.rf
  have hin6 : ∀ w ∈ u_ws RX6 TX6 17, w ∈ wsX6_given := by decide +kernel
  have k_0 := hts (.fieldLink RX6 13 "DoubtCourtModel" "told" "[I") (by decide +kernel)
  have k_1 := hts (.fieldLink RX6 40 "DoubtCourtModel" "row" "[I") (by decide +kernel)
  have k_2 := hts (.fieldLink RX6 43 "DoubtCourtModel" "best" "[I") (by decide +kernel)
  have k_3 := hts (.fieldLink RX6 22 "DoubtCourtModel" "s" "[I") (by decide +kernel)
  have hl : lv_has ls 9 [(0, .ref h6)] := hl
  have L110 : ∀ {K153 : Int32 → Prop} (n : Nat) {x1 : Int32} {x2 : Int32} {x3 : Int32} {x4 : Int32} {x5 : Int32} {x6 : Int32} {x7 : Int32} {mr : Nat → Int32} {mx : Nat → Int32} {H : Heap} {locs : List Loc} {ls : Array Slot}, wX6_given_L110 x1 x4 x5 mr K153 n x6 x7 → va_P D vwCl [(h6, .inr (6, [.ref a_mt, .int my, .ref a_mo, .ref a_md, .ref a_mb, .ref a_ms, .ref a_mp, .int mk, .ref a_mi, .int mq, .ref a_mn, .int mz, .int ma, .ref a_mh, .ref a_mg, .ref a_mr, .ref a_mx])), (a_mt, .inl (cI, 200, .inl mt)), (a_mo, .inl (cI, 16, .inl mo)), (a_md, .inl (cI, 16, .inl md)), (a_mb, .inl (cI, 56, .inl mb)), (a_ms, .inl (cI, 56, .inl ms)), (a_mp, .inl (cI, 448, .inl mp)), (a_mi, .inl (cI, 112, .inl mi)), (a_mn, .inl (cI, 12, .inl mn)), (a_mh, .inl (cI, 42, .inl mh)), (a_mg, .inl (cI, 56, .inl mg)), (a_mr, .inl (cI, 6, .inl mr)), (a_mx, .inl (cI, 6, .inl mx))] H → va_D A [(h6, .inr (6, [.ref a_mt, .int my, .ref a_mo, .ref a_md, .ref a_mb, .ref a_ms, .ref a_mp, .int mk, .ref a_mi, .int mq, .ref a_mn, .int mz, .int ma, .ref a_mh, .ref a_mg, .ref a_mr, .ref a_mx])), (a_mt, .inl (cI, 200, .inl mt)), (a_mo, .inl (cI, 16, .inl mo)), (a_md, .inl (cI, 16, .inl md)), (a_mb, .inl (cI, 56, .inl mb)), (a_ms, .inl (cI, 56, .inl ms)), (a_mp, .inl (cI, 448, .inl mp)), (a_mi, .inl (cI, 112, .inl mi)), (a_mn, .inl (cI, 12, .inl mn)), (a_mh, .inl (cI, 42, .inl mh)), (a_mg, .inl (cI, 56, .inl mg)), (a_mr, .inl (cI, 6, .inl mr)), (a_mx, .inl (cI, 6, .inl mx))] → va_S A s.heap H locs → lv_has ls 9 [(0, .ref h6), (1, .int x1), (2, .int x2), (3, .int x3), (4, .int x4), (5, .int x5), (6, .int x6), (7, .int x7)] → (∀ (x6 : Int32) (H : Heap) (locs : List Loc) (ls : Array Slot), K153 x6 → va_P D vwCl [(h6, .inr (6, [.ref a_mt, .int my, .ref a_mo, .ref a_md, .ref a_mb, .ref a_ms, .ref a_mp, .int mk, .ref a_mi, .int mq, .ref a_mn, .int mz, .int ma, .ref a_mh, .ref a_mg, .ref a_mr, .ref a_mx])), (a_mt, .inl (cI, 200, .inl mt)), (a_mo, .inl (cI, 16, .inl mo)), (a_md, .inl (cI, 16, .inl md)), (a_mb, .inl (cI, 56, .inl mb)), (a_ms, .inl (cI, 56, .inl ms)), (a_mp, .inl (cI, 448, .inl mp)), (a_mi, .inl (cI, 112, .inl mi)), (a_mn, .inl (cI, 12, .inl mn)), (a_mh, .inl (cI, 42, .inl mh)), (a_mg, .inl (cI, 56, .inl mg)), (a_mr, .inl (cI, 6, .inl mr)), (a_mx, .inl (cI, 6, .inl mx))] H → va_D A [(h6, .inr (6, [.ref a_mt, .int my, .ref a_mo, .ref a_md, .ref a_mb, .ref a_ms, .ref a_mp, .int mk, .ref a_mi, .int mq, .ref a_mn, .int mz, .int ma, .ref a_mh, .ref a_mg, .ref a_mr, .ref a_mx])), (a_mt, .inl (cI, 200, .inl mt)), (a_mo, .inl (cI, 16, .inl mo)), (a_md, .inl (cI, 16, .inl md)), (a_mb, .inl (cI, 56, .inl mb)), (a_ms, .inl (cI, 56, .inl ms)), (a_mp, .inl (cI, 448, .inl mp)), (a_mi, .inl (cI, 112, .inl mi)), (a_mn, .inl (cI, 12, .inl mn)), (a_mh, .inl (cI, 42, .inl mh)), (a_mg, .inl (cI, 56, .inl mg)), (a_mr, .inl (cI, 6, .inl mr)), (a_mx, .inl (cI, 6, .inl mx))] → va_S A s.heap H locs → lv_has ls 9 [(0, .ref h6), (1, .int x1), (2, .int x2), (3, .int x3), (4, .int x4), (6, .int x6)] → W p l e rmX6_given s m args below meth c H locs 0 0 Z (F0 m 153 ls [])) → W p l e rmX6_given s m args below meth c H locs 0 0 Z (F0 m 110 ls []) := by
    intro K153
    intro n
    induction n with
    | zero =>
      intro x1 x2 x3 x4 x5 x6 x7 mr mx H locs ls h hP hD hS hl hk153
      exact (show False from h).elim
    | succ n ih =>
      intro x1 x2 x3 x4 x5 x6 x7 mr mx H locs ls h hP hD hS hl hk153
      refine lv_iload hx hb dX6_given_110 (lv_at hl 7 rfl) ?_
      refine lv_iload hx hb dX6_given_112 (lv_at hl 4 rfl) ?_
      refine lv_icmp_ge (tgt := 153) hx hb dX6_given_114 (by decide) (fun c_140 => ?_) (fun c_140 => ?_)
      · have h := h.1 c_140
        exact hk153 x6 _ _ _ h hP hD hS (lv_sub hl [0, 1, 2, 3, 4, 6] rfl)
      · have h := h.2 c_140
        refine lv_iload hx hb dX6_given_117 (lv_at hl 6 rfl) ?_
        refine lv_if_eq (tgt := 144) hx hb dX6_given_119 (by decide) (fun c_141 => ?_) (fun c_141 => ?_)
        · have h := h.1 c_141
          refine lv_iconst (v := 0) hx hb dX6_given_144 (by decide) ?_
          refine lv_istore (lv' := [(6, .int (0 : Int32)), (0, .ref h6), (1, .int x1), (2, .int x2), (3, .int x3), (4, .int x4), (5, .int x5), (7, .int x7)]) hx hb dX6_given_145 hl (by decide) rfl (fun ls hl => ?_)
          refine lv_iinc (v := (x7 + (1 : Int32))) (lv' := [(7, .int (x7 + (1 : Int32))), (6, .int (0 : Int32)), (0, .ref h6), (1, .int x1), (2, .int x2), (3, .int x3), (4, .int x4), (5, .int x5)]) hx hb dX6_given_147 hl (k := 7) rfl rfl (by decide) rfl (fun ls hl => ?_)
          refine lv_goto (tgt := 110) hx hb dX6_given_150 (by decide) ?_
          exact ih h hP hD hS (lv_sub hl [2, 3, 4, 5, 6, 7, 1, 0] rfl) hk153
        · have h := h.2 c_141
          refine lv_iload hx hb dX6_given_122 (lv_at hl 5 rfl) ?_
          refine lv_iload_n hx hb dX6_given_124 rfl (lv_at hl 1 rfl) ?_
          refine lv_icmp_eq (tgt := 140) hx hb dX6_given_125 (by decide) (fun c_142 => ?_) (fun c_142 => ?_)
          · have h := h.1 c_142
            refine lv_iconst (v := 1) hx hb dX6_given_140 (by decide) ?_
            refine lv_goto (tgt := 145) hx hb dX6_given_141 (by decide) ?_
            refine lv_istore (lv' := [(6, .int (1 : Int32)), (0, .ref h6), (1, .int x1), (2, .int x2), (3, .int x3), (4, .int x4), (5, .int x5), (7, .int x7)]) hx hb dX6_given_145 hl (by decide) rfl (fun ls hl => ?_)
            refine lv_iinc (v := (x7 + (1 : Int32))) (lv' := [(7, .int (x7 + (1 : Int32))), (6, .int (1 : Int32)), (0, .ref h6), (1, .int x1), (2, .int x2), (3, .int x3), (4, .int x4), (5, .int x5)]) hx hb dX6_given_147 hl (k := 7) rfl rfl (by decide) rfl (fun ls hl => ?_)
            refine lv_goto (tgt := 110) hx hb dX6_given_150 (by decide) ?_
            exact ih h hP hD hS (lv_sub hl [2, 3, 4, 5, 6, 7, 1, 0] rfl) hk153
          · have h := h.2 c_142
            refine lv_aload_n hx hb dX6_given_128 rfl (lv_at hl 0 rfl) ?_
            refine va_get (D := D) (ci := 6) (v := .ref a_mr) (C := RX6) (T := TX6) (N := 17) hx hb hts hin6 hown hK.1 hP 0 rfl rfl 15 (by decide) (k_1) (fun _ h9 => h9) rfl dX6_given_129 ?_
            refine lv_iload hx hb dX6_given_132 (lv_at hl 7 rfl) ?_
            refine z_iald (k := x7.toNatClampNeg) hx hb hK.1 hP 11 rfl rfl h.1 dX6_given_134 ?_
            have h := h.2
            refine lv_iload hx hb dX6_given_135 (lv_at hl 5 rfl) ?_
            refine lv_icmp_eq (tgt := 144) hx hb dX6_given_137 (by decide) (fun c_143 => ?_) (fun c_143 => ?_)
            · have h := h.1 c_143
              refine lv_iconst (v := 0) hx hb dX6_given_144 (by decide) ?_
              refine lv_istore (lv' := [(6, .int (0 : Int32)), (0, .ref h6), (1, .int x1), (2, .int x2), (3, .int x3), (4, .int x4), (5, .int x5), (7, .int x7)]) hx hb dX6_given_145 hl (by decide) rfl (fun ls hl => ?_)
              refine lv_iinc (v := (x7 + (1 : Int32))) (lv' := [(7, .int (x7 + (1 : Int32))), (6, .int (0 : Int32)), (0, .ref h6), (1, .int x1), (2, .int x2), (3, .int x3), (4, .int x4), (5, .int x5)]) hx hb dX6_given_147 hl (k := 7) rfl rfl (by decide) rfl (fun ls hl => ?_)
              refine lv_goto (tgt := 110) hx hb dX6_given_150 (by decide) ?_
              exact ih h hP hD hS (lv_sub hl [2, 3, 4, 5, 6, 7, 1, 0] rfl) hk153
            · have h := h.2 c_143
              refine lv_iconst (v := 1) hx hb dX6_given_140 (by decide) ?_
              refine lv_goto (tgt := 145) hx hb dX6_given_141 (by decide) ?_
              refine lv_istore (lv' := [(6, .int (1 : Int32)), (0, .ref h6), (1, .int x1), (2, .int x2), (3, .int x3), (4, .int x4), (5, .int x5), (7, .int x7)]) hx hb dX6_given_145 hl (by decide) rfl (fun ls hl => ?_)
              refine lv_iinc (v := (x7 + (1 : Int32))) (lv' := [(7, .int (x7 + (1 : Int32))), (6, .int (1 : Int32)), (0, .ref h6), (1, .int x1), (2, .int x2), (3, .int x3), (4, .int x4), (5, .int x5)]) hx hb dX6_given_147 hl (k := 7) rfl rfl (by decide) rfl (fun ls hl => ?_)
              refine lv_goto (tgt := 110) hx hb dX6_given_150 (by decide) ?_
              exact ih h hP hD hS (lv_sub hl [2, 3, 4, 5, 6, 7, 1, 0] rfl) hk153
  have L172 : ∀ {K205 : Int32 → Prop} (n : Nat) {x1 : Int32} {x2 : Int32} {x3 : Int32} {x4 : Int32} {x7 : Int32} {x8 : Int32} {mr : Nat → Int32} {mx : Nat → Int32} {H : Heap} {locs : List Loc} {ls : Array Slot}, wX6_given_L172 x1 x2 mr K205 n x7 x8 → va_P D vwCl [(h6, .inr (6, [.ref a_mt, .int my, .ref a_mo, .ref a_md, .ref a_mb, .ref a_ms, .ref a_mp, .int mk, .ref a_mi, .int mq, .ref a_mn, .int mz, .int ma, .ref a_mh, .ref a_mg, .ref a_mr, .ref a_mx])), (a_mt, .inl (cI, 200, .inl mt)), (a_mo, .inl (cI, 16, .inl mo)), (a_md, .inl (cI, 16, .inl md)), (a_mb, .inl (cI, 56, .inl mb)), (a_ms, .inl (cI, 56, .inl ms)), (a_mp, .inl (cI, 448, .inl mp)), (a_mi, .inl (cI, 112, .inl mi)), (a_mn, .inl (cI, 12, .inl mn)), (a_mh, .inl (cI, 42, .inl mh)), (a_mg, .inl (cI, 56, .inl mg)), (a_mr, .inl (cI, 6, .inl mr)), (a_mx, .inl (cI, 6, .inl mx))] H → va_D A [(h6, .inr (6, [.ref a_mt, .int my, .ref a_mo, .ref a_md, .ref a_mb, .ref a_ms, .ref a_mp, .int mk, .ref a_mi, .int mq, .ref a_mn, .int mz, .int ma, .ref a_mh, .ref a_mg, .ref a_mr, .ref a_mx])), (a_mt, .inl (cI, 200, .inl mt)), (a_mo, .inl (cI, 16, .inl mo)), (a_md, .inl (cI, 16, .inl md)), (a_mb, .inl (cI, 56, .inl mb)), (a_ms, .inl (cI, 56, .inl ms)), (a_mp, .inl (cI, 448, .inl mp)), (a_mi, .inl (cI, 112, .inl mi)), (a_mn, .inl (cI, 12, .inl mn)), (a_mh, .inl (cI, 42, .inl mh)), (a_mg, .inl (cI, 56, .inl mg)), (a_mr, .inl (cI, 6, .inl mr)), (a_mx, .inl (cI, 6, .inl mx))] → va_S A s.heap H locs → lv_has ls 9 [(0, .ref h6), (1, .int x1), (2, .int x2), (3, .int x3), (4, .int x4), (7, .int x7), (8, .int x8)] → (∀ (x7 : Int32) (H : Heap) (locs : List Loc) (ls : Array Slot), K205 x7 → va_P D vwCl [(h6, .inr (6, [.ref a_mt, .int my, .ref a_mo, .ref a_md, .ref a_mb, .ref a_ms, .ref a_mp, .int mk, .ref a_mi, .int mq, .ref a_mn, .int mz, .int ma, .ref a_mh, .ref a_mg, .ref a_mr, .ref a_mx])), (a_mt, .inl (cI, 200, .inl mt)), (a_mo, .inl (cI, 16, .inl mo)), (a_md, .inl (cI, 16, .inl md)), (a_mb, .inl (cI, 56, .inl mb)), (a_ms, .inl (cI, 56, .inl ms)), (a_mp, .inl (cI, 448, .inl mp)), (a_mi, .inl (cI, 112, .inl mi)), (a_mn, .inl (cI, 12, .inl mn)), (a_mh, .inl (cI, 42, .inl mh)), (a_mg, .inl (cI, 56, .inl mg)), (a_mr, .inl (cI, 6, .inl mr)), (a_mx, .inl (cI, 6, .inl mx))] H → va_D A [(h6, .inr (6, [.ref a_mt, .int my, .ref a_mo, .ref a_md, .ref a_mb, .ref a_ms, .ref a_mp, .int mk, .ref a_mi, .int mq, .ref a_mn, .int mz, .int ma, .ref a_mh, .ref a_mg, .ref a_mr, .ref a_mx])), (a_mt, .inl (cI, 200, .inl mt)), (a_mo, .inl (cI, 16, .inl mo)), (a_md, .inl (cI, 16, .inl md)), (a_mb, .inl (cI, 56, .inl mb)), (a_ms, .inl (cI, 56, .inl ms)), (a_mp, .inl (cI, 448, .inl mp)), (a_mi, .inl (cI, 112, .inl mi)), (a_mn, .inl (cI, 12, .inl mn)), (a_mh, .inl (cI, 42, .inl mh)), (a_mg, .inl (cI, 56, .inl mg)), (a_mr, .inl (cI, 6, .inl mr)), (a_mx, .inl (cI, 6, .inl mx))] → va_S A s.heap H locs → lv_has ls 9 [(0, .ref h6), (1, .int x1), (2, .int x2), (3, .int x3), (4, .int x4), (7, .int x7)] → W p l e rmX6_given s m args below meth c H locs 0 0 Z (F0 m 205 ls [])) → W p l e rmX6_given s m args below meth c H locs 0 0 Z (F0 m 172 ls []) := by
    intro K205
    intro n
    induction n with
    | zero =>
      intro x1 x2 x3 x4 x7 x8 mr mx H locs ls h hP hD hS hl hk205
      exact (show False from h).elim
    | succ n ih =>
      intro x1 x2 x3 x4 x7 x8 mr mx H locs ls h hP hD hS hl hk205
      refine lv_iload hx hb dX6_given_172 (lv_at hl 6 rfl) ?_
      refine lv_iload_n hx hb dX6_given_174 rfl (lv_at hl 2 rfl) ?_
      refine lv_icmp_ge (tgt := 205) hx hb dX6_given_175 (by decide) (fun c_153 => ?_) (fun c_153 => ?_)
      · have h := h.1 c_153
        exact hk205 x7 _ _ _ h hP hD hS (lv_sub hl [0, 1, 2, 3, 4, 5] rfl)
      · have h := h.2 c_153
        refine lv_iload hx hb dX6_given_178 (lv_at hl 5 rfl) ?_
        refine lv_aload_n hx hb dX6_given_180 rfl (lv_at hl 0 rfl) ?_
        refine va_get (D := D) (ci := 6) (v := .ref a_mr) (C := RX6) (T := TX6) (N := 17) hx hb hts hin6 hown hK.1 hP 0 rfl rfl 15 (by decide) (k_1) (fun _ h9 => h9) rfl dX6_given_181 ?_
        refine lv_iload hx hb dX6_given_184 (lv_at hl 6 rfl) ?_
        refine z_iald (k := x8.toNatClampNeg) hx hb hK.1 hP 11 rfl rfl h.1 dX6_given_186 ?_
        have h := h.2
        refine lv_iload_n hx hb dX6_given_187 rfl (lv_at hl 1 rfl) ?_
        refine lv_icmp_ne (tgt := 195) hx hb dX6_given_188 (by decide) (fun c_154 => ?_) (fun c_154 => ?_)
        · have h := h.2 c_154
          refine lv_iconst (v := 1) hx hb dX6_given_195 (by decide) ?_
          refine lv_iadd hx hb dX6_given_196 ?_
          refine lv_topi (fun v_155 ev_155 => ?_)
          have h := h v_155 ev_155
          refine lv_istore (lv' := [(7, .int v_155), (0, .ref h6), (1, .int x1), (2, .int x2), (3, .int x3), (4, .int x4), (8, .int x8)]) hx hb dX6_given_197 hl (by decide) rfl (fun ls hl => ?_)
          refine lv_iinc (v := (x8 + (1 : Int32))) (lv' := [(8, .int (x8 + (1 : Int32))), (7, .int v_155), (0, .ref h6), (1, .int x1), (2, .int x2), (3, .int x3), (4, .int x4)]) hx hb dX6_given_199 hl (k := 6) rfl rfl (by decide) rfl (fun ls hl => ?_)
          refine lv_goto (tgt := 172) hx hb dX6_given_202 (by decide) ?_
          exact ih h hP hD hS (lv_sub hl [2, 3, 4, 5, 6, 1, 0] rfl) hk205
        · have h := h.1 c_154
          refine lv_iconst (v := 0) hx hb dX6_given_191 (by decide) ?_
          refine lv_goto (tgt := 196) hx hb dX6_given_192 (by decide) ?_
          refine lv_iadd hx hb dX6_given_196 ?_
          refine lv_topi (fun v_156 ev_156 => ?_)
          have h := h v_156 ev_156
          refine lv_istore (lv' := [(7, .int v_156), (0, .ref h6), (1, .int x1), (2, .int x2), (3, .int x3), (4, .int x4), (8, .int x8)]) hx hb dX6_given_197 hl (by decide) rfl (fun ls hl => ?_)
          refine lv_iinc (v := (x8 + (1 : Int32))) (lv' := [(8, .int (x8 + (1 : Int32))), (7, .int v_156), (0, .ref h6), (1, .int x1), (2, .int x2), (3, .int x3), (4, .int x4)]) hx hb dX6_given_199 hl (k := 6) rfl rfl (by decide) rfl (fun ls hl => ?_)
          refine lv_goto (tgt := 172) hx hb dX6_given_202 (by decide) ?_
          exact ih h hP hD hS (lv_sub hl [2, 3, 4, 5, 6, 1, 0] rfl) hk205
  have L208 : ∀ {K26 : Int32 → (Nat → Int32) → Prop} (n : Nat) {x1 : Int32} {x2 : Int32} {x3 : Int32} {x4 : Int32} {x7 : Int32} {x8 : Int32} {mr : Nat → Int32} {mx : Nat → Int32} {H : Heap} {locs : List Loc} {ls : Array Slot}, wX6_given_L208 x2 x3 x7 mr K26 n x8 mx → va_P D vwCl [(h6, .inr (6, [.ref a_mt, .int my, .ref a_mo, .ref a_md, .ref a_mb, .ref a_ms, .ref a_mp, .int mk, .ref a_mi, .int mq, .ref a_mn, .int mz, .int ma, .ref a_mh, .ref a_mg, .ref a_mr, .ref a_mx])), (a_mt, .inl (cI, 200, .inl mt)), (a_mo, .inl (cI, 16, .inl mo)), (a_md, .inl (cI, 16, .inl md)), (a_mb, .inl (cI, 56, .inl mb)), (a_ms, .inl (cI, 56, .inl ms)), (a_mp, .inl (cI, 448, .inl mp)), (a_mi, .inl (cI, 112, .inl mi)), (a_mn, .inl (cI, 12, .inl mn)), (a_mh, .inl (cI, 42, .inl mh)), (a_mg, .inl (cI, 56, .inl mg)), (a_mr, .inl (cI, 6, .inl mr)), (a_mx, .inl (cI, 6, .inl mx))] H → va_D A [(h6, .inr (6, [.ref a_mt, .int my, .ref a_mo, .ref a_md, .ref a_mb, .ref a_ms, .ref a_mp, .int mk, .ref a_mi, .int mq, .ref a_mn, .int mz, .int ma, .ref a_mh, .ref a_mg, .ref a_mr, .ref a_mx])), (a_mt, .inl (cI, 200, .inl mt)), (a_mo, .inl (cI, 16, .inl mo)), (a_md, .inl (cI, 16, .inl md)), (a_mb, .inl (cI, 56, .inl mb)), (a_ms, .inl (cI, 56, .inl ms)), (a_mp, .inl (cI, 448, .inl mp)), (a_mi, .inl (cI, 112, .inl mi)), (a_mn, .inl (cI, 12, .inl mn)), (a_mh, .inl (cI, 42, .inl mh)), (a_mg, .inl (cI, 56, .inl mg)), (a_mr, .inl (cI, 6, .inl mr)), (a_mx, .inl (cI, 6, .inl mx))] → va_S A s.heap H locs → lv_has ls 9 [(0, .ref h6), (1, .int x1), (2, .int x2), (3, .int x3), (4, .int x4), (7, .int x7), (8, .int x8)] → (∀ (x3 : Int32) (mx : Nat → Int32) (H : Heap) (locs : List Loc) (ls : Array Slot), K26 x3 mx → va_P D vwCl [(h6, .inr (6, [.ref a_mt, .int my, .ref a_mo, .ref a_md, .ref a_mb, .ref a_ms, .ref a_mp, .int mk, .ref a_mi, .int mq, .ref a_mn, .int mz, .int ma, .ref a_mh, .ref a_mg, .ref a_mr, .ref a_mx])), (a_mt, .inl (cI, 200, .inl mt)), (a_mo, .inl (cI, 16, .inl mo)), (a_md, .inl (cI, 16, .inl md)), (a_mb, .inl (cI, 56, .inl mb)), (a_ms, .inl (cI, 56, .inl ms)), (a_mp, .inl (cI, 448, .inl mp)), (a_mi, .inl (cI, 112, .inl mi)), (a_mn, .inl (cI, 12, .inl mn)), (a_mh, .inl (cI, 42, .inl mh)), (a_mg, .inl (cI, 56, .inl mg)), (a_mr, .inl (cI, 6, .inl mr)), (a_mx, .inl (cI, 6, .inl mx))] H → va_D A [(h6, .inr (6, [.ref a_mt, .int my, .ref a_mo, .ref a_md, .ref a_mb, .ref a_ms, .ref a_mp, .int mk, .ref a_mi, .int mq, .ref a_mn, .int mz, .int ma, .ref a_mh, .ref a_mg, .ref a_mr, .ref a_mx])), (a_mt, .inl (cI, 200, .inl mt)), (a_mo, .inl (cI, 16, .inl mo)), (a_md, .inl (cI, 16, .inl md)), (a_mb, .inl (cI, 56, .inl mb)), (a_ms, .inl (cI, 56, .inl ms)), (a_mp, .inl (cI, 448, .inl mp)), (a_mi, .inl (cI, 112, .inl mi)), (a_mn, .inl (cI, 12, .inl mn)), (a_mh, .inl (cI, 42, .inl mh)), (a_mg, .inl (cI, 56, .inl mg)), (a_mr, .inl (cI, 6, .inl mr)), (a_mx, .inl (cI, 6, .inl mx))] → va_S A s.heap H locs → lv_has ls 9 [(0, .ref h6), (1, .int x1), (2, .int x2), (3, .int x3), (4, .int x4)] → W p l e rmX6_given s m args below meth c H locs 0 0 Z (F0 m 26 ls [])) → W p l e rmX6_given s m args below meth c H locs 0 0 Z (F0 m 208 ls []) := by
    intro K26
    intro n
    induction n with
    | zero =>
      intro x1 x2 x3 x4 x7 x8 mr mx H locs ls h hP hD hS hl hk26
      exact (show False from h).elim
    | succ n ih =>
      intro x1 x2 x3 x4 x7 x8 mr mx H locs ls h hP hD hS hl hk26
      refine lv_iload hx hb dX6_given_208 (lv_at hl 6 rfl) ?_
      refine lv_iload_n hx hb dX6_given_210 rfl (lv_at hl 2 rfl) ?_
      refine lv_icmp_ge (tgt := 240) hx hb dX6_given_211 (by decide) (fun c_162 => ?_) (fun c_162 => ?_)
      · have h := h.1 c_162
        refine lv_iload hx hb dX6_given_240 (lv_at hl 5 rfl) ?_
        refine lv_iload_n hx hb dX6_given_242 rfl (lv_at hl 3 rfl) ?_
        refine lv_icmp_le (tgt := 251) hx hb dX6_given_243 (by decide) (fun c_163 => ?_) (fun c_163 => ?_)
        · have h := h.1 c_163
          refine lv_iload_n hx hb dX6_given_251 rfl (lv_at hl 3 rfl) ?_
          refine lv_istore_n (lv' := [(3, .int x3), (0, .ref h6), (1, .int x1), (2, .int x2), (4, .int x4), (7, .int x7), (8, .int x8)]) hx hb dX6_given_252 rfl hl (by decide) rfl (fun ls hl => ?_)
          refine lv_goto (tgt := 272) hx hb dX6_given_253 (by decide) ?_
          refine lv_goto (tgt := 26) hx hb dX6_given_272 (by decide) ?_
          exact hk26 x3 mx _ _ _ h hP hD hS (lv_sub hl [1, 2, 3, 0, 4] rfl)
        · have h := h.2 c_163
          refine lv_iload hx hb dX6_given_246 (lv_at hl 5 rfl) ?_
          refine lv_goto (tgt := 252) hx hb dX6_given_248 (by decide) ?_
          refine lv_istore_n (lv' := [(3, .int x7), (0, .ref h6), (1, .int x1), (2, .int x2), (4, .int x4), (7, .int x7), (8, .int x8)]) hx hb dX6_given_252 rfl hl (by decide) rfl (fun ls hl => ?_)
          refine lv_goto (tgt := 272) hx hb dX6_given_253 (by decide) ?_
          refine lv_goto (tgt := 26) hx hb dX6_given_272 (by decide) ?_
          exact hk26 x7 mx _ _ _ h hP hD hS (lv_sub hl [1, 2, 3, 0, 4] rfl)
      · have h := h.2 c_162
        refine lv_iload hx hb dX6_given_214 (lv_at hl 5 rfl) ?_
        refine lv_iload_n hx hb dX6_given_216 rfl (lv_at hl 3 rfl) ?_
        refine lv_icmp_le (tgt := 240) hx hb dX6_given_217 (by decide) (fun c_164 => ?_) (fun c_164 => ?_)
        · have h := h.1 c_164
          refine lv_iload hx hb dX6_given_240 (lv_at hl 5 rfl) ?_
          refine lv_iload_n hx hb dX6_given_242 rfl (lv_at hl 3 rfl) ?_
          refine lv_icmp_le (tgt := 251) hx hb dX6_given_243 (by decide) (fun c_165 => ?_) (fun c_165 => ?_)
          · have h := h.1 c_165
            refine lv_iload_n hx hb dX6_given_251 rfl (lv_at hl 3 rfl) ?_
            refine lv_istore_n (lv' := [(3, .int x3), (0, .ref h6), (1, .int x1), (2, .int x2), (4, .int x4), (7, .int x7), (8, .int x8)]) hx hb dX6_given_252 rfl hl (by decide) rfl (fun ls hl => ?_)
            refine lv_goto (tgt := 272) hx hb dX6_given_253 (by decide) ?_
            refine lv_goto (tgt := 26) hx hb dX6_given_272 (by decide) ?_
            exact hk26 x3 mx _ _ _ h hP hD hS (lv_sub hl [1, 2, 3, 0, 4] rfl)
          · have h := h.2 c_165
            refine lv_iload hx hb dX6_given_246 (lv_at hl 5 rfl) ?_
            refine lv_goto (tgt := 252) hx hb dX6_given_248 (by decide) ?_
            refine lv_istore_n (lv' := [(3, .int x7), (0, .ref h6), (1, .int x1), (2, .int x2), (4, .int x4), (7, .int x7), (8, .int x8)]) hx hb dX6_given_252 rfl hl (by decide) rfl (fun ls hl => ?_)
            refine lv_goto (tgt := 272) hx hb dX6_given_253 (by decide) ?_
            refine lv_goto (tgt := 26) hx hb dX6_given_272 (by decide) ?_
            exact hk26 x7 mx _ _ _ h hP hD hS (lv_sub hl [1, 2, 3, 0, 4] rfl)
        · have h := h.2 c_164
          refine lv_aload_n hx hb dX6_given_220 rfl (lv_at hl 0 rfl) ?_
          refine va_get (D := D) (ci := 6) (v := .ref a_mx) (C := RX6) (T := TX6) (N := 17) hx hb hts hin6 hown hK.1 hP 0 rfl rfl 16 (by decide) (k_2) (fun _ h9 => h9) rfl dX6_given_221 ?_
          refine lv_iload hx hb dX6_given_224 (lv_at hl 6 rfl) ?_
          refine lv_aload_n hx hb dX6_given_226 rfl (lv_at hl 0 rfl) ?_
          refine va_get (D := D) (ci := 6) (v := .ref a_mr) (C := RX6) (T := TX6) (N := 17) hx hb hts hin6 hown hK.1 hP 0 rfl rfl 15 (by decide) (k_1) (fun _ h9 => h9) rfl dX6_given_227 ?_
          refine lv_iload hx hb dX6_given_230 (lv_at hl 6 rfl) ?_
          refine z_iald (k := x8.toNatClampNeg) hx hb hK.1 hP 11 rfl rfl h.1 dX6_given_232 ?_
          have h := h.2
          refine z_iast (k := x8.toNatClampNeg) hx hb hK.1 hP hD hS 12 rfl rfl h.1 dX6_given_233 (fun H locs hP hD hS => ?_)
          have h := h.2
          have hP : va_P D vwCl [(h6, .inr (6, [.ref a_mt, .int my, .ref a_mo, .ref a_md, .ref a_mb, .ref a_ms, .ref a_mp, .int mk, .ref a_mi, .int mq, .ref a_mn, .int mz, .int ma, .ref a_mh, .ref a_mg, .ref a_mr, .ref a_mx])), (a_mt, .inl (cI, 200, .inl mt)), (a_mo, .inl (cI, 16, .inl mo)), (a_md, .inl (cI, 16, .inl md)), (a_mb, .inl (cI, 56, .inl mb)), (a_ms, .inl (cI, 56, .inl ms)), (a_mp, .inl (cI, 448, .inl mp)), (a_mi, .inl (cI, 112, .inl mi)), (a_mn, .inl (cI, 12, .inl mn)), (a_mh, .inl (cI, 42, .inl mh)), (a_mg, .inl (cI, 56, .inl mg)), (a_mr, .inl (cI, 6, .inl mr)), (a_mx, .inl (cI, 6, .inl (upd mx x8.toNatClampNeg (mr x8.toNatClampNeg))))] H := hP
          have hD : va_D A [(h6, .inr (6, [.ref a_mt, .int my, .ref a_mo, .ref a_md, .ref a_mb, .ref a_ms, .ref a_mp, .int mk, .ref a_mi, .int mq, .ref a_mn, .int mz, .int ma, .ref a_mh, .ref a_mg, .ref a_mr, .ref a_mx])), (a_mt, .inl (cI, 200, .inl mt)), (a_mo, .inl (cI, 16, .inl mo)), (a_md, .inl (cI, 16, .inl md)), (a_mb, .inl (cI, 56, .inl mb)), (a_ms, .inl (cI, 56, .inl ms)), (a_mp, .inl (cI, 448, .inl mp)), (a_mi, .inl (cI, 112, .inl mi)), (a_mn, .inl (cI, 12, .inl mn)), (a_mh, .inl (cI, 42, .inl mh)), (a_mg, .inl (cI, 56, .inl mg)), (a_mr, .inl (cI, 6, .inl mr)), (a_mx, .inl (cI, 6, .inl (upd mx x8.toNatClampNeg (mr x8.toNatClampNeg))))] := hD
          refine lv_iinc (v := (x8 + (1 : Int32))) (lv' := [(8, .int (x8 + (1 : Int32))), (0, .ref h6), (1, .int x1), (2, .int x2), (3, .int x3), (4, .int x4), (7, .int x7)]) hx hb dX6_given_234 hl (k := 6) rfl rfl (by decide) rfl (fun ls hl => ?_)
          refine lv_goto (tgt := 208) hx hb dX6_given_237 (by decide) ?_
          exact ih h hP hD hS (lv_sub hl [1, 2, 3, 4, 5, 6, 0] rfl) hk26
  have J105 : ∀ {K26 : Int32 → Int32 → (Nat → Int32) → (Nat → Int32) → Prop} {x1 : Int32} {x2 : Int32} {x3 : Int32} {x4 : Int32} {x5 : Int32} {s0 : Int32} {mr : Nat → Int32} {mx : Nat → Int32} {H : Heap} {locs : List Loc} {ls : Array Slot}, wX6_given_J105 x1 x2 x3 x4 x5 s0 mr mx K26 → va_P D vwCl [(h6, .inr (6, [.ref a_mt, .int my, .ref a_mo, .ref a_md, .ref a_mb, .ref a_ms, .ref a_mp, .int mk, .ref a_mi, .int mq, .ref a_mn, .int mz, .int ma, .ref a_mh, .ref a_mg, .ref a_mr, .ref a_mx])), (a_mt, .inl (cI, 200, .inl mt)), (a_mo, .inl (cI, 16, .inl mo)), (a_md, .inl (cI, 16, .inl md)), (a_mb, .inl (cI, 56, .inl mb)), (a_ms, .inl (cI, 56, .inl ms)), (a_mp, .inl (cI, 448, .inl mp)), (a_mi, .inl (cI, 112, .inl mi)), (a_mn, .inl (cI, 12, .inl mn)), (a_mh, .inl (cI, 42, .inl mh)), (a_mg, .inl (cI, 56, .inl mg)), (a_mr, .inl (cI, 6, .inl mr)), (a_mx, .inl (cI, 6, .inl mx))] H → va_D A [(h6, .inr (6, [.ref a_mt, .int my, .ref a_mo, .ref a_md, .ref a_mb, .ref a_ms, .ref a_mp, .int mk, .ref a_mi, .int mq, .ref a_mn, .int mz, .int ma, .ref a_mh, .ref a_mg, .ref a_mr, .ref a_mx])), (a_mt, .inl (cI, 200, .inl mt)), (a_mo, .inl (cI, 16, .inl mo)), (a_md, .inl (cI, 16, .inl md)), (a_mb, .inl (cI, 56, .inl mb)), (a_ms, .inl (cI, 56, .inl ms)), (a_mp, .inl (cI, 448, .inl mp)), (a_mi, .inl (cI, 112, .inl mi)), (a_mn, .inl (cI, 12, .inl mn)), (a_mh, .inl (cI, 42, .inl mh)), (a_mg, .inl (cI, 56, .inl mg)), (a_mr, .inl (cI, 6, .inl mr)), (a_mx, .inl (cI, 6, .inl mx))] → va_S A s.heap H locs → lv_has ls 9 [(0, .ref h6), (1, .int x1), (2, .int x2), (3, .int x3), (4, .int x4), (5, .int x5)] → (∀ (x3 : Int32) (x4 : Int32) (mr : Nat → Int32) (mx : Nat → Int32) (H : Heap) (locs : List Loc) (ls : Array Slot), K26 x3 x4 mr mx → va_P D vwCl [(h6, .inr (6, [.ref a_mt, .int my, .ref a_mo, .ref a_md, .ref a_mb, .ref a_ms, .ref a_mp, .int mk, .ref a_mi, .int mq, .ref a_mn, .int mz, .int ma, .ref a_mh, .ref a_mg, .ref a_mr, .ref a_mx])), (a_mt, .inl (cI, 200, .inl mt)), (a_mo, .inl (cI, 16, .inl mo)), (a_md, .inl (cI, 16, .inl md)), (a_mb, .inl (cI, 56, .inl mb)), (a_ms, .inl (cI, 56, .inl ms)), (a_mp, .inl (cI, 448, .inl mp)), (a_mi, .inl (cI, 112, .inl mi)), (a_mn, .inl (cI, 12, .inl mn)), (a_mh, .inl (cI, 42, .inl mh)), (a_mg, .inl (cI, 56, .inl mg)), (a_mr, .inl (cI, 6, .inl mr)), (a_mx, .inl (cI, 6, .inl mx))] H → va_D A [(h6, .inr (6, [.ref a_mt, .int my, .ref a_mo, .ref a_md, .ref a_mb, .ref a_ms, .ref a_mp, .int mk, .ref a_mi, .int mq, .ref a_mn, .int mz, .int ma, .ref a_mh, .ref a_mg, .ref a_mr, .ref a_mx])), (a_mt, .inl (cI, 200, .inl mt)), (a_mo, .inl (cI, 16, .inl mo)), (a_md, .inl (cI, 16, .inl md)), (a_mb, .inl (cI, 56, .inl mb)), (a_ms, .inl (cI, 56, .inl ms)), (a_mp, .inl (cI, 448, .inl mp)), (a_mi, .inl (cI, 112, .inl mi)), (a_mn, .inl (cI, 12, .inl mn)), (a_mh, .inl (cI, 42, .inl mh)), (a_mg, .inl (cI, 56, .inl mg)), (a_mr, .inl (cI, 6, .inl mr)), (a_mx, .inl (cI, 6, .inl mx))] → va_S A s.heap H locs → lv_has ls 9 [(0, .ref h6), (1, .int x1), (2, .int x2), (3, .int x3), (4, .int x4)] → W p l e rmX6_given s m args below meth c H locs 0 0 Z (F0 m 26 ls [])) → W p l e rmX6_given s m args below meth c H locs 0 0 Z (F0 m 105 ls [.int s0]) := by
    intro K26 x1 x2 x3 x4 x5 s0 mr mx H locs ls h hP hD hS hl hk26
    refine lv_istore (lv' := [(6, .int s0), (0, .ref h6), (1, .int x1), (2, .int x2), (3, .int x3), (4, .int x4), (5, .int x5)]) hx hb dX6_given_105 hl (by decide) rfl (fun ls hl => ?_)
    refine lv_iconst (v := 0) hx hb dX6_given_107 (by decide) ?_
    refine lv_istore (lv' := [(7, .int (0 : Int32)), (6, .int s0), (0, .ref h6), (1, .int x1), (2, .int x2), (3, .int x3), (4, .int x4), (5, .int x5)]) hx hb dX6_given_108 hl (by decide) rfl (fun ls hl => ?_)
    obtain ⟨n_170, h⟩ := h
    refine L110 n_170 h hP hD hS (lv_sub hl [2, 3, 4, 5, 6, 7, 1, 0] rfl) (fun x6_144 H locs ls h hP hD hS hl => ?_)
    refine lv_iload hx hb dX6_given_153 (lv_at hl 5 rfl) ?_
    refine lv_if_eq (tgt := 256) hx hb dX6_given_155 (by decide) (fun c_145 => ?_) (fun c_145 => ?_)
    · have h := h.1 c_145
      refine lv_iload hx hb dX6_given_256 (lv_at hl 5 rfl) ?_
      refine lv_if_eq (tgt := 272) hx hb dX6_given_258 (by decide) (fun c_146 => ?_) (fun c_146 => ?_)
      · have h := h.1 c_146
        refine lv_goto (tgt := 26) hx hb dX6_given_272 (by decide) ?_
        exact hk26 x3 x4 mr mx _ _ _ h hP hD hS (lv_sub hl [0, 1, 2, 3, 4] rfl)
      · have h := h.2 c_146
        refine lv_iinc (v := (x4 + (1 : Int32))) (lv' := [(4, .int (x4 + (1 : Int32))), (0, .ref h6), (1, .int x1), (2, .int x2), (3, .int x3), (6, .int x6_144)]) hx hb dX6_given_261 hl (k := 4) rfl rfl (by decide) rfl (fun ls hl => ?_)
        refine lv_aload_n hx hb dX6_given_264 rfl (lv_at hl 1 rfl) ?_
        refine va_get (D := D) (ci := 6) (v := .ref a_mr) (C := RX6) (T := TX6) (N := 17) hx hb hts hin6 hown hK.1 hP 0 rfl rfl 15 (by decide) (k_1) (fun _ h9 => h9) rfl dX6_given_265 ?_
        refine lv_iload hx hb dX6_given_268 (lv_at hl 0 rfl) ?_
        refine lv_iconst (v := -1) hx hb dX6_given_270 (by decide) ?_
        refine z_iast (k := (x4 + (1 : Int32)).toNatClampNeg) hx hb hK.1 hP hD hS 11 rfl rfl h.1 dX6_given_271 (fun H locs hP hD hS => ?_)
        have h := h.2
        have hP : va_P D vwCl [(h6, .inr (6, [.ref a_mt, .int my, .ref a_mo, .ref a_md, .ref a_mb, .ref a_ms, .ref a_mp, .int mk, .ref a_mi, .int mq, .ref a_mn, .int mz, .int ma, .ref a_mh, .ref a_mg, .ref a_mr, .ref a_mx])), (a_mt, .inl (cI, 200, .inl mt)), (a_mo, .inl (cI, 16, .inl mo)), (a_md, .inl (cI, 16, .inl md)), (a_mb, .inl (cI, 56, .inl mb)), (a_ms, .inl (cI, 56, .inl ms)), (a_mp, .inl (cI, 448, .inl mp)), (a_mi, .inl (cI, 112, .inl mi)), (a_mn, .inl (cI, 12, .inl mn)), (a_mh, .inl (cI, 42, .inl mh)), (a_mg, .inl (cI, 56, .inl mg)), (a_mr, .inl (cI, 6, .inl (upd mr ((x4 + (1 : Int32)).toNatClampNeg) (-1 : Int32)))), (a_mx, .inl (cI, 6, .inl mx))] H := hP
        have hD : va_D A [(h6, .inr (6, [.ref a_mt, .int my, .ref a_mo, .ref a_md, .ref a_mb, .ref a_ms, .ref a_mp, .int mk, .ref a_mi, .int mq, .ref a_mn, .int mz, .int ma, .ref a_mh, .ref a_mg, .ref a_mr, .ref a_mx])), (a_mt, .inl (cI, 200, .inl mt)), (a_mo, .inl (cI, 16, .inl mo)), (a_md, .inl (cI, 16, .inl md)), (a_mb, .inl (cI, 56, .inl mb)), (a_ms, .inl (cI, 56, .inl ms)), (a_mp, .inl (cI, 448, .inl mp)), (a_mi, .inl (cI, 112, .inl mi)), (a_mn, .inl (cI, 12, .inl mn)), (a_mh, .inl (cI, 42, .inl mh)), (a_mg, .inl (cI, 56, .inl mg)), (a_mr, .inl (cI, 6, .inl (upd mr ((x4 + (1 : Int32)).toNatClampNeg) (-1 : Int32)))), (a_mx, .inl (cI, 6, .inl mx))] := hD
        refine lv_goto (tgt := 26) hx hb dX6_given_272 (by decide) ?_
        exact hk26 x3 (x4 + (1 : Int32)) (upd mr ((x4 + (1 : Int32)).toNatClampNeg) (-1 : Int32)) mx _ _ _ h hP hD hS (lv_sub hl [1, 2, 3, 4, 0] rfl)
    · have h := h.2 c_145
      refine lv_iload hx hb dX6_given_158 (lv_at hl 4 rfl) ?_
      refine lv_iload_n hx hb dX6_given_160 rfl (lv_at hl 2 rfl) ?_
      refine lv_iconst (v := 1) hx hb dX6_given_161 (by decide) ?_
      refine lv_isub hx hb dX6_given_162 ?_
      refine lv_icmp_ne (tgt := 256) hx hb dX6_given_163 (by decide) (fun c_147 => ?_) (fun c_147 => ?_)
      · have h := h.2 c_147
        refine lv_iload hx hb dX6_given_256 (lv_at hl 5 rfl) ?_
        refine lv_if_eq (tgt := 272) hx hb dX6_given_258 (by decide) (fun c_148 => ?_) (fun c_148 => ?_)
        · have h := h.1 c_148
          refine lv_goto (tgt := 26) hx hb dX6_given_272 (by decide) ?_
          exact hk26 x3 x4 mr mx _ _ _ h hP hD hS (lv_sub hl [0, 1, 2, 3, 4] rfl)
        · have h := h.2 c_148
          refine lv_iinc (v := (x4 + (1 : Int32))) (lv' := [(4, .int (x4 + (1 : Int32))), (0, .ref h6), (1, .int x1), (2, .int x2), (3, .int x3), (6, .int x6_144)]) hx hb dX6_given_261 hl (k := 4) rfl rfl (by decide) rfl (fun ls hl => ?_)
          refine lv_aload_n hx hb dX6_given_264 rfl (lv_at hl 1 rfl) ?_
          refine va_get (D := D) (ci := 6) (v := .ref a_mr) (C := RX6) (T := TX6) (N := 17) hx hb hts hin6 hown hK.1 hP 0 rfl rfl 15 (by decide) (k_1) (fun _ h9 => h9) rfl dX6_given_265 ?_
          refine lv_iload hx hb dX6_given_268 (lv_at hl 0 rfl) ?_
          refine lv_iconst (v := -1) hx hb dX6_given_270 (by decide) ?_
          refine z_iast (k := (x4 + (1 : Int32)).toNatClampNeg) hx hb hK.1 hP hD hS 11 rfl rfl h.1 dX6_given_271 (fun H locs hP hD hS => ?_)
          have h := h.2
          have hP : va_P D vwCl [(h6, .inr (6, [.ref a_mt, .int my, .ref a_mo, .ref a_md, .ref a_mb, .ref a_ms, .ref a_mp, .int mk, .ref a_mi, .int mq, .ref a_mn, .int mz, .int ma, .ref a_mh, .ref a_mg, .ref a_mr, .ref a_mx])), (a_mt, .inl (cI, 200, .inl mt)), (a_mo, .inl (cI, 16, .inl mo)), (a_md, .inl (cI, 16, .inl md)), (a_mb, .inl (cI, 56, .inl mb)), (a_ms, .inl (cI, 56, .inl ms)), (a_mp, .inl (cI, 448, .inl mp)), (a_mi, .inl (cI, 112, .inl mi)), (a_mn, .inl (cI, 12, .inl mn)), (a_mh, .inl (cI, 42, .inl mh)), (a_mg, .inl (cI, 56, .inl mg)), (a_mr, .inl (cI, 6, .inl (upd mr ((x4 + (1 : Int32)).toNatClampNeg) (-1 : Int32)))), (a_mx, .inl (cI, 6, .inl mx))] H := hP
          have hD : va_D A [(h6, .inr (6, [.ref a_mt, .int my, .ref a_mo, .ref a_md, .ref a_mb, .ref a_ms, .ref a_mp, .int mk, .ref a_mi, .int mq, .ref a_mn, .int mz, .int ma, .ref a_mh, .ref a_mg, .ref a_mr, .ref a_mx])), (a_mt, .inl (cI, 200, .inl mt)), (a_mo, .inl (cI, 16, .inl mo)), (a_md, .inl (cI, 16, .inl md)), (a_mb, .inl (cI, 56, .inl mb)), (a_ms, .inl (cI, 56, .inl ms)), (a_mp, .inl (cI, 448, .inl mp)), (a_mi, .inl (cI, 112, .inl mi)), (a_mn, .inl (cI, 12, .inl mn)), (a_mh, .inl (cI, 42, .inl mh)), (a_mg, .inl (cI, 56, .inl mg)), (a_mr, .inl (cI, 6, .inl (upd mr ((x4 + (1 : Int32)).toNatClampNeg) (-1 : Int32)))), (a_mx, .inl (cI, 6, .inl mx))] := hD
          refine lv_goto (tgt := 26) hx hb dX6_given_272 (by decide) ?_
          exact hk26 x3 (x4 + (1 : Int32)) (upd mr ((x4 + (1 : Int32)).toNatClampNeg) (-1 : Int32)) mx _ _ _ h hP hD hS (lv_sub hl [1, 2, 3, 4, 0] rfl)
      · have h := h.1 c_147
        refine lv_iconst (v := 0) hx hb dX6_given_166 (by decide) ?_
        refine lv_istore (lv' := [(7, .int (0 : Int32)), (0, .ref h6), (1, .int x1), (2, .int x2), (3, .int x3), (4, .int x4), (6, .int x6_144)]) hx hb dX6_given_167 hl (by decide) rfl (fun ls hl => ?_)
        refine lv_iconst (v := 0) hx hb dX6_given_169 (by decide) ?_
        refine lv_istore (lv' := [(8, .int (0 : Int32)), (7, .int (0 : Int32)), (0, .ref h6), (1, .int x1), (2, .int x2), (3, .int x3), (4, .int x4), (6, .int x6_144)]) hx hb dX6_given_170 hl (by decide) rfl (fun ls hl => ?_)
        obtain ⟨n_169, h⟩ := h
        refine L172 n_169 h hP hD hS (lv_sub hl [2, 3, 4, 5, 6, 1, 0] rfl) (fun x7_157 H locs ls h hP hD hS hl => ?_)
        refine lv_iconst (v := 0) hx hb dX6_given_205 (by decide) ?_
        refine lv_istore (lv' := [(8, .int (0 : Int32)), (0, .ref h6), (1, .int x1), (2, .int x2), (3, .int x3), (4, .int x4), (7, .int x7_157)]) hx hb dX6_given_206 hl (by decide) rfl (fun ls hl => ?_)
        obtain ⟨n_168, h⟩ := h
        refine L208 n_168 h hP hD hS (lv_sub hl [1, 2, 3, 4, 5, 6, 0] rfl) (fun x3_166 mx_167 H locs ls h hP hD hS hl => ?_)
        exact hk26 x3_166 x4 mr mx_167 _ _ _ h hP hD hS (lv_sub hl [0, 1, 2, 3, 4] rfl)
  have L26 : ∀ (n : Nat) {x1 : Int32} {x2 : Int32} {x3 : Int32} {x4 : Int32} {mr : Nat → Int32} {mx : Nat → Int32} {H : Heap} {locs : List Loc} {ls : Array Slot}, wX6_given_L26 x1 x2 ms Q n x3 x4 mr mx → va_P D vwCl [(h6, .inr (6, [.ref a_mt, .int my, .ref a_mo, .ref a_md, .ref a_mb, .ref a_ms, .ref a_mp, .int mk, .ref a_mi, .int mq, .ref a_mn, .int mz, .int ma, .ref a_mh, .ref a_mg, .ref a_mr, .ref a_mx])), (a_mt, .inl (cI, 200, .inl mt)), (a_mo, .inl (cI, 16, .inl mo)), (a_md, .inl (cI, 16, .inl md)), (a_mb, .inl (cI, 56, .inl mb)), (a_ms, .inl (cI, 56, .inl ms)), (a_mp, .inl (cI, 448, .inl mp)), (a_mi, .inl (cI, 112, .inl mi)), (a_mn, .inl (cI, 12, .inl mn)), (a_mh, .inl (cI, 42, .inl mh)), (a_mg, .inl (cI, 56, .inl mg)), (a_mr, .inl (cI, 6, .inl mr)), (a_mx, .inl (cI, 6, .inl mx))] H → va_D A [(h6, .inr (6, [.ref a_mt, .int my, .ref a_mo, .ref a_md, .ref a_mb, .ref a_ms, .ref a_mp, .int mk, .ref a_mi, .int mq, .ref a_mn, .int mz, .int ma, .ref a_mh, .ref a_mg, .ref a_mr, .ref a_mx])), (a_mt, .inl (cI, 200, .inl mt)), (a_mo, .inl (cI, 16, .inl mo)), (a_md, .inl (cI, 16, .inl md)), (a_mb, .inl (cI, 56, .inl mb)), (a_ms, .inl (cI, 56, .inl ms)), (a_mp, .inl (cI, 448, .inl mp)), (a_mi, .inl (cI, 112, .inl mi)), (a_mn, .inl (cI, 12, .inl mn)), (a_mh, .inl (cI, 42, .inl mh)), (a_mg, .inl (cI, 56, .inl mg)), (a_mr, .inl (cI, 6, .inl mr)), (a_mx, .inl (cI, 6, .inl mx))] → va_S A s.heap H locs → lv_has ls 9 [(0, .ref h6), (1, .int x1), (2, .int x2), (3, .int x3), (4, .int x4)] → W p l e rmX6_given s m args below meth c H locs 0 0 Z (F0 m 26 ls []) := by
    intro n
    induction n with
    | zero =>
      intro x1 x2 x3 x4 mr mx H locs ls h hP hD hS hl
      exact (show False from h).elim
    | succ n ih =>
      intro x1 x2 x3 x4 mr mx H locs ls h hP hD hS hl
      refine lv_iload hx hb dX6_given_26 (lv_at hl 4 rfl) ?_
      refine lv_if_lt (tgt := 275) hx hb dX6_given_28 (by decide) (fun c_97 => ?_) (fun c_97 => ?_)
      · have h := h.1 c_97
        refine lv_iload_n hx hb dX6_given_275 rfl (lv_at hl 3 rfl) ?_
        exact hret x3 (mr, mx) _ _ _ ls h hP hD hS dX6_given_276
      · have h := h.2 c_97
        refine lv_aload_n hx hb dX6_given_31 rfl (lv_at hl 0 rfl) ?_
        refine va_get (D := D) (ci := 6) (v := .ref a_mr) (C := RX6) (T := TX6) (N := 17) hx hb hts hin6 hown hK.1 hP 0 rfl rfl 15 (by decide) (k_1) (fun _ h9 => h9) rfl dX6_given_32 ?_
        refine lv_iload hx hb dX6_given_35 (lv_at hl 4 rfl) ?_
        refine lv_dup2_11 hx hb dX6_given_37 rfl rfl ?_
        refine z_iald (k := x4.toNatClampNeg) hx hb hK.1 hP 11 rfl rfl h.1 dX6_given_38 ?_
        have h := h.2
        refine lv_iconst (v := 1) hx hb dX6_given_39 (by decide) ?_
        refine lv_iadd hx hb dX6_given_40 ?_
        refine z_iast (k := x4.toNatClampNeg) hx hb hK.1 hP hD hS 11 rfl rfl h.1 dX6_given_41 (fun H locs hP hD hS => ?_)
        have h := h.2
        have hP : va_P D vwCl [(h6, .inr (6, [.ref a_mt, .int my, .ref a_mo, .ref a_md, .ref a_mb, .ref a_ms, .ref a_mp, .int mk, .ref a_mi, .int mq, .ref a_mn, .int mz, .int ma, .ref a_mh, .ref a_mg, .ref a_mr, .ref a_mx])), (a_mt, .inl (cI, 200, .inl mt)), (a_mo, .inl (cI, 16, .inl mo)), (a_md, .inl (cI, 16, .inl md)), (a_mb, .inl (cI, 56, .inl mb)), (a_ms, .inl (cI, 56, .inl ms)), (a_mp, .inl (cI, 448, .inl mp)), (a_mi, .inl (cI, 112, .inl mi)), (a_mn, .inl (cI, 12, .inl mn)), (a_mh, .inl (cI, 42, .inl mh)), (a_mg, .inl (cI, 56, .inl mg)), (a_mr, .inl (cI, 6, .inl (upd mr x4.toNatClampNeg ((mr x4.toNatClampNeg) + (1 : Int32))))), (a_mx, .inl (cI, 6, .inl mx))] H := hP
        have hD : va_D A [(h6, .inr (6, [.ref a_mt, .int my, .ref a_mo, .ref a_md, .ref a_mb, .ref a_ms, .ref a_mp, .int mk, .ref a_mi, .int mq, .ref a_mn, .int mz, .int ma, .ref a_mh, .ref a_mg, .ref a_mr, .ref a_mx])), (a_mt, .inl (cI, 200, .inl mt)), (a_mo, .inl (cI, 16, .inl mo)), (a_md, .inl (cI, 16, .inl md)), (a_mb, .inl (cI, 56, .inl mb)), (a_ms, .inl (cI, 56, .inl ms)), (a_mp, .inl (cI, 448, .inl mp)), (a_mi, .inl (cI, 112, .inl mi)), (a_mn, .inl (cI, 12, .inl mn)), (a_mh, .inl (cI, 42, .inl mh)), (a_mg, .inl (cI, 56, .inl mg)), (a_mr, .inl (cI, 6, .inl (upd mr x4.toNatClampNeg ((mr x4.toNatClampNeg) + (1 : Int32))))), (a_mx, .inl (cI, 6, .inl mx))] := hD
        refine lv_aload_n hx hb dX6_given_42 rfl (lv_at hl 0 rfl) ?_
        refine va_get (D := D) (ci := 6) (v := .ref a_mr) (C := RX6) (T := TX6) (N := 17) hx hb hts hin6 hown hK.1 hP 0 rfl rfl 15 (by decide) (k_1) (fun _ h9 => h9) rfl dX6_given_43 ?_
        refine lv_iload hx hb dX6_given_46 (lv_at hl 4 rfl) ?_
        refine z_iald (k := x4.toNatClampNeg) hx hb hK.1 hP 11 rfl rfl h.1 dX6_given_48 ?_
        have h := h.2
        refine lv_iload_n hx hb dX6_given_49 rfl (lv_at hl 1 rfl) ?_
        refine lv_icmp_le (tgt := 59) hx hb dX6_given_50 (by decide) (fun c_98 => ?_) (fun c_98 => ?_)
        · have h := h.1 c_98
          refine lv_aload_n hx hb dX6_given_59 rfl (lv_at hl 0 rfl) ?_
          refine va_get (D := D) (ci := 6) (v := .ref a_mr) (C := RX6) (T := TX6) (N := 17) hx hb hts hin6 hown hK.1 hP 0 rfl rfl 15 (by decide) (k_1) (fun _ h9 => h9) rfl dX6_given_60 ?_
          refine lv_iload hx hb dX6_given_63 (lv_at hl 4 rfl) ?_
          refine z_iald (k := x4.toNatClampNeg) hx hb hK.1 hP 11 rfl rfl h.1 dX6_given_65 ?_
          have h := h.2
          refine lv_topi (fun v_99 ev_99 => ?_)
          have h := h v_99 ev_99
          refine lv_istore (lv' := [(5, .int v_99), (0, .ref h6), (1, .int x1), (2, .int x2), (3, .int x3), (4, .int x4)]) hx hb dX6_given_66 hl (by decide) rfl (fun ls hl => ?_)
          refine lv_iload hx hb dX6_given_68 (lv_at hl 0 rfl) ?_
          refine lv_iload_n hx hb dX6_given_70 rfl (lv_at hl 2 rfl) ?_
          refine lv_icmp_eq (tgt := 100) hx hb dX6_given_71 (by decide) (fun c_100 => ?_) (fun c_100 => ?_)
          · have h := h.1 c_100
            refine lv_iconst (v := 1) hx hb dX6_given_100 (by decide) ?_
            refine lv_goto (tgt := 105) hx hb dX6_given_101 (by decide) ?_
            refine J105 h hP hD hS (lv_sub hl [1, 2, 3, 4, 5, 0] rfl) (fun x3_171 x4_172 mr_173 mx_174 H locs ls h hP hD hS hl => ?_)
            exact ih h hP hD hS (lv_sub hl [0, 1, 2, 3, 4] rfl)
          · have h := h.2 c_100
            refine lv_aload_n hx hb dX6_given_74 rfl (lv_at hl 1 rfl) ?_
            refine va_get (D := D) (ci := 6) (v := .ref a_ms) (C := RX6) (T := TX6) (N := 17) hx hb hts hin6 hown hK.1 hP 0 rfl rfl 5 (by decide) (k_3) (fun _ h9 => h9) rfl dX6_given_75 ?_
            refine lv_bipush (v := 8) hx hb dX6_given_78 (by decide) ?_
            refine lv_iload hx hb dX6_given_80 (lv_at hl 5 rfl) ?_
            refine lv_iadd hx hb dX6_given_82 ?_
            refine z_iald (k := ((8 : Int32) + x4).toNatClampNeg) hx hb hK.1 hP 5 rfl rfl h.1 dX6_given_83 ?_
            have h := h.2
            refine lv_bipush (v := 9) hx hb dX6_given_84 (by decide) ?_
            refine lv_icmp_eq (tgt := 104) hx hb dX6_given_86 (by decide) (fun c_175 => ?_) (fun c_175 => ?_)
            · have h := h.1 c_175
              refine lv_iconst (v := 0) hx hb dX6_given_104 (by decide) ?_
              refine J105 h hP hD hS (lv_sub hl [1, 2, 3, 4, 5, 0] rfl) (fun x3_176 x4_177 mr_178 mx_179 H locs ls h hP hD hS hl => ?_)
              exact ih h hP hD hS (lv_sub hl [0, 1, 2, 3, 4] rfl)
            · have h := h.2 c_175
              refine lv_aload_n hx hb dX6_given_89 rfl (lv_at hl 1 rfl) ?_
              refine lv_iload hx hb dX6_given_90 (lv_at hl 0 rfl) ?_
              refine lv_iload hx hb dX6_given_92 (lv_at hl 5 rfl) ?_
              refine k0V_i (As := [.int v_99, .int x4]) (n := 2) ⟨hx, hb, hml, hown, hts⟩ hK hP hD hS hA (c_X6_doubts l D cI cC cQ h6 a_mt a_mo a_md a_mb a_ms a_mp a_mi a_mn a_mh a_mg a_mr a_mx mt my mo md mb ms mp mk mi mq mn mz ma mh mg (upd mr x4.toNatClampNeg ((mr x4.toNatClampNeg) + (1 : Int32))) mx v_99 x4 _ h) gX6_given_X6_doubts rfl rfl ⟨rfl, rfl⟩ yoX6_doubts ⟨Nat.le_of_ble_eq_true rfl, Nat.le_of_ble_eq_true rfl⟩ (q0 := 0) (ci := 6) rfl rfl rfl rfl hl.1 rfl (Nat.le_of_ble_eq_true rfl) dX6_given_94 ⟨Nat.zero_le _, Nat.zero_le _⟩ (fun r_180 u H locs h hP hD hS => ?_)
              obtain ⟨b_181, h⟩ := h
              refine lv_if_eq (tgt := 104) hx hb dX6_given_97 (by decide) (fun c_182 => ?_) (fun c_182 => ?_)
              · have h := h.1 c_182
                refine lv_iconst (v := 0) hx hb dX6_given_104 (by decide) ?_
                refine J105 h hP hD hS (lv_sub hl [1, 2, 3, 4, 5, 0] rfl) (fun x3_183 x4_184 mr_185 mx_186 H locs ls h hP hD hS hl => ?_)
                exact ih h hP hD hS (lv_sub hl [0, 1, 2, 3, 4] rfl)
              · have h := h.2 c_182
                refine lv_iconst (v := 1) hx hb dX6_given_100 (by decide) ?_
                refine lv_goto (tgt := 105) hx hb dX6_given_101 (by decide) ?_
                refine J105 h hP hD hS (lv_sub hl [1, 2, 3, 4, 5, 0] rfl) (fun x3_187 x4_188 mr_189 mx_190 H locs ls h hP hD hS hl => ?_)
                exact ih h hP hD hS (lv_sub hl [0, 1, 2, 3, 4] rfl)
        · have h := h.2 c_98
          refine lv_iinc (v := (x4 + (-1 : Int32))) (lv' := [(4, .int (x4 + (-1 : Int32))), (0, .ref h6), (1, .int x1), (2, .int x2), (3, .int x3)]) hx hb dX6_given_53 hl (k := 4) rfl rfl (by decide) rfl (fun ls hl => ?_)
          refine lv_goto (tgt := 26) hx hb dX6_given_56 (by decide) ?_
          exact ih h hP hD hS (lv_sub hl [1, 2, 3, 4, 0] rfl)
  refine lv_aload_n hx hb dX6_given_0 rfl (lv_at hl 0 rfl) ?_
  refine va_get (D := D) (ci := 6) (v := .ref a_mo) (C := RX6) (T := TX6) (N := 17) hx hb hts hin6 hown hK.1 hP 0 rfl rfl 2 (by decide) (k_0) (fun _ h9 => h9) rfl dX6_given_1 ?_
  refine lv_iconst (v := 0) hx hb dX6_given_4 (by decide) ?_
  refine z_iald (k := 0) hx hb hK.1 hP 2 rfl (by decide) vi_0_16 dX6_given_5 ?_
  refine lv_topi (fun v_1 ev_1 => ?_)
  have h := h v_1 ev_1
  refine lv_istore_n (lv' := [(1, .int v_1), (0, .ref h6)]) hx hb dX6_given_6 rfl hl (by decide) rfl (fun ls hl => ?_)
  refine lv_aload_n hx hb dX6_given_7 rfl (lv_at hl 1 rfl) ?_
  refine va_get (D := D) (ci := 6) (v := .ref a_mo) (C := RX6) (T := TX6) (N := 17) hx hb hts hin6 hown hK.1 hP 0 rfl rfl 2 (by decide) (k_0) (fun _ h9 => h9) rfl dX6_given_8 ?_
  refine lv_iconst (v := 1) hx hb dX6_given_11 (by decide) ?_
  refine z_iald (k := 1) hx hb hK.1 hP 2 rfl (by decide) vi_1_16 dX6_given_12 ?_
  refine lv_topi (fun v_2 ev_2 => ?_)
  have h := h v_2 ev_2
  refine lv_istore_n (lv' := [(2, .int v_2), (1, .int v_1), (0, .ref h6)]) hx hb dX6_given_13 rfl hl (by decide) rfl (fun ls hl => ?_)
  refine lv_iconst (v := -1) hx hb dX6_given_14 (by decide) ?_
  refine lv_istore_n (lv' := [(3, .int (-1 : Int32)), (2, .int v_2), (1, .int v_1), (0, .ref h6)]) hx hb dX6_given_15 rfl hl (by decide) rfl (fun ls hl => ?_)
  refine lv_iconst (v := 0) hx hb dX6_given_16 (by decide) ?_
  refine lv_istore (lv' := [(4, .int (0 : Int32)), (3, .int (-1 : Int32)), (2, .int v_2), (1, .int v_1), (0, .ref h6)]) hx hb dX6_given_17 hl (by decide) rfl (fun ls hl => ?_)
  refine lv_aload_n hx hb dX6_given_19 rfl (lv_at hl 4 rfl) ?_
  refine va_get (D := D) (ci := 6) (v := .ref a_mr) (C := RX6) (T := TX6) (N := 17) hx hb hts hin6 hown hK.1 hP 0 rfl rfl 15 (by decide) (k_1) (fun _ h9 => h9) rfl dX6_given_20 ?_
  refine lv_iconst (v := 0) hx hb dX6_given_23 (by decide) ?_
  refine lv_iconst (v := -1) hx hb dX6_given_24 (by decide) ?_
  refine z_iast (k := 0) hx hb hK.1 hP hD hS 11 rfl (by decide) vi_0_6 dX6_given_25 (fun H locs hP hD hS => ?_)
  have hP : va_P D vwCl [(h6, .inr (6, [.ref a_mt, .int my, .ref a_mo, .ref a_md, .ref a_mb, .ref a_ms, .ref a_mp, .int mk, .ref a_mi, .int mq, .ref a_mn, .int mz, .int ma, .ref a_mh, .ref a_mg, .ref a_mr, .ref a_mx])), (a_mt, .inl (cI, 200, .inl mt)), (a_mo, .inl (cI, 16, .inl mo)), (a_md, .inl (cI, 16, .inl md)), (a_mb, .inl (cI, 56, .inl mb)), (a_ms, .inl (cI, 56, .inl ms)), (a_mp, .inl (cI, 448, .inl mp)), (a_mi, .inl (cI, 112, .inl mi)), (a_mn, .inl (cI, 12, .inl mn)), (a_mh, .inl (cI, 42, .inl mh)), (a_mg, .inl (cI, 56, .inl mg)), (a_mr, .inl (cI, 6, .inl (upd mr 0 (-1 : Int32)))), (a_mx, .inl (cI, 6, .inl mx))] H := hP
  have hD : va_D A [(h6, .inr (6, [.ref a_mt, .int my, .ref a_mo, .ref a_md, .ref a_mb, .ref a_ms, .ref a_mp, .int mk, .ref a_mi, .int mq, .ref a_mn, .int mz, .int ma, .ref a_mh, .ref a_mg, .ref a_mr, .ref a_mx])), (a_mt, .inl (cI, 200, .inl mt)), (a_mo, .inl (cI, 16, .inl mo)), (a_md, .inl (cI, 16, .inl md)), (a_mb, .inl (cI, 56, .inl mb)), (a_ms, .inl (cI, 56, .inl ms)), (a_mp, .inl (cI, 448, .inl mp)), (a_mi, .inl (cI, 112, .inl mi)), (a_mn, .inl (cI, 12, .inl mn)), (a_mh, .inl (cI, 42, .inl mh)), (a_mg, .inl (cI, 56, .inl mg)), (a_mr, .inl (cI, 6, .inl (upd mr 0 (-1 : Int32)))), (a_mx, .inl (cI, 6, .inl mx))] := hD
  obtain ⟨n_191, h⟩ := h
  exact L26 n_191 h hP hD hS (lv_sub hl [4, 3, 2, 1, 0] rfl)

/-! DoubtCourtModel.offices -/
abbrev rmX6_offices : Room := { frames := 2, cells := 0, slots := 0, locals := 50 }
theorem yoX6_offices : yX6_offices.cls ≠ "java/lang/invoke/MethodHandle" ∧ yX6_offices.cls ≠ "java/lang/invoke/VarHandle" ∧ (parseMethodDescriptor yX6_offices.desc).map (fun d => d.parameters.length) = some 1 := by decide +kernel
set_option maxHeartbeats 4000000 in
set_option maxRecDepth 100000 in
theorem c_X6_offices (l : Launch) (D : va_G) (cI cC cQ : ClassId) (h6 : Nat) (a_mt : Nat) (a_mo : Nat) (a_md : Nat) (a_mb : Nat) (a_ms : Nat) (a_mp : Nat) (a_mi : Nat) (a_mn : Nat) (a_mh : Nat) (a_mg : Nat) (a_mr : Nat) (a_mx : Nat) (mt : Nat → Int32) (my : Int32) (mo : Nat → Int32) (md : Nat → Int32) (mb : Nat → Int32) (ms : Nat → Int32) (mp : Nat → Int32) (mk : Int32) (mi : Nat → Int32) (mq : Int32) (mn : Nat → Int32) (mz : Int32) (ma : Int32) (mh : Nat → Int32) (mg : Nat → Int32) (mr : Nat → Int32) (mx : Nat → Int32) (x1 : Int32) (Q : Int32 → (Nat → Int32) → (Nat → Int32) → Prop) (h : wX6_offices x1 mo ms mr mx Q) : Ci (S := (Nat → Int32) × (Nat → Int32)) l D cI cC cQ yX6_offices wsX6_offices rmX6_offices [.ref h6, .int x1] [(h6, .inr (6, [.ref a_mt, .int my, .ref a_mo, .ref a_md, .ref a_mb, .ref a_ms, .ref a_mp, .int mk, .ref a_mi, .int mq, .ref a_mn, .int mz, .int ma, .ref a_mh, .ref a_mg, .ref a_mr, .ref a_mx])), (a_mt, .inl (cI, 200, .inl mt)), (a_mo, .inl (cI, 16, .inl mo)), (a_md, .inl (cI, 16, .inl md)), (a_mb, .inl (cI, 56, .inl mb)), (a_ms, .inl (cI, 56, .inl ms)), (a_mp, .inl (cI, 448, .inl mp)), (a_mi, .inl (cI, 112, .inl mi)), (a_mn, .inl (cI, 12, .inl mn)), (a_mh, .inl (cI, 42, .inl mh)), (a_mg, .inl (cI, 56, .inl mg)), (a_mr, .inl (cI, 6, .inl mr)), (a_mx, .inl (cI, 6, .inl mx))] (fun u => [(h6, .inr (6, [.ref a_mt, .int my, .ref a_mo, .ref a_md, .ref a_mb, .ref a_ms, .ref a_mp, .int mk, .ref a_mi, .int mq, .ref a_mn, .int mz, .int ma, .ref a_mh, .ref a_mg, .ref a_mr, .ref a_mx])), (a_mt, .inl (cI, 200, .inl mt)), (a_mo, .inl (cI, 16, .inl mo)), (a_md, .inl (cI, 16, .inl md)), (a_mb, .inl (cI, 56, .inl mb)), (a_ms, .inl (cI, 56, .inl ms)), (a_mp, .inl (cI, 448, .inl mp)), (a_mi, .inl (cI, 112, .inl mi)), (a_mn, .inl (cI, 12, .inl mn)), (a_mh, .inl (cI, 42, .inl mh)), (a_mg, .inl (cI, 56, .inl mg)), (a_mr, .inl (cI, 6, .inl u.1)), (a_mx, .inl (cI, 6, .inl u.2))]) (fun r u => Q r u.1 u.2) := by
  refine Ci_mk (cc := cX6_offices) (maxL := 3) (by decide) rfl (Nat.le_of_ble_eq_true rfl) ?_
  intro p e s m args below meth c A Z ls hx hb hml hown hts hK hA hP hD hret hl
  have hS : va_S A s.heap s.heap [] := va_S.rf
  have hin6 : ∀ w ∈ u_ws RX6 TX6 17, w ∈ wsX6_offices := by decide +kernel
  have k_0 := hts (.fieldLink RX6 43 "DoubtCourtModel" "best" "[I") (by decide +kernel)
  have k_1 := hts (.fieldLink RX6 13 "DoubtCourtModel" "told" "[I") (by decide +kernel)
  have hl : lv_has ls 3 [(0, .ref h6), (1, .int x1)] := hl
  refine lv_iload_n hx hb dX6_offices_0 rfl (lv_at hl 1 rfl) ?_
  refine lv_iconst (v := -1) hx hb dX6_offices_1 (by decide) ?_
  refine lv_icmp_eq (tgt := 15) hx hb dX6_offices_2 (by decide) (fun c_1 => ?_) (fun c_1 => ?_)
  · have h := h.1 c_1
    refine lv_aload_n hx hb dX6_offices_15 rfl (lv_at hl 0 rfl) ?_
    refine k0V_i (As := []) (n := 0) ⟨hx, hb, hml, hown, hts⟩ hK hP hD hS hA (c_X6_given l D cI cC cQ h6 a_mt a_mo a_md a_mb a_ms a_mp a_mi a_mn a_mh a_mg a_mr a_mx mt my mo md mb ms mp mk mi mq mn mz ma mh mg mr mx  _ h) gX6_offices_X6_given rfl rfl ⟨rfl, rfl⟩ yoX6_given ⟨Nat.le_of_ble_eq_true rfl, Nat.le_of_ble_eq_true rfl⟩ (q0 := 0) (ci := 6) rfl rfl rfl rfl hl.1 rfl (Nat.le_of_ble_eq_true rfl) dX6_offices_16 ⟨Nat.zero_le _, Nat.zero_le _⟩ (fun r_2 u H locs h hP hD hS => ?_)
    obtain ⟨mr_3, mx_4⟩ := u
    have hP : va_P D vwCl [(h6, .inr (6, [.ref a_mt, .int my, .ref a_mo, .ref a_md, .ref a_mb, .ref a_ms, .ref a_mp, .int mk, .ref a_mi, .int mq, .ref a_mn, .int mz, .int ma, .ref a_mh, .ref a_mg, .ref a_mr, .ref a_mx])), (a_mt, .inl (cI, 200, .inl mt)), (a_mo, .inl (cI, 16, .inl mo)), (a_md, .inl (cI, 16, .inl md)), (a_mb, .inl (cI, 56, .inl mb)), (a_ms, .inl (cI, 56, .inl ms)), (a_mp, .inl (cI, 448, .inl mp)), (a_mi, .inl (cI, 112, .inl mi)), (a_mn, .inl (cI, 12, .inl mn)), (a_mh, .inl (cI, 42, .inl mh)), (a_mg, .inl (cI, 56, .inl mg)), (a_mr, .inl (cI, 6, .inl mr_3)), (a_mx, .inl (cI, 6, .inl mx_4))] H := hP
    have hD : va_D A [(h6, .inr (6, [.ref a_mt, .int my, .ref a_mo, .ref a_md, .ref a_mb, .ref a_ms, .ref a_mp, .int mk, .ref a_mi, .int mq, .ref a_mn, .int mz, .int ma, .ref a_mh, .ref a_mg, .ref a_mr, .ref a_mx])), (a_mt, .inl (cI, 200, .inl mt)), (a_mo, .inl (cI, 16, .inl mo)), (a_md, .inl (cI, 16, .inl md)), (a_mb, .inl (cI, 56, .inl mb)), (a_ms, .inl (cI, 56, .inl ms)), (a_mp, .inl (cI, 448, .inl mp)), (a_mi, .inl (cI, 112, .inl mi)), (a_mn, .inl (cI, 12, .inl mn)), (a_mh, .inl (cI, 42, .inl mh)), (a_mg, .inl (cI, 56, .inl mg)), (a_mr, .inl (cI, 6, .inl mr_3)), (a_mx, .inl (cI, 6, .inl mx_4))] := hD
    refine lv_istore_n (lv' := [(2, .int r_2), (0, .ref h6), (1, .int x1)]) hx hb dX6_offices_19 rfl hl (by decide) rfl (fun ls hl => ?_)
    refine lv_iload_n hx hb dX6_offices_20 rfl (lv_at hl 2 rfl) ?_
    refine lv_iconst (v := -1) hx hb dX6_offices_21 (by decide) ?_
    refine lv_icmp_ne (tgt := 29) hx hb dX6_offices_22 (by decide) (fun c_5 => ?_) (fun c_5 => ?_)
    · have h := h.2 c_5
      refine lv_aload_n hx hb dX6_offices_29 rfl (lv_at hl 1 rfl) ?_
      refine va_get (D := D) (ci := 6) (v := .ref a_mx) (C := RX6) (T := TX6) (N := 17) hx hb hts hin6 hown hK.1 hP 0 rfl rfl 16 (by decide) (k_0) (fun _ h9 => h9) rfl dX6_offices_30 ?_
      refine lv_iload_n hx hb dX6_offices_33 rfl (lv_at hl 2 rfl) ?_
      refine z_iald (k := x1.toNatClampNeg) hx hb hK.1 hP 12 rfl rfl h.1 dX6_offices_34 ?_
      have h := h.2
      refine lv_aload_n hx hb dX6_offices_35 rfl (lv_at hl 1 rfl) ?_
      refine va_get (D := D) (ci := 6) (v := .ref a_mo) (C := RX6) (T := TX6) (N := 17) hx hb hts hin6 hown hK.1 hP 0 rfl rfl 2 (by decide) (k_1) (fun _ h9 => h9) rfl dX6_offices_36 ?_
      refine lv_iconst (v := 0) hx hb dX6_offices_39 (by decide) ?_
      refine z_iald (k := 0) hx hb hK.1 hP 2 rfl (by decide) vi_0_16 dX6_offices_40 ?_
      refine lv_icmp_ne (tgt := 49) hx hb dX6_offices_41 (by decide) (fun c_6 => ?_) (fun c_6 => ?_)
      · have h := h.2 c_6
        refine lv_aload_n hx hb dX6_offices_49 rfl (lv_at hl 1 rfl) ?_
        refine va_get (D := D) (ci := 6) (v := .ref a_mx) (C := RX6) (T := TX6) (N := 17) hx hb hts hin6 hown hK.1 hP 0 rfl rfl 16 (by decide) (k_0) (fun _ h9 => h9) rfl dX6_offices_50 ?_
        refine lv_iload_n hx hb dX6_offices_53 rfl (lv_at hl 2 rfl) ?_
        refine z_iald (k := x1.toNatClampNeg) hx hb hK.1 hP 12 rfl rfl h.1 dX6_offices_54 ?_
        have h := h.2
        exact hret (mx_4 x1.toNatClampNeg) (mr_3, mx_4) _ _ _ ls h hP hD hS dX6_offices_55
      · have h := h.1 c_6
        refine lv_bipush (v := -4) hx hb dX6_offices_44 (by decide) ?_
        refine lv_goto (tgt := 55) hx hb dX6_offices_46 (by decide) ?_
        exact hret (-4 : Int32) (mr_3, mx_4) _ _ _ ls h hP hD hS dX6_offices_55
    · have h := h.1 c_5
      refine lv_iload_n hx hb dX6_offices_25 rfl (lv_at hl 0 rfl) ?_
      refine lv_goto (tgt := 55) hx hb dX6_offices_26 (by decide) ?_
      exact hret r_2 (mr_3, mx_4) _ _ _ ls h hP hD hS dX6_offices_55
  · have h := h.2 c_1
    refine lv_aload_n hx hb dX6_offices_5 rfl (lv_at hl 0 rfl) ?_
    refine lv_iload_n hx hb dX6_offices_6 rfl (lv_at hl 1 rfl) ?_
    refine k0V_i (As := [.int x1]) (n := 1) ⟨hx, hb, hml, hown, hts⟩ hK hP hD hS hA (c_X6_isNews l D cI cC cQ h6 a_mt a_mo a_md a_mb a_ms a_mp a_mi a_mn a_mh a_mg a_mr a_mx mt my mo md mb ms mp mk mi mq mn mz ma mh mg mr mx x1 _ h) gX6_offices_X6_isNews rfl rfl ⟨rfl, rfl⟩ yoX6_isNews ⟨Nat.le_of_ble_eq_true rfl, Nat.le_of_ble_eq_true rfl⟩ (q0 := 0) (ci := 6) rfl rfl rfl rfl hl.1 rfl (Nat.le_of_ble_eq_true rfl) dX6_offices_7 ⟨Nat.zero_le _, Nat.zero_le _⟩ (fun r_7 u H locs h hP hD hS => ?_)
    obtain ⟨b_8, h⟩ := h
    refine lv_if_ne (tgt := 15) hx hb dX6_offices_10 (by decide) (fun c_9 => ?_) (fun c_9 => ?_)
    · have h := h.2 c_9
      refine lv_aload_n hx hb dX6_offices_15 rfl (lv_at hl 0 rfl) ?_
      refine k0V_i (As := []) (n := 0) ⟨hx, hb, hml, hown, hts⟩ hK hP hD hS hA (c_X6_given l D cI cC cQ h6 a_mt a_mo a_md a_mb a_ms a_mp a_mi a_mn a_mh a_mg a_mr a_mx mt my mo md mb ms mp mk mi mq mn mz ma mh mg mr mx  _ h) gX6_offices_X6_given rfl rfl ⟨rfl, rfl⟩ yoX6_given ⟨Nat.le_of_ble_eq_true rfl, Nat.le_of_ble_eq_true rfl⟩ (q0 := 0) (ci := 6) rfl rfl rfl rfl hl.1 rfl (Nat.le_of_ble_eq_true rfl) dX6_offices_16 ⟨Nat.zero_le _, Nat.zero_le _⟩ (fun r_10 u H locs h hP hD hS => ?_)
      obtain ⟨mr_11, mx_12⟩ := u
      have hP : va_P D vwCl [(h6, .inr (6, [.ref a_mt, .int my, .ref a_mo, .ref a_md, .ref a_mb, .ref a_ms, .ref a_mp, .int mk, .ref a_mi, .int mq, .ref a_mn, .int mz, .int ma, .ref a_mh, .ref a_mg, .ref a_mr, .ref a_mx])), (a_mt, .inl (cI, 200, .inl mt)), (a_mo, .inl (cI, 16, .inl mo)), (a_md, .inl (cI, 16, .inl md)), (a_mb, .inl (cI, 56, .inl mb)), (a_ms, .inl (cI, 56, .inl ms)), (a_mp, .inl (cI, 448, .inl mp)), (a_mi, .inl (cI, 112, .inl mi)), (a_mn, .inl (cI, 12, .inl mn)), (a_mh, .inl (cI, 42, .inl mh)), (a_mg, .inl (cI, 56, .inl mg)), (a_mr, .inl (cI, 6, .inl mr_11)), (a_mx, .inl (cI, 6, .inl mx_12))] H := hP
      have hD : va_D A [(h6, .inr (6, [.ref a_mt, .int my, .ref a_mo, .ref a_md, .ref a_mb, .ref a_ms, .ref a_mp, .int mk, .ref a_mi, .int mq, .ref a_mn, .int mz, .int ma, .ref a_mh, .ref a_mg, .ref a_mr, .ref a_mx])), (a_mt, .inl (cI, 200, .inl mt)), (a_mo, .inl (cI, 16, .inl mo)), (a_md, .inl (cI, 16, .inl md)), (a_mb, .inl (cI, 56, .inl mb)), (a_ms, .inl (cI, 56, .inl ms)), (a_mp, .inl (cI, 448, .inl mp)), (a_mi, .inl (cI, 112, .inl mi)), (a_mn, .inl (cI, 12, .inl mn)), (a_mh, .inl (cI, 42, .inl mh)), (a_mg, .inl (cI, 56, .inl mg)), (a_mr, .inl (cI, 6, .inl mr_11)), (a_mx, .inl (cI, 6, .inl mx_12))] := hD
      refine lv_istore_n (lv' := [(2, .int r_10), (0, .ref h6), (1, .int x1)]) hx hb dX6_offices_19 rfl hl (by decide) rfl (fun ls hl => ?_)
      refine lv_iload_n hx hb dX6_offices_20 rfl (lv_at hl 2 rfl) ?_
      refine lv_iconst (v := -1) hx hb dX6_offices_21 (by decide) ?_
      refine lv_icmp_ne (tgt := 29) hx hb dX6_offices_22 (by decide) (fun c_13 => ?_) (fun c_13 => ?_)
      · have h := h.2 c_13
        refine lv_aload_n hx hb dX6_offices_29 rfl (lv_at hl 1 rfl) ?_
        refine va_get (D := D) (ci := 6) (v := .ref a_mx) (C := RX6) (T := TX6) (N := 17) hx hb hts hin6 hown hK.1 hP 0 rfl rfl 16 (by decide) (k_0) (fun _ h9 => h9) rfl dX6_offices_30 ?_
        refine lv_iload_n hx hb dX6_offices_33 rfl (lv_at hl 2 rfl) ?_
        refine z_iald (k := x1.toNatClampNeg) hx hb hK.1 hP 12 rfl rfl h.1 dX6_offices_34 ?_
        have h := h.2
        refine lv_aload_n hx hb dX6_offices_35 rfl (lv_at hl 1 rfl) ?_
        refine va_get (D := D) (ci := 6) (v := .ref a_mo) (C := RX6) (T := TX6) (N := 17) hx hb hts hin6 hown hK.1 hP 0 rfl rfl 2 (by decide) (k_1) (fun _ h9 => h9) rfl dX6_offices_36 ?_
        refine lv_iconst (v := 0) hx hb dX6_offices_39 (by decide) ?_
        refine z_iald (k := 0) hx hb hK.1 hP 2 rfl (by decide) vi_0_16 dX6_offices_40 ?_
        refine lv_icmp_ne (tgt := 49) hx hb dX6_offices_41 (by decide) (fun c_14 => ?_) (fun c_14 => ?_)
        · have h := h.2 c_14
          refine lv_aload_n hx hb dX6_offices_49 rfl (lv_at hl 1 rfl) ?_
          refine va_get (D := D) (ci := 6) (v := .ref a_mx) (C := RX6) (T := TX6) (N := 17) hx hb hts hin6 hown hK.1 hP 0 rfl rfl 16 (by decide) (k_0) (fun _ h9 => h9) rfl dX6_offices_50 ?_
          refine lv_iload_n hx hb dX6_offices_53 rfl (lv_at hl 2 rfl) ?_
          refine z_iald (k := x1.toNatClampNeg) hx hb hK.1 hP 12 rfl rfl h.1 dX6_offices_54 ?_
          have h := h.2
          exact hret (mx_12 x1.toNatClampNeg) (mr_11, mx_12) _ _ _ ls h hP hD hS dX6_offices_55
        · have h := h.1 c_14
          refine lv_bipush (v := -4) hx hb dX6_offices_44 (by decide) ?_
          refine lv_goto (tgt := 55) hx hb dX6_offices_46 (by decide) ?_
          exact hret (-4 : Int32) (mr_11, mx_12) _ _ _ ls h hP hD hS dX6_offices_55
      · have h := h.1 c_13
        refine lv_iload_n hx hb dX6_offices_25 rfl (lv_at hl 0 rfl) ?_
        refine lv_goto (tgt := 55) hx hb dX6_offices_26 (by decide) ?_
        exact hret r_10 (mr_11, mx_12) _ _ _ ls h hP hD hS dX6_offices_55
    · have h := h.1 c_9
      refine lv_iconst (v := -1) hx hb dX6_offices_13 (by decide) ?_
      exact hret (-1 : Int32) (mr, mx) _ _ _ ls h hP hD hS dX6_offices_14

/-! DoubtCourtModel.mute -/
abbrev rmX6_mute : Room := { frames := 2, cells := 0, slots := 0, locals := 45 }
theorem yoX6_mute : yX6_mute.cls ≠ "java/lang/invoke/MethodHandle" ∧ yX6_mute.cls ≠ "java/lang/invoke/VarHandle" ∧ (parseMethodDescriptor yX6_mute.desc).map (fun d => d.parameters.length) = some 0 := by decide +kernel
set_option maxHeartbeats 4000000 in
set_option maxRecDepth 100000 in
theorem c_X6_mute (l : Launch) (D : va_G) (cI cC cQ : ClassId) (h6 : Nat) (a_mt : Nat) (a_mo : Nat) (a_md : Nat) (a_mb : Nat) (a_ms : Nat) (a_mp : Nat) (a_mi : Nat) (a_mn : Nat) (a_mh : Nat) (a_mg : Nat) (a_mr : Nat) (a_mx : Nat) (mt : Nat → Int32) (my : Int32) (mo : Nat → Int32) (md : Nat → Int32) (mb : Nat → Int32) (ms : Nat → Int32) (mp : Nat → Int32) (mk : Int32) (mi : Nat → Int32) (mq : Int32) (mn : Nat → Int32) (mz : Int32) (ma : Int32) (mh : Nat → Int32) (mg : Nat → Int32) (mr : Nat → Int32) (mx : Nat → Int32) (Q : Int32 → Prop) (h : wX6_mute mo ms Q) : Ci (S := Unit) l D cI cC cQ yX6_mute wsX6_mute rmX6_mute [.ref h6] [(h6, .inr (6, [.ref a_mt, .int my, .ref a_mo, .ref a_md, .ref a_mb, .ref a_ms, .ref a_mp, .int mk, .ref a_mi, .int mq, .ref a_mn, .int mz, .int ma, .ref a_mh, .ref a_mg, .ref a_mr, .ref a_mx])), (a_mt, .inl (cI, 200, .inl mt)), (a_mo, .inl (cI, 16, .inl mo)), (a_md, .inl (cI, 16, .inl md)), (a_mb, .inl (cI, 56, .inl mb)), (a_ms, .inl (cI, 56, .inl ms)), (a_mp, .inl (cI, 448, .inl mp)), (a_mi, .inl (cI, 112, .inl mi)), (a_mn, .inl (cI, 12, .inl mn)), (a_mh, .inl (cI, 42, .inl mh)), (a_mg, .inl (cI, 56, .inl mg)), (a_mr, .inl (cI, 6, .inl mr)), (a_mx, .inl (cI, 6, .inl mx))] (fun _ => [(h6, .inr (6, [.ref a_mt, .int my, .ref a_mo, .ref a_md, .ref a_mb, .ref a_ms, .ref a_mp, .int mk, .ref a_mi, .int mq, .ref a_mn, .int mz, .int ma, .ref a_mh, .ref a_mg, .ref a_mr, .ref a_mx])), (a_mt, .inl (cI, 200, .inl mt)), (a_mo, .inl (cI, 16, .inl mo)), (a_md, .inl (cI, 16, .inl md)), (a_mb, .inl (cI, 56, .inl mb)), (a_ms, .inl (cI, 56, .inl ms)), (a_mp, .inl (cI, 448, .inl mp)), (a_mi, .inl (cI, 112, .inl mi)), (a_mn, .inl (cI, 12, .inl mn)), (a_mh, .inl (cI, 42, .inl mh)), (a_mg, .inl (cI, 56, .inl mg)), (a_mr, .inl (cI, 6, .inl mr)), (a_mx, .inl (cI, 6, .inl mx))]) (fun r _ => Q r) := by
  refine Ci_mk (cc := cX6_mute) (maxL := 3) (by decide) rfl (Nat.le_of_ble_eq_true rfl) ?_
  intro p e s m args below meth c A Z ls hx hb hml hown hts hK hA hP hD hret hl
  have hS : va_S A s.heap s.heap [] := va_S.rf
  have hin6 : ∀ w ∈ u_ws RX6 TX6 17, w ∈ wsX6_mute := by decide +kernel
  have k_0 := hts (.fieldLink RX6 13 "DoubtCourtModel" "told" "[I") (by decide +kernel)
  have k_1 := hts (.fieldLink RX6 22 "DoubtCourtModel" "s" "[I") (by decide +kernel)
  have hl : lv_has ls 3 [(0, .ref h6)] := hl
  have L4 : ∀ (n : Nat) {x1 : Int32} {x2 : Int32} {H : Heap} {locs : List Loc} {ls : Array Slot}, wX6_mute_L4 mo ms Q n x1 x2 → va_P D vwCl [(h6, .inr (6, [.ref a_mt, .int my, .ref a_mo, .ref a_md, .ref a_mb, .ref a_ms, .ref a_mp, .int mk, .ref a_mi, .int mq, .ref a_mn, .int mz, .int ma, .ref a_mh, .ref a_mg, .ref a_mr, .ref a_mx])), (a_mt, .inl (cI, 200, .inl mt)), (a_mo, .inl (cI, 16, .inl mo)), (a_md, .inl (cI, 16, .inl md)), (a_mb, .inl (cI, 56, .inl mb)), (a_ms, .inl (cI, 56, .inl ms)), (a_mp, .inl (cI, 448, .inl mp)), (a_mi, .inl (cI, 112, .inl mi)), (a_mn, .inl (cI, 12, .inl mn)), (a_mh, .inl (cI, 42, .inl mh)), (a_mg, .inl (cI, 56, .inl mg)), (a_mr, .inl (cI, 6, .inl mr)), (a_mx, .inl (cI, 6, .inl mx))] H → va_D A [(h6, .inr (6, [.ref a_mt, .int my, .ref a_mo, .ref a_md, .ref a_mb, .ref a_ms, .ref a_mp, .int mk, .ref a_mi, .int mq, .ref a_mn, .int mz, .int ma, .ref a_mh, .ref a_mg, .ref a_mr, .ref a_mx])), (a_mt, .inl (cI, 200, .inl mt)), (a_mo, .inl (cI, 16, .inl mo)), (a_md, .inl (cI, 16, .inl md)), (a_mb, .inl (cI, 56, .inl mb)), (a_ms, .inl (cI, 56, .inl ms)), (a_mp, .inl (cI, 448, .inl mp)), (a_mi, .inl (cI, 112, .inl mi)), (a_mn, .inl (cI, 12, .inl mn)), (a_mh, .inl (cI, 42, .inl mh)), (a_mg, .inl (cI, 56, .inl mg)), (a_mr, .inl (cI, 6, .inl mr)), (a_mx, .inl (cI, 6, .inl mx))] → va_S A s.heap H locs → lv_has ls 3 [(0, .ref h6), (1, .int x1), (2, .int x2)] → W p l e rmX6_mute s m args below meth c H locs 0 0 Z (F0 m 4 ls []) := by
    intro n
    induction n with
    | zero =>
      intro x1 x2 H locs ls h hP hD hS hl
      exact (show False from h).elim
    | succ n ih =>
      intro x1 x2 H locs ls h hP hD hS hl
      refine lv_iload_n hx hb dX6_mute_4 rfl (lv_at hl 2 rfl) ?_
      refine lv_aload_n hx hb dX6_mute_5 rfl (lv_at hl 0 rfl) ?_
      refine va_get (D := D) (ci := 6) (v := .ref a_mo) (C := RX6) (T := TX6) (N := 17) hx hb hts hin6 hown hK.1 hP 0 rfl rfl 2 (by decide) (k_0) (fun _ h9 => h9) rfl dX6_mute_6 ?_
      refine lv_iconst (v := 1) hx hb dX6_mute_9 (by decide) ?_
      refine z_iald (k := 1) hx hb hK.1 hP 2 rfl (by decide) vi_1_16 dX6_mute_10 ?_
      refine lv_icmp_ge (tgt := 52) hx hb dX6_mute_11 (by decide) (fun c_8 => ?_) (fun c_8 => ?_)
      · have h := h.1 c_8
        refine lv_iload_n hx hb dX6_mute_52 rfl (lv_at hl 1 rfl) ?_
        exact hret x1 () _ _ _ ls h hP hD hS dX6_mute_53
      · have h := h.2 c_8
        refine lv_iload_n hx hb dX6_mute_14 rfl (lv_at hl 1 rfl) ?_
        refine lv_aload_n hx hb dX6_mute_15 rfl (lv_at hl 0 rfl) ?_
        refine va_get (D := D) (ci := 6) (v := .ref a_ms) (C := RX6) (T := TX6) (N := 17) hx hb hts hin6 hown hK.1 hP 0 rfl rfl 5 (by decide) (k_1) (fun _ h9 => h9) rfl dX6_mute_16 ?_
        refine lv_bipush (v := 8) hx hb dX6_mute_19 (by decide) ?_
        refine lv_iload_n hx hb dX6_mute_21 rfl (lv_at hl 2 rfl) ?_
        refine lv_iadd hx hb dX6_mute_22 ?_
        refine z_iald (k := ((8 : Int32) + x2).toNatClampNeg) hx hb hK.1 hP 5 rfl rfl h.1 dX6_mute_23 ?_
        have h := h.2
        refine lv_bipush (v := 9) hx hb dX6_mute_24 (by decide) ?_
        refine lv_icmp_eq (tgt := 43) hx hb dX6_mute_26 (by decide) (fun c_9 => ?_) (fun c_9 => ?_)
        · have h := h.1 c_9
          refine lv_iconst (v := 0) hx hb dX6_mute_43 (by decide) ?_
          refine lv_ior hx hb dX6_mute_44 ?_
          refine lv_topi (fun v_10 ev_10 => ?_)
          have h := h v_10 ev_10
          refine lv_istore_n (lv' := [(1, .int v_10), (0, .ref h6), (2, .int x2)]) hx hb dX6_mute_45 rfl hl (by decide) rfl (fun ls hl => ?_)
          refine lv_iinc (v := (x2 + (1 : Int32))) (lv' := [(2, .int (x2 + (1 : Int32))), (1, .int v_10), (0, .ref h6)]) hx hb dX6_mute_46 hl (k := 2) rfl rfl (by decide) rfl (fun ls hl => ?_)
          refine lv_goto (tgt := 4) hx hb dX6_mute_49 (by decide) ?_
          exact ih h hP hD hS (lv_sub hl [2, 1, 0] rfl)
        · have h := h.2 c_9
          refine lv_aload_n hx hb dX6_mute_29 rfl (lv_at hl 0 rfl) ?_
          refine lv_iload_n hx hb dX6_mute_30 rfl (lv_at hl 2 rfl) ?_
          refine k0V_i (As := [.int x2]) (n := 1) ⟨hx, hb, hml, hown, hts⟩ hK hP hD hS hA (c_X6_doubters l D cI cC cQ h6 a_mt a_mo a_md a_mb a_ms a_mp a_mi a_mn a_mh a_mg a_mr a_mx mt my mo md mb ms mp mk mi mq mn mz ma mh mg mr mx x2 _ h) gX6_mute_X6_doubters rfl rfl ⟨rfl, rfl⟩ yoX6_doubters ⟨Nat.le_of_ble_eq_true rfl, Nat.le_of_ble_eq_true rfl⟩ (q0 := 0) (ci := 6) rfl rfl rfl rfl hl.1 rfl (Nat.le_of_ble_eq_true rfl) dX6_mute_31 ⟨Nat.zero_le _, Nat.zero_le _⟩ (fun r_11 u H locs h hP hD hS => ?_)
          refine lv_if_ne (tgt := 43) hx hb dX6_mute_34 (by decide) (fun c_12 => ?_) (fun c_12 => ?_)
          · have h := h.2 c_12
            refine lv_iconst (v := 0) hx hb dX6_mute_43 (by decide) ?_
            refine lv_ior hx hb dX6_mute_44 ?_
            refine lv_topi (fun v_13 ev_13 => ?_)
            have h := h v_13 ev_13
            refine lv_istore_n (lv' := [(1, .int v_13), (0, .ref h6), (2, .int x2)]) hx hb dX6_mute_45 rfl hl (by decide) rfl (fun ls hl => ?_)
            refine lv_iinc (v := (x2 + (1 : Int32))) (lv' := [(2, .int (x2 + (1 : Int32))), (1, .int v_13), (0, .ref h6)]) hx hb dX6_mute_46 hl (k := 2) rfl rfl (by decide) rfl (fun ls hl => ?_)
            refine lv_goto (tgt := 4) hx hb dX6_mute_49 (by decide) ?_
            exact ih h hP hD hS (lv_sub hl [2, 1, 0] rfl)
          · have h := h.1 c_12
            refine lv_iconst (v := 1) hx hb dX6_mute_37 (by decide) ?_
            refine lv_iload_n hx hb dX6_mute_38 rfl (lv_at hl 2 rfl) ?_
            refine lv_ishl hx hb dX6_mute_39 ?_
            refine lv_goto (tgt := 44) hx hb dX6_mute_40 (by decide) ?_
            refine lv_ior hx hb dX6_mute_44 ?_
            refine lv_topi (fun v_14 ev_14 => ?_)
            have h := h v_14 ev_14
            refine lv_istore_n (lv' := [(1, .int v_14), (0, .ref h6), (2, .int x2)]) hx hb dX6_mute_45 rfl hl (by decide) rfl (fun ls hl => ?_)
            refine lv_iinc (v := (x2 + (1 : Int32))) (lv' := [(2, .int (x2 + (1 : Int32))), (1, .int v_14), (0, .ref h6)]) hx hb dX6_mute_46 hl (k := 2) rfl rfl (by decide) rfl (fun ls hl => ?_)
            refine lv_goto (tgt := 4) hx hb dX6_mute_49 (by decide) ?_
            exact ih h hP hD hS (lv_sub hl [2, 1, 0] rfl)
  refine lv_iconst (v := 0) hx hb dX6_mute_0 (by decide) ?_
  refine lv_istore_n (lv' := [(1, .int (0 : Int32)), (0, .ref h6)]) hx hb dX6_mute_1 rfl hl (by decide) rfl (fun ls hl => ?_)
  refine lv_iconst (v := 0) hx hb dX6_mute_2 (by decide) ?_
  refine lv_istore_n (lv' := [(2, .int (0 : Int32)), (1, .int (0 : Int32)), (0, .ref h6)]) hx hb dX6_mute_3 rfl hl (by decide) rfl (fun ls hl => ?_)
  obtain ⟨n_15, h⟩ := h
  exact L4 n_15 h hP hD hS (lv_sub hl [2, 1, 0] rfl)

/-! DoubtCourtModel.see -/
abbrev rmX6_see : Room := { frames := 2, cells := 0, slots := 0, locals := 43 }
theorem yoX6_see : yX6_see.cls ≠ "java/lang/invoke/MethodHandle" ∧ yX6_see.cls ≠ "java/lang/invoke/VarHandle" ∧ (parseMethodDescriptor yX6_see.desc).map (fun d => d.parameters.length) = some 2 := by decide +kernel
set_option maxHeartbeats 4000000 in
set_option maxRecDepth 100000 in
theorem c_X6_see (l : Launch) (D : va_G) (cI cC cQ : ClassId) (h6 : Nat) (a_mt : Nat) (a_mo : Nat) (a_md : Nat) (a_mb : Nat) (a_ms : Nat) (a_mp : Nat) (a_mi : Nat) (a_mn : Nat) (a_mh : Nat) (a_mg : Nat) (a_mr : Nat) (a_mx : Nat) (mt : Nat → Int32) (my : Int32) (mo : Nat → Int32) (md : Nat → Int32) (mb : Nat → Int32) (ms : Nat → Int32) (mp : Nat → Int32) (mk : Int32) (mi : Nat → Int32) (mq : Int32) (mn : Nat → Int32) (mz : Int32) (ma : Int32) (mh : Nat → Int32) (mg : Nat → Int32) (mr : Nat → Int32) (mx : Nat → Int32) (x1 : Int32) (x2 : Int32) (Q : Int32 → (Nat → Int32) → Int32 → Prop) (h : wX6_see x1 x2 mo mn mz Q) : Ci (S := (Nat → Int32) × (Int32)) l D cI cC cQ yX6_see wsX6_see rmX6_see [.ref h6, .int x1, .int x2] [(h6, .inr (6, [.ref a_mt, .int my, .ref a_mo, .ref a_md, .ref a_mb, .ref a_ms, .ref a_mp, .int mk, .ref a_mi, .int mq, .ref a_mn, .int mz, .int ma, .ref a_mh, .ref a_mg, .ref a_mr, .ref a_mx])), (a_mt, .inl (cI, 200, .inl mt)), (a_mo, .inl (cI, 16, .inl mo)), (a_md, .inl (cI, 16, .inl md)), (a_mb, .inl (cI, 56, .inl mb)), (a_ms, .inl (cI, 56, .inl ms)), (a_mp, .inl (cI, 448, .inl mp)), (a_mi, .inl (cI, 112, .inl mi)), (a_mn, .inl (cI, 12, .inl mn)), (a_mh, .inl (cI, 42, .inl mh)), (a_mg, .inl (cI, 56, .inl mg)), (a_mr, .inl (cI, 6, .inl mr)), (a_mx, .inl (cI, 6, .inl mx))] (fun u => [(h6, .inr (6, [.ref a_mt, .int my, .ref a_mo, .ref a_md, .ref a_mb, .ref a_ms, .ref a_mp, .int mk, .ref a_mi, .int mq, .ref a_mn, .int u.2, .int ma, .ref a_mh, .ref a_mg, .ref a_mr, .ref a_mx])), (a_mt, .inl (cI, 200, .inl mt)), (a_mo, .inl (cI, 16, .inl mo)), (a_md, .inl (cI, 16, .inl md)), (a_mb, .inl (cI, 56, .inl mb)), (a_ms, .inl (cI, 56, .inl ms)), (a_mp, .inl (cI, 448, .inl mp)), (a_mi, .inl (cI, 112, .inl mi)), (a_mn, .inl (cI, 12, .inl u.1)), (a_mh, .inl (cI, 42, .inl mh)), (a_mg, .inl (cI, 56, .inl mg)), (a_mr, .inl (cI, 6, .inl mr)), (a_mx, .inl (cI, 6, .inl mx))]) (fun r u => Q r u.1 u.2) := by
  refine Ci_mk (cc := cX6_see) (maxL := 3) (by decide) rfl (Nat.le_of_ble_eq_true rfl) ?_
  intro p e s m args below meth c A Z ls hx hb hml hown hts hK hA hP hD hret hl
  have hS : va_S A s.heap s.heap [] := va_S.rf
  have hin6 : ∀ w ∈ u_ws RX6 TX6 17, w ∈ wsX6_see := by decide +kernel
  have k_0 := hts (.fieldLink RX6 103 "DoubtCourtModel" "noted" "I") (by decide +kernel)
  have k_1 := hts (.fieldLink RX6 31 "DoubtCourtModel" "notes" "[I") (by decide +kernel)
  have hl : lv_has ls 3 [(0, .ref h6), (1, .int x1), (2, .int x2)] := hl
  have J14 : ∀ {x1 : Int32} {x2 : Int32} {mn : Nat → Int32} {mz : Int32} {H : Heap} {locs : List Loc} {ls : Array Slot}, wX6_see_J14 x1 x2 mn mz Q → va_P D vwCl [(h6, .inr (6, [.ref a_mt, .int my, .ref a_mo, .ref a_md, .ref a_mb, .ref a_ms, .ref a_mp, .int mk, .ref a_mi, .int mq, .ref a_mn, .int mz, .int ma, .ref a_mh, .ref a_mg, .ref a_mr, .ref a_mx])), (a_mt, .inl (cI, 200, .inl mt)), (a_mo, .inl (cI, 16, .inl mo)), (a_md, .inl (cI, 16, .inl md)), (a_mb, .inl (cI, 56, .inl mb)), (a_ms, .inl (cI, 56, .inl ms)), (a_mp, .inl (cI, 448, .inl mp)), (a_mi, .inl (cI, 112, .inl mi)), (a_mn, .inl (cI, 12, .inl mn)), (a_mh, .inl (cI, 42, .inl mh)), (a_mg, .inl (cI, 56, .inl mg)), (a_mr, .inl (cI, 6, .inl mr)), (a_mx, .inl (cI, 6, .inl mx))] H → va_D A [(h6, .inr (6, [.ref a_mt, .int my, .ref a_mo, .ref a_md, .ref a_mb, .ref a_ms, .ref a_mp, .int mk, .ref a_mi, .int mq, .ref a_mn, .int mz, .int ma, .ref a_mh, .ref a_mg, .ref a_mr, .ref a_mx])), (a_mt, .inl (cI, 200, .inl mt)), (a_mo, .inl (cI, 16, .inl mo)), (a_md, .inl (cI, 16, .inl md)), (a_mb, .inl (cI, 56, .inl mb)), (a_ms, .inl (cI, 56, .inl ms)), (a_mp, .inl (cI, 448, .inl mp)), (a_mi, .inl (cI, 112, .inl mi)), (a_mn, .inl (cI, 12, .inl mn)), (a_mh, .inl (cI, 42, .inl mh)), (a_mg, .inl (cI, 56, .inl mg)), (a_mr, .inl (cI, 6, .inl mr)), (a_mx, .inl (cI, 6, .inl mx))] → va_S A s.heap H locs → lv_has ls 3 [(0, .ref h6), (1, .int x1), (2, .int x2)] → W p l e rmX6_see s m args below meth c H locs 0 0 Z (F0 m 14 ls []) := by
    intro x1 x2 mn mz H locs ls h hP hD hS hl
    refine lv_iload_n hx hb dX6_see_14 rfl (lv_at hl 2 rfl) ?_
    refine lv_iconst (v := 0) hx hb dX6_see_15 (by decide) ?_
    refine lv_bipush (v := 20) hx hb dX6_see_16 (by decide) ?_
    refine kS_i (wr := [(h6, .inr (6, [.ref a_mt, .int my, .ref a_mo, .ref a_md, .ref a_mb, .ref a_ms, .ref a_mp, .int mk, .ref a_mi, .int mq, .ref a_mn, .int mz, .int ma, .ref a_mh, .ref a_mg, .ref a_mr, .ref a_mx])), (a_mt, .inl (cI, 200, .inl mt)), (a_mo, .inl (cI, 16, .inl mo)), (a_md, .inl (cI, 16, .inl md)), (a_mb, .inl (cI, 56, .inl mb)), (a_ms, .inl (cI, 56, .inl ms)), (a_mp, .inl (cI, 448, .inl mp)), (a_mi, .inl (cI, 112, .inl mi)), (a_mn, .inl (cI, 12, .inl mn)), (a_mh, .inl (cI, 42, .inl mh)), (a_mg, .inl (cI, 56, .inl mg)), (a_mr, .inl (cI, 6, .inl mr)), (a_mx, .inl (cI, 6, .inl mx))]) (As := [.int x2, .int (0 : Int32), .int (20 : Int32)]) (n := 3) ⟨hx, hb, hml, hown, hts⟩ hK hP hD hS hA (c_X6_in l D cI cC cQ   x2 (0 : Int32) (20 : Int32) _ h) gX6_see_X6_in rfl ⟨rfl, rfl⟩ yoX6_in ⟨Nat.le_of_ble_eq_true rfl, Nat.le_of_ble_eq_true rfl⟩ rfl hl.1 rfl (Nat.le_of_ble_eq_true rfl) dX6_see_18 ⟨Nat.zero_le _, Nat.zero_le _⟩ [] [0, 1, 2, 3, 4, 5, 6, 7, 8, 9, 10, 11, 12] rfl (by decide) rfl (by decide) (by decide) (fun r_2 u H locs h hP hD hS => ?_)
    have hP : va_P D vwCl [(h6, .inr (6, [.ref a_mt, .int my, .ref a_mo, .ref a_md, .ref a_mb, .ref a_ms, .ref a_mp, .int mk, .ref a_mi, .int mq, .ref a_mn, .int mz, .int ma, .ref a_mh, .ref a_mg, .ref a_mr, .ref a_mx])), (a_mt, .inl (cI, 200, .inl mt)), (a_mo, .inl (cI, 16, .inl mo)), (a_md, .inl (cI, 16, .inl md)), (a_mb, .inl (cI, 56, .inl mb)), (a_ms, .inl (cI, 56, .inl ms)), (a_mp, .inl (cI, 448, .inl mp)), (a_mi, .inl (cI, 112, .inl mi)), (a_mn, .inl (cI, 12, .inl mn)), (a_mh, .inl (cI, 42, .inl mh)), (a_mg, .inl (cI, 56, .inl mg)), (a_mr, .inl (cI, 6, .inl mr)), (a_mx, .inl (cI, 6, .inl mx))] H := hP
    have hD : va_D A [(h6, .inr (6, [.ref a_mt, .int my, .ref a_mo, .ref a_md, .ref a_mb, .ref a_ms, .ref a_mp, .int mk, .ref a_mi, .int mq, .ref a_mn, .int mz, .int ma, .ref a_mh, .ref a_mg, .ref a_mr, .ref a_mx])), (a_mt, .inl (cI, 200, .inl mt)), (a_mo, .inl (cI, 16, .inl mo)), (a_md, .inl (cI, 16, .inl md)), (a_mb, .inl (cI, 56, .inl mb)), (a_ms, .inl (cI, 56, .inl ms)), (a_mp, .inl (cI, 448, .inl mp)), (a_mi, .inl (cI, 112, .inl mi)), (a_mn, .inl (cI, 12, .inl mn)), (a_mh, .inl (cI, 42, .inl mh)), (a_mg, .inl (cI, 56, .inl mg)), (a_mr, .inl (cI, 6, .inl mr)), (a_mx, .inl (cI, 6, .inl mx))] := hD
    obtain ⟨b_3, h⟩ := h
    refine lv_if_ne (tgt := 26) hx hb dX6_see_21 (by decide) (fun c_4 => ?_) (fun c_4 => ?_)
    · have h := h.2 c_4
      refine lv_aload_n hx hb dX6_see_26 rfl (lv_at hl 0 rfl) ?_
      refine va_get (D := D) (ci := 6) (v := .int mz) (C := RX6) (T := TX6) (N := 17) hx hb hts hin6 hown hK.1 hP 0 rfl rfl 11 (by decide) (k_0) (fun _ h9 => h9) rfl dX6_see_27 ?_
      refine lv_bipush (v := 6) hx hb dX6_see_30 (by decide) ?_
      refine lv_icmp_ne (tgt := 38) hx hb dX6_see_32 (by decide) (fun c_5 => ?_) (fun c_5 => ?_)
      · have h := h.2 c_5
        refine lv_aload_n hx hb dX6_see_38 rfl (lv_at hl 0 rfl) ?_
        refine va_get (D := D) (ci := 6) (v := .ref a_mn) (C := RX6) (T := TX6) (N := 17) hx hb hts hin6 hown hK.1 hP 0 rfl rfl 10 (by decide) (k_1) (fun _ h9 => h9) rfl dX6_see_39 ?_
        refine lv_iconst (v := 2) hx hb dX6_see_42 (by decide) ?_
        refine lv_aload_n hx hb dX6_see_43 rfl (lv_at hl 0 rfl) ?_
        refine va_get (D := D) (ci := 6) (v := .int mz) (C := RX6) (T := TX6) (N := 17) hx hb hts hin6 hown hK.1 hP 0 rfl rfl 11 (by decide) (k_0) (fun _ h9 => h9) rfl dX6_see_44 ?_
        refine lv_imul hx hb dX6_see_47 ?_
        refine lv_iload_n hx hb dX6_see_48 rfl (lv_at hl 1 rfl) ?_
        refine z_iast (k := ((2 : Int32) * mz).toNatClampNeg) hx hb hK.1 hP hD hS 8 rfl rfl h.1 dX6_see_49 (fun H locs hP hD hS => ?_)
        have h := h.2
        have hP : va_P D vwCl [(h6, .inr (6, [.ref a_mt, .int my, .ref a_mo, .ref a_md, .ref a_mb, .ref a_ms, .ref a_mp, .int mk, .ref a_mi, .int mq, .ref a_mn, .int mz, .int ma, .ref a_mh, .ref a_mg, .ref a_mr, .ref a_mx])), (a_mt, .inl (cI, 200, .inl mt)), (a_mo, .inl (cI, 16, .inl mo)), (a_md, .inl (cI, 16, .inl md)), (a_mb, .inl (cI, 56, .inl mb)), (a_ms, .inl (cI, 56, .inl ms)), (a_mp, .inl (cI, 448, .inl mp)), (a_mi, .inl (cI, 112, .inl mi)), (a_mn, .inl (cI, 12, .inl (upd mn (((2 : Int32) * mz).toNatClampNeg) x1))), (a_mh, .inl (cI, 42, .inl mh)), (a_mg, .inl (cI, 56, .inl mg)), (a_mr, .inl (cI, 6, .inl mr)), (a_mx, .inl (cI, 6, .inl mx))] H := hP
        have hD : va_D A [(h6, .inr (6, [.ref a_mt, .int my, .ref a_mo, .ref a_md, .ref a_mb, .ref a_ms, .ref a_mp, .int mk, .ref a_mi, .int mq, .ref a_mn, .int mz, .int ma, .ref a_mh, .ref a_mg, .ref a_mr, .ref a_mx])), (a_mt, .inl (cI, 200, .inl mt)), (a_mo, .inl (cI, 16, .inl mo)), (a_md, .inl (cI, 16, .inl md)), (a_mb, .inl (cI, 56, .inl mb)), (a_ms, .inl (cI, 56, .inl ms)), (a_mp, .inl (cI, 448, .inl mp)), (a_mi, .inl (cI, 112, .inl mi)), (a_mn, .inl (cI, 12, .inl (upd mn (((2 : Int32) * mz).toNatClampNeg) x1))), (a_mh, .inl (cI, 42, .inl mh)), (a_mg, .inl (cI, 56, .inl mg)), (a_mr, .inl (cI, 6, .inl mr)), (a_mx, .inl (cI, 6, .inl mx))] := hD
        refine lv_aload_n hx hb dX6_see_50 rfl (lv_at hl 0 rfl) ?_
        refine va_get (D := D) (ci := 6) (v := .ref a_mn) (C := RX6) (T := TX6) (N := 17) hx hb hts hin6 hown hK.1 hP 0 rfl rfl 10 (by decide) (k_1) (fun _ h9 => h9) rfl dX6_see_51 ?_
        refine lv_iconst (v := 2) hx hb dX6_see_54 (by decide) ?_
        refine lv_aload_n hx hb dX6_see_55 rfl (lv_at hl 0 rfl) ?_
        refine va_get (D := D) (ci := 6) (v := .int mz) (C := RX6) (T := TX6) (N := 17) hx hb hts hin6 hown hK.1 hP 0 rfl rfl 11 (by decide) (k_0) (fun _ h9 => h9) rfl dX6_see_56 ?_
        refine lv_imul hx hb dX6_see_59 ?_
        refine lv_iconst (v := 1) hx hb dX6_see_60 (by decide) ?_
        refine lv_iadd hx hb dX6_see_61 ?_
        refine lv_iload_n hx hb dX6_see_62 rfl (lv_at hl 2 rfl) ?_
        refine z_iast (k := (((2 : Int32) * mz) + (1 : Int32)).toNatClampNeg) hx hb hK.1 hP hD hS 8 rfl rfl h.1 dX6_see_63 (fun H locs hP hD hS => ?_)
        have h := h.2
        have hP : va_P D vwCl [(h6, .inr (6, [.ref a_mt, .int my, .ref a_mo, .ref a_md, .ref a_mb, .ref a_ms, .ref a_mp, .int mk, .ref a_mi, .int mq, .ref a_mn, .int mz, .int ma, .ref a_mh, .ref a_mg, .ref a_mr, .ref a_mx])), (a_mt, .inl (cI, 200, .inl mt)), (a_mo, .inl (cI, 16, .inl mo)), (a_md, .inl (cI, 16, .inl md)), (a_mb, .inl (cI, 56, .inl mb)), (a_ms, .inl (cI, 56, .inl ms)), (a_mp, .inl (cI, 448, .inl mp)), (a_mi, .inl (cI, 112, .inl mi)), (a_mn, .inl (cI, 12, .inl (upd (upd mn (((2 : Int32) * mz).toNatClampNeg) x1) ((((2 : Int32) * mz) + (1 : Int32)).toNatClampNeg) x2))), (a_mh, .inl (cI, 42, .inl mh)), (a_mg, .inl (cI, 56, .inl mg)), (a_mr, .inl (cI, 6, .inl mr)), (a_mx, .inl (cI, 6, .inl mx))] H := hP
        have hD : va_D A [(h6, .inr (6, [.ref a_mt, .int my, .ref a_mo, .ref a_md, .ref a_mb, .ref a_ms, .ref a_mp, .int mk, .ref a_mi, .int mq, .ref a_mn, .int mz, .int ma, .ref a_mh, .ref a_mg, .ref a_mr, .ref a_mx])), (a_mt, .inl (cI, 200, .inl mt)), (a_mo, .inl (cI, 16, .inl mo)), (a_md, .inl (cI, 16, .inl md)), (a_mb, .inl (cI, 56, .inl mb)), (a_ms, .inl (cI, 56, .inl ms)), (a_mp, .inl (cI, 448, .inl mp)), (a_mi, .inl (cI, 112, .inl mi)), (a_mn, .inl (cI, 12, .inl (upd (upd mn (((2 : Int32) * mz).toNatClampNeg) x1) ((((2 : Int32) * mz) + (1 : Int32)).toNatClampNeg) x2))), (a_mh, .inl (cI, 42, .inl mh)), (a_mg, .inl (cI, 56, .inl mg)), (a_mr, .inl (cI, 6, .inl mr)), (a_mx, .inl (cI, 6, .inl mx))] := hD
        refine lv_aload_n hx hb dX6_see_64 rfl (lv_at hl 0 rfl) ?_
        refine lv_dup hx hb dX6_see_65 rfl ?_
        refine va_get (D := D) (ci := 6) (v := .int mz) (C := RX6) (T := TX6) (N := 17) hx hb hts hin6 hown hK.1 hP 0 rfl rfl 11 (by decide) (k_0) (fun _ h9 => h9) rfl dX6_see_66 ?_
        refine lv_iconst (v := 1) hx hb dX6_see_69 (by decide) ?_
        refine lv_iadd hx hb dX6_see_70 ?_
        refine va_put (D := D) (ci := 6) (v := .int (mz + (1 : Int32))) (ty := .int) (C := RX6) (T := TX6) (N := 17) hx hb hts hin6 tyX6 tyX6_ok nmX6 hown hK.1 hP hD hS 0 rfl rfl 11 (by decide) (k_0) (fun _ h9 => h9) rfl (by decide +kernel) rfl rfl (Nat.le_of_ble_eq_true rfl) dX6_see_71 (fun H locs hP hD hS => ?_)
        have hP : va_P D vwCl [(h6, .inr (6, [.ref a_mt, .int my, .ref a_mo, .ref a_md, .ref a_mb, .ref a_ms, .ref a_mp, .int mk, .ref a_mi, .int mq, .ref a_mn, .int (mz + (1 : Int32)), .int ma, .ref a_mh, .ref a_mg, .ref a_mr, .ref a_mx])), (a_mt, .inl (cI, 200, .inl mt)), (a_mo, .inl (cI, 16, .inl mo)), (a_md, .inl (cI, 16, .inl md)), (a_mb, .inl (cI, 56, .inl mb)), (a_ms, .inl (cI, 56, .inl ms)), (a_mp, .inl (cI, 448, .inl mp)), (a_mi, .inl (cI, 112, .inl mi)), (a_mn, .inl (cI, 12, .inl (upd (upd mn (((2 : Int32) * mz).toNatClampNeg) x1) ((((2 : Int32) * mz) + (1 : Int32)).toNatClampNeg) x2))), (a_mh, .inl (cI, 42, .inl mh)), (a_mg, .inl (cI, 56, .inl mg)), (a_mr, .inl (cI, 6, .inl mr)), (a_mx, .inl (cI, 6, .inl mx))] H := hP
        have hD : va_D A [(h6, .inr (6, [.ref a_mt, .int my, .ref a_mo, .ref a_md, .ref a_mb, .ref a_ms, .ref a_mp, .int mk, .ref a_mi, .int mq, .ref a_mn, .int (mz + (1 : Int32)), .int ma, .ref a_mh, .ref a_mg, .ref a_mr, .ref a_mx])), (a_mt, .inl (cI, 200, .inl mt)), (a_mo, .inl (cI, 16, .inl mo)), (a_md, .inl (cI, 16, .inl md)), (a_mb, .inl (cI, 56, .inl mb)), (a_ms, .inl (cI, 56, .inl ms)), (a_mp, .inl (cI, 448, .inl mp)), (a_mi, .inl (cI, 112, .inl mi)), (a_mn, .inl (cI, 12, .inl (upd (upd mn (((2 : Int32) * mz).toNatClampNeg) x1) ((((2 : Int32) * mz) + (1 : Int32)).toNatClampNeg) x2))), (a_mh, .inl (cI, 42, .inl mh)), (a_mg, .inl (cI, 56, .inl mg)), (a_mr, .inl (cI, 6, .inl mr)), (a_mx, .inl (cI, 6, .inl mx))] := hD
        refine lv_aload_n hx hb dX6_see_74 rfl (lv_at hl 0 rfl) ?_
        refine va_get (D := D) (ci := 6) (v := .int (mz + (1 : Int32))) (C := RX6) (T := TX6) (N := 17) hx hb hts hin6 hown hK.1 hP 0 rfl rfl 11 (by decide) (k_0) (fun _ h9 => h9) rfl dX6_see_75 ?_
        exact hret (mz + (1 : Int32)) ((upd (upd mn (((2 : Int32) * mz).toNatClampNeg) x1) ((((2 : Int32) * mz) + (1 : Int32)).toNatClampNeg) x2), (mz + (1 : Int32))) _ _ _ ls h hP hD hS dX6_see_78
      · have h := h.1 c_5
        refine lv_bipush (v := -3) hx hb dX6_see_35 (by decide) ?_
        exact hret (-3 : Int32) (mn, mz) _ _ _ ls h hP hD hS dX6_see_37
    · have h := h.1 c_4
      refine lv_iconst (v := -1) hx hb dX6_see_24 (by decide) ?_
      exact hret (-1 : Int32) (mn, mz) _ _ _ ls h hP hD hS dX6_see_25
  refine lv_iload_n hx hb dX6_see_0 rfl (lv_at hl 1 rfl) ?_
  refine lv_bipush (v := 9) hx hb dX6_see_1 (by decide) ?_
  refine lv_icmp_eq (tgt := 14) hx hb dX6_see_3 (by decide) (fun c_1 => ?_) (fun c_1 => ?_)
  · have h := h.1 c_1
    exact J14 h hP hD hS (lv_sub hl [0, 1, 2] rfl)
  · have h := h.2 c_1
    refine lv_aload_n hx hb dX6_see_6 rfl (lv_at hl 0 rfl) ?_
    refine lv_iload_n hx hb dX6_see_7 rfl (lv_at hl 1 rfl) ?_
    refine k0V_i (As := [.int x1]) (n := 1) ⟨hx, hb, hml, hown, hts⟩ hK hP hD hS hA (c_X6_isCourtier l D cI cC cQ h6 a_mt a_mo a_md a_mb a_ms a_mp a_mi a_mn a_mh a_mg a_mr a_mx mt my mo md mb ms mp mk mi mq mn mz ma mh mg mr mx x1 _ h) gX6_see_X6_isCourtier rfl rfl ⟨rfl, rfl⟩ yoX6_isCourtier ⟨Nat.le_of_ble_eq_true rfl, Nat.le_of_ble_eq_true rfl⟩ (q0 := 0) (ci := 6) rfl rfl rfl rfl hl.1 rfl (Nat.le_of_ble_eq_true rfl) dX6_see_8 ⟨Nat.zero_le _, Nat.zero_le _⟩ (fun r_6 u H locs h hP hD hS => ?_)
    obtain ⟨b_7, h⟩ := h
    refine lv_if_eq (tgt := 24) hx hb dX6_see_11 (by decide) (fun c_8 => ?_) (fun c_8 => ?_)
    · have h := h.1 c_8
      refine lv_iconst (v := -1) hx hb dX6_see_24 (by decide) ?_
      exact hret (-1 : Int32) (mn, mz) _ _ _ ls h hP hD hS dX6_see_25
    · have h := h.2 c_8
      exact J14 h hP hD hS (lv_sub hl [0, 1, 2] rfl)

/-! DoubtCourtModel.forget -/
abbrev rmX6_forget : Room := { frames := 0, cells := 0, slots := 0, locals := 0 }
theorem yoX6_forget : yX6_forget.cls ≠ "java/lang/invoke/MethodHandle" ∧ yX6_forget.cls ≠ "java/lang/invoke/VarHandle" ∧ (parseMethodDescriptor yX6_forget.desc).map (fun d => d.parameters.length) = some 0 := by decide +kernel
set_option maxHeartbeats 4000000 in
set_option maxRecDepth 100000 in
theorem c_X6_forget (l : Launch) (D : va_G) (cI cC cQ : ClassId) (h6 : Nat) (a_mt : Nat) (a_mo : Nat) (a_md : Nat) (a_mb : Nat) (a_ms : Nat) (a_mp : Nat) (a_mi : Nat) (a_mn : Nat) (a_mh : Nat) (a_mg : Nat) (a_mr : Nat) (a_mx : Nat) (mt : Nat → Int32) (my : Int32) (mo : Nat → Int32) (md : Nat → Int32) (mb : Nat → Int32) (ms : Nat → Int32) (mp : Nat → Int32) (mk : Int32) (mi : Nat → Int32) (mq : Int32) (mn : Nat → Int32) (mz : Int32) (ma : Int32) (mh : Nat → Int32) (mg : Nat → Int32) (mr : Nat → Int32) (mx : Nat → Int32) (Q : Int32 → Int32 → Prop) (h : wX6_forget mz Q) : Ci (S := (Int32)) l D cI cC cQ yX6_forget wsX6_forget rmX6_forget [.ref h6] [(h6, .inr (6, [.ref a_mt, .int my, .ref a_mo, .ref a_md, .ref a_mb, .ref a_ms, .ref a_mp, .int mk, .ref a_mi, .int mq, .ref a_mn, .int mz, .int ma, .ref a_mh, .ref a_mg, .ref a_mr, .ref a_mx])), (a_mt, .inl (cI, 200, .inl mt)), (a_mo, .inl (cI, 16, .inl mo)), (a_md, .inl (cI, 16, .inl md)), (a_mb, .inl (cI, 56, .inl mb)), (a_ms, .inl (cI, 56, .inl ms)), (a_mp, .inl (cI, 448, .inl mp)), (a_mi, .inl (cI, 112, .inl mi)), (a_mn, .inl (cI, 12, .inl mn)), (a_mh, .inl (cI, 42, .inl mh)), (a_mg, .inl (cI, 56, .inl mg)), (a_mr, .inl (cI, 6, .inl mr)), (a_mx, .inl (cI, 6, .inl mx))] (fun u => [(h6, .inr (6, [.ref a_mt, .int my, .ref a_mo, .ref a_md, .ref a_mb, .ref a_ms, .ref a_mp, .int mk, .ref a_mi, .int mq, .ref a_mn, .int u, .int ma, .ref a_mh, .ref a_mg, .ref a_mr, .ref a_mx])), (a_mt, .inl (cI, 200, .inl mt)), (a_mo, .inl (cI, 16, .inl mo)), (a_md, .inl (cI, 16, .inl md)), (a_mb, .inl (cI, 56, .inl mb)), (a_ms, .inl (cI, 56, .inl ms)), (a_mp, .inl (cI, 448, .inl mp)), (a_mi, .inl (cI, 112, .inl mi)), (a_mn, .inl (cI, 12, .inl mn)), (a_mh, .inl (cI, 42, .inl mh)), (a_mg, .inl (cI, 56, .inl mg)), (a_mr, .inl (cI, 6, .inl mr)), (a_mx, .inl (cI, 6, .inl mx))]) (fun r u => Q r u) := by
  refine Ci_mk (cc := cX6_forget) (maxL := 2) (by decide) rfl (Nat.le_of_ble_eq_true rfl) ?_
  intro p e s m args below meth c A Z ls hx hb hml hown hts hK hA hP hD hret hl
  have hS : va_S A s.heap s.heap [] := va_S.rf
  have hin6 : ∀ w ∈ u_ws RX6 TX6 17, w ∈ wsX6_forget := by decide +kernel
  have k_0 := hts (.fieldLink RX6 103 "DoubtCourtModel" "noted" "I") (by decide +kernel)
  have hl : lv_has ls 2 [(0, .ref h6)] := hl
  refine lv_aload_n hx hb dX6_forget_0 rfl (lv_at hl 0 rfl) ?_
  refine va_get (D := D) (ci := 6) (v := .int mz) (C := RX6) (T := TX6) (N := 17) hx hb hts hin6 hown hK.1 hP 0 rfl rfl 11 (by decide) (k_0) (fun _ h9 => h9) rfl dX6_forget_1 ?_
  refine lv_istore_n (lv' := [(1, .int mz), (0, .ref h6)]) hx hb dX6_forget_4 rfl hl (by decide) rfl (fun ls hl => ?_)
  refine lv_aload_n hx hb dX6_forget_5 rfl (lv_at hl 1 rfl) ?_
  refine lv_iconst (v := 0) hx hb dX6_forget_6 (by decide) ?_
  refine va_put (D := D) (ci := 6) (v := .int (0 : Int32)) (ty := .int) (C := RX6) (T := TX6) (N := 17) hx hb hts hin6 tyX6 tyX6_ok nmX6 hown hK.1 hP hD hS 0 rfl rfl 11 (by decide) (k_0) (fun _ h9 => h9) rfl (by decide +kernel) rfl rfl (Nat.le_of_ble_eq_true rfl) dX6_forget_7 (fun H locs hP hD hS => ?_)
  have hP : va_P D vwCl [(h6, .inr (6, [.ref a_mt, .int my, .ref a_mo, .ref a_md, .ref a_mb, .ref a_ms, .ref a_mp, .int mk, .ref a_mi, .int mq, .ref a_mn, .int (0 : Int32), .int ma, .ref a_mh, .ref a_mg, .ref a_mr, .ref a_mx])), (a_mt, .inl (cI, 200, .inl mt)), (a_mo, .inl (cI, 16, .inl mo)), (a_md, .inl (cI, 16, .inl md)), (a_mb, .inl (cI, 56, .inl mb)), (a_ms, .inl (cI, 56, .inl ms)), (a_mp, .inl (cI, 448, .inl mp)), (a_mi, .inl (cI, 112, .inl mi)), (a_mn, .inl (cI, 12, .inl mn)), (a_mh, .inl (cI, 42, .inl mh)), (a_mg, .inl (cI, 56, .inl mg)), (a_mr, .inl (cI, 6, .inl mr)), (a_mx, .inl (cI, 6, .inl mx))] H := hP
  have hD : va_D A [(h6, .inr (6, [.ref a_mt, .int my, .ref a_mo, .ref a_md, .ref a_mb, .ref a_ms, .ref a_mp, .int mk, .ref a_mi, .int mq, .ref a_mn, .int (0 : Int32), .int ma, .ref a_mh, .ref a_mg, .ref a_mr, .ref a_mx])), (a_mt, .inl (cI, 200, .inl mt)), (a_mo, .inl (cI, 16, .inl mo)), (a_md, .inl (cI, 16, .inl md)), (a_mb, .inl (cI, 56, .inl mb)), (a_ms, .inl (cI, 56, .inl ms)), (a_mp, .inl (cI, 448, .inl mp)), (a_mi, .inl (cI, 112, .inl mi)), (a_mn, .inl (cI, 12, .inl mn)), (a_mh, .inl (cI, 42, .inl mh)), (a_mg, .inl (cI, 56, .inl mg)), (a_mr, .inl (cI, 6, .inl mr)), (a_mx, .inl (cI, 6, .inl mx))] := hD
  refine lv_iload_n hx hb dX6_forget_10 rfl (lv_at hl 0 rfl) ?_
  exact hret mz (0 : Int32) _ _ _ ls h hP hD hS dX6_forget_11

/-! DoubtCourtModel.whichNow -/
abbrev rmX6_whichNow : Room := { frames := 3, cells := 0, slots := 0, locals := 73 }
theorem yoX6_whichNow : yX6_whichNow.cls ≠ "java/lang/invoke/MethodHandle" ∧ yX6_whichNow.cls ≠ "java/lang/invoke/VarHandle" ∧ (parseMethodDescriptor yX6_whichNow.desc).map (fun d => d.parameters.length) = some 0 := by decide +kernel
set_option maxHeartbeats 4000000 in
set_option maxRecDepth 100000 in
theorem c_X6_whichNow (l : Launch) (D : va_G) (cI cC cQ : ClassId) (h6 : Nat) (a_mt : Nat) (a_mo : Nat) (a_md : Nat) (a_mb : Nat) (a_ms : Nat) (a_mp : Nat) (a_mi : Nat) (a_mn : Nat) (a_mh : Nat) (a_mg : Nat) (a_mr : Nat) (a_mx : Nat) (mt : Nat → Int32) (my : Int32) (mo : Nat → Int32) (md : Nat → Int32) (mb : Nat → Int32) (ms : Nat → Int32) (mp : Nat → Int32) (mk : Int32) (mi : Nat → Int32) (mq : Int32) (mn : Nat → Int32) (mz : Int32) (ma : Int32) (mh : Nat → Int32) (mg : Nat → Int32) (mr : Nat → Int32) (mx : Nat → Int32) (Q : Int32 → (Nat → Int32) → (Nat → Int32) → (Nat → Int32) → Prop) (h : wX6_whichNow mo ms mn mz mh mg Q) : Ci (S := (Nat → Int32) × (Nat → Int32) × (Nat → Int32)) l D cI cC cQ yX6_whichNow wsX6_whichNow rmX6_whichNow [.ref h6] [(h6, .inr (6, [.ref a_mt, .int my, .ref a_mo, .ref a_md, .ref a_mb, .ref a_ms, .ref a_mp, .int mk, .ref a_mi, .int mq, .ref a_mn, .int mz, .int ma, .ref a_mh, .ref a_mg, .ref a_mr, .ref a_mx])), (a_mt, .inl (cI, 200, .inl mt)), (a_mo, .inl (cI, 16, .inl mo)), (a_md, .inl (cI, 16, .inl md)), (a_mb, .inl (cI, 56, .inl mb)), (a_ms, .inl (cI, 56, .inl ms)), (a_mp, .inl (cI, 448, .inl mp)), (a_mi, .inl (cI, 112, .inl mi)), (a_mn, .inl (cI, 12, .inl mn)), (a_mh, .inl (cI, 42, .inl mh)), (a_mg, .inl (cI, 56, .inl mg)), (a_mr, .inl (cI, 6, .inl mr)), (a_mx, .inl (cI, 6, .inl mx))] (fun u => [(h6, .inr (6, [.ref a_mt, .int my, .ref a_mo, .ref a_md, .ref a_mb, .ref a_ms, .ref a_mp, .int mk, .ref a_mi, .int mq, .ref a_mn, .int mz, .int ma, .ref a_mh, .ref a_mg, .ref a_mr, .ref a_mx])), (a_mt, .inl (cI, 200, .inl mt)), (a_mo, .inl (cI, 16, .inl mo)), (a_md, .inl (cI, 16, .inl md)), (a_mb, .inl (cI, 56, .inl mb)), (a_ms, .inl (cI, 56, .inl u.1)), (a_mp, .inl (cI, 448, .inl mp)), (a_mi, .inl (cI, 112, .inl mi)), (a_mn, .inl (cI, 12, .inl mn)), (a_mh, .inl (cI, 42, .inl u.2.1)), (a_mg, .inl (cI, 56, .inl u.2.2)), (a_mr, .inl (cI, 6, .inl mr)), (a_mx, .inl (cI, 6, .inl mx))]) (fun r u => Q r u.1 u.2.1 u.2.2) := by
  refine Ci_mk (cc := cX6_whichNow) (maxL := 5) (by decide) rfl (Nat.le_of_ble_eq_true rfl) ?_
  intro p e s m args below meth c A Z ls hx hb hml hown hts hK hA hP hD hret hl
  have hS : va_S A s.heap s.heap [] := va_S.rf
  have hin6 : ∀ w ∈ u_ws RX6 TX6 17, w ∈ wsX6_whichNow := by decide +kernel
  have k_0 := hts (.fieldLink RX6 13 "DoubtCourtModel" "told" "[I") (by decide +kernel)
  have k_1 := hts (.fieldLink RX6 103 "DoubtCourtModel" "noted" "I") (by decide +kernel)
  have k_2 := hts (.fieldLink RX6 31 "DoubtCourtModel" "notes" "[I") (by decide +kernel)
  have k_3 := hts (.fieldLink RX6 22 "DoubtCourtModel" "s" "[I") (by decide +kernel)
  have hl : lv_has ls 5 [(0, .ref h6)] := hl
  have L38 : ∀ {K25 : Int32 → Int32 → Prop} (n : Nat) {x1 : Int32} {x2 : Int32} {x3 : Int32} {x4 : Int32} {ms : Nat → Int32} {mh : Nat → Int32} {mg : Nat → Int32} {H : Heap} {locs : List Loc} {ls : Array Slot}, wX6_whichNow_L38 x2 x3 ms mn mz K25 n x1 x4 → va_P D vwCl [(h6, .inr (6, [.ref a_mt, .int my, .ref a_mo, .ref a_md, .ref a_mb, .ref a_ms, .ref a_mp, .int mk, .ref a_mi, .int mq, .ref a_mn, .int mz, .int ma, .ref a_mh, .ref a_mg, .ref a_mr, .ref a_mx])), (a_mt, .inl (cI, 200, .inl mt)), (a_mo, .inl (cI, 16, .inl mo)), (a_md, .inl (cI, 16, .inl md)), (a_mb, .inl (cI, 56, .inl mb)), (a_ms, .inl (cI, 56, .inl ms)), (a_mp, .inl (cI, 448, .inl mp)), (a_mi, .inl (cI, 112, .inl mi)), (a_mn, .inl (cI, 12, .inl mn)), (a_mh, .inl (cI, 42, .inl mh)), (a_mg, .inl (cI, 56, .inl mg)), (a_mr, .inl (cI, 6, .inl mr)), (a_mx, .inl (cI, 6, .inl mx))] H → va_D A [(h6, .inr (6, [.ref a_mt, .int my, .ref a_mo, .ref a_md, .ref a_mb, .ref a_ms, .ref a_mp, .int mk, .ref a_mi, .int mq, .ref a_mn, .int mz, .int ma, .ref a_mh, .ref a_mg, .ref a_mr, .ref a_mx])), (a_mt, .inl (cI, 200, .inl mt)), (a_mo, .inl (cI, 16, .inl mo)), (a_md, .inl (cI, 16, .inl md)), (a_mb, .inl (cI, 56, .inl mb)), (a_ms, .inl (cI, 56, .inl ms)), (a_mp, .inl (cI, 448, .inl mp)), (a_mi, .inl (cI, 112, .inl mi)), (a_mn, .inl (cI, 12, .inl mn)), (a_mh, .inl (cI, 42, .inl mh)), (a_mg, .inl (cI, 56, .inl mg)), (a_mr, .inl (cI, 6, .inl mr)), (a_mx, .inl (cI, 6, .inl mx))] → va_S A s.heap H locs → lv_has ls 5 [(0, .ref h6), (1, .int x1), (2, .int x2), (3, .int x3), (4, .int x4)] → (∀ (x1 : Int32) (x3 : Int32) (H : Heap) (locs : List Loc) (ls : Array Slot), K25 x1 x3 → va_P D vwCl [(h6, .inr (6, [.ref a_mt, .int my, .ref a_mo, .ref a_md, .ref a_mb, .ref a_ms, .ref a_mp, .int mk, .ref a_mi, .int mq, .ref a_mn, .int mz, .int ma, .ref a_mh, .ref a_mg, .ref a_mr, .ref a_mx])), (a_mt, .inl (cI, 200, .inl mt)), (a_mo, .inl (cI, 16, .inl mo)), (a_md, .inl (cI, 16, .inl md)), (a_mb, .inl (cI, 56, .inl mb)), (a_ms, .inl (cI, 56, .inl ms)), (a_mp, .inl (cI, 448, .inl mp)), (a_mi, .inl (cI, 112, .inl mi)), (a_mn, .inl (cI, 12, .inl mn)), (a_mh, .inl (cI, 42, .inl mh)), (a_mg, .inl (cI, 56, .inl mg)), (a_mr, .inl (cI, 6, .inl mr)), (a_mx, .inl (cI, 6, .inl mx))] H → va_D A [(h6, .inr (6, [.ref a_mt, .int my, .ref a_mo, .ref a_md, .ref a_mb, .ref a_ms, .ref a_mp, .int mk, .ref a_mi, .int mq, .ref a_mn, .int mz, .int ma, .ref a_mh, .ref a_mg, .ref a_mr, .ref a_mx])), (a_mt, .inl (cI, 200, .inl mt)), (a_mo, .inl (cI, 16, .inl mo)), (a_md, .inl (cI, 16, .inl md)), (a_mb, .inl (cI, 56, .inl mb)), (a_ms, .inl (cI, 56, .inl ms)), (a_mp, .inl (cI, 448, .inl mp)), (a_mi, .inl (cI, 112, .inl mi)), (a_mn, .inl (cI, 12, .inl mn)), (a_mh, .inl (cI, 42, .inl mh)), (a_mg, .inl (cI, 56, .inl mg)), (a_mr, .inl (cI, 6, .inl mr)), (a_mx, .inl (cI, 6, .inl mx))] → va_S A s.heap H locs → lv_has ls 5 [(0, .ref h6), (1, .int x1), (2, .int x2), (3, .int x3)] → W p l e rmX6_whichNow s m args below meth c H locs 0 0 Z (F0 m 25 ls [])) → W p l e rmX6_whichNow s m args below meth c H locs 0 0 Z (F0 m 38 ls []) := by
    intro K25
    intro n
    induction n with
    | zero =>
      intro x1 x2 x3 x4 ms mh mg H locs ls h hP hD hS hl hk25
      exact (show False from h).elim
    | succ n ih =>
      intro x1 x2 x3 x4 ms mh mg H locs ls h hP hD hS hl hk25
      refine lv_iload hx hb dX6_whichNow_38 (lv_at hl 4 rfl) ?_
      refine lv_aload_n hx hb dX6_whichNow_40 rfl (lv_at hl 0 rfl) ?_
      refine va_get (D := D) (ci := 6) (v := .int mz) (C := RX6) (T := TX6) (N := 17) hx hb hts hin6 hown hK.1 hP 0 rfl rfl 11 (by decide) (k_1) (fun _ h9 => h9) rfl dX6_whichNow_41 ?_
      refine lv_icmp_ge (tgt := 101) hx hb dX6_whichNow_44 (by decide) (fun c_75 => ?_) (fun c_75 => ?_)
      · have h := h.1 c_75
        refine lv_iinc (v := (x3 + (1 : Int32))) (lv' := [(3, .int (x3 + (1 : Int32))), (0, .ref h6), (1, .int x1), (2, .int x2), (4, .int x4)]) hx hb dX6_whichNow_101 hl (k := 3) rfl rfl (by decide) rfl (fun ls hl => ?_)
        refine lv_goto (tgt := 25) hx hb dX6_whichNow_104 (by decide) ?_
        exact hk25 x1 (x3 + (1 : Int32)) _ _ _ h hP hD hS (lv_sub hl [1, 2, 3, 0] rfl)
      · have h := h.2 c_75
        refine lv_iload_n hx hb dX6_whichNow_47 rfl (lv_at hl 1 rfl) ?_
        refine lv_aload_n hx hb dX6_whichNow_48 rfl (lv_at hl 0 rfl) ?_
        refine va_get (D := D) (ci := 6) (v := .ref a_mn) (C := RX6) (T := TX6) (N := 17) hx hb hts hin6 hown hK.1 hP 0 rfl rfl 10 (by decide) (k_2) (fun _ h9 => h9) rfl dX6_whichNow_49 ?_
        refine lv_iconst (v := 2) hx hb dX6_whichNow_52 (by decide) ?_
        refine lv_iload hx hb dX6_whichNow_53 (lv_at hl 4 rfl) ?_
        refine lv_imul hx hb dX6_whichNow_55 ?_
        refine lv_iconst (v := 1) hx hb dX6_whichNow_56 (by decide) ?_
        refine lv_iadd hx hb dX6_whichNow_57 ?_
        refine z_iald (k := (((2 : Int32) * x4) + (1 : Int32)).toNatClampNeg) hx hb hK.1 hP 8 rfl rfl h.1 dX6_whichNow_58 ?_
        have h := h.2
        refine lv_iload_n hx hb dX6_whichNow_59 rfl (lv_at hl 2 rfl) ?_
        refine lv_icmp_ne (tgt := 92) hx hb dX6_whichNow_60 (by decide) (fun c_76 => ?_) (fun c_76 => ?_)
        · have h := h.2 c_76
          refine lv_iconst (v := -1) hx hb dX6_whichNow_92 (by decide) ?_
          refine lv_iand hx hb dX6_whichNow_93 ?_
          refine lv_topi (fun v_77 ev_77 => ?_)
          have h := h v_77 ev_77
          refine lv_istore_n (lv' := [(1, .int v_77), (0, .ref h6), (2, .int x2), (3, .int x3), (4, .int x4)]) hx hb dX6_whichNow_94 rfl hl (by decide) rfl (fun ls hl => ?_)
          refine lv_iinc (v := (x4 + (1 : Int32))) (lv' := [(4, .int (x4 + (1 : Int32))), (1, .int v_77), (0, .ref h6), (2, .int x2), (3, .int x3)]) hx hb dX6_whichNow_95 hl (k := 4) rfl rfl (by decide) rfl (fun ls hl => ?_)
          refine lv_goto (tgt := 38) hx hb dX6_whichNow_98 (by decide) ?_
          exact ih h hP hD hS (lv_sub hl [2, 1, 3, 4, 0] rfl) hk25
        · have h := h.1 c_76
          refine lv_aload_n hx hb dX6_whichNow_63 rfl (lv_at hl 0 rfl) ?_
          refine va_get (D := D) (ci := 6) (v := .ref a_ms) (C := RX6) (T := TX6) (N := 17) hx hb hts hin6 hown hK.1 hP 0 rfl rfl 5 (by decide) (k_3) (fun _ h9 => h9) rfl dX6_whichNow_64 ?_
          refine lv_bipush (v := 8) hx hb dX6_whichNow_67 (by decide) ?_
          refine lv_iload_n hx hb dX6_whichNow_69 rfl (lv_at hl 3 rfl) ?_
          refine lv_iadd hx hb dX6_whichNow_70 ?_
          refine z_iald (k := ((8 : Int32) + x3).toNatClampNeg) hx hb hK.1 hP 5 rfl rfl h.1 dX6_whichNow_71 ?_
          have h := h.2
          refine lv_aload_n hx hb dX6_whichNow_72 rfl (lv_at hl 0 rfl) ?_
          refine va_get (D := D) (ci := 6) (v := .ref a_mn) (C := RX6) (T := TX6) (N := 17) hx hb hts hin6 hown hK.1 hP 0 rfl rfl 10 (by decide) (k_2) (fun _ h9 => h9) rfl dX6_whichNow_73 ?_
          refine lv_iconst (v := 2) hx hb dX6_whichNow_76 (by decide) ?_
          refine lv_iload hx hb dX6_whichNow_77 (lv_at hl 4 rfl) ?_
          refine lv_imul hx hb dX6_whichNow_79 ?_
          refine z_iald (k := ((2 : Int32) * x4).toNatClampNeg) hx hb hK.1 hP 8 rfl rfl h.1 dX6_whichNow_80 ?_
          have h := h.2
          refine lv_icmp_eq (tgt := 92) hx hb dX6_whichNow_81 (by decide) (fun c_78 => ?_) (fun c_78 => ?_)
          · have h := h.1 c_78
            refine lv_iconst (v := -1) hx hb dX6_whichNow_92 (by decide) ?_
            refine lv_iand hx hb dX6_whichNow_93 ?_
            refine lv_topi (fun v_79 ev_79 => ?_)
            have h := h v_79 ev_79
            refine lv_istore_n (lv' := [(1, .int v_79), (0, .ref h6), (2, .int x2), (3, .int x3), (4, .int x4)]) hx hb dX6_whichNow_94 rfl hl (by decide) rfl (fun ls hl => ?_)
            refine lv_iinc (v := (x4 + (1 : Int32))) (lv' := [(4, .int (x4 + (1 : Int32))), (1, .int v_79), (0, .ref h6), (2, .int x2), (3, .int x3)]) hx hb dX6_whichNow_95 hl (k := 4) rfl rfl (by decide) rfl (fun ls hl => ?_)
            refine lv_goto (tgt := 38) hx hb dX6_whichNow_98 (by decide) ?_
            exact ih h hP hD hS (lv_sub hl [2, 1, 3, 4, 0] rfl) hk25
          · have h := h.2 c_78
            refine lv_iconst (v := 1) hx hb dX6_whichNow_84 (by decide) ?_
            refine lv_iload_n hx hb dX6_whichNow_85 rfl (lv_at hl 3 rfl) ?_
            refine lv_ishl hx hb dX6_whichNow_86 ?_
            refine lv_iconst (v := -1) hx hb dX6_whichNow_87 (by decide) ?_
            refine lv_ixor hx hb dX6_whichNow_88 ?_
            refine lv_goto (tgt := 93) hx hb dX6_whichNow_89 (by decide) ?_
            refine lv_iand hx hb dX6_whichNow_93 ?_
            refine lv_topi (fun v_80 ev_80 => ?_)
            have h := h v_80 ev_80
            refine lv_istore_n (lv' := [(1, .int v_80), (0, .ref h6), (2, .int x2), (3, .int x3), (4, .int x4)]) hx hb dX6_whichNow_94 rfl hl (by decide) rfl (fun ls hl => ?_)
            refine lv_iinc (v := (x4 + (1 : Int32))) (lv' := [(4, .int (x4 + (1 : Int32))), (1, .int v_80), (0, .ref h6), (2, .int x2), (3, .int x3)]) hx hb dX6_whichNow_95 hl (k := 4) rfl rfl (by decide) rfl (fun ls hl => ?_)
            refine lv_goto (tgt := 38) hx hb dX6_whichNow_98 (by decide) ?_
            exact ih h hP hD hS (lv_sub hl [2, 1, 3, 4, 0] rfl) hk25
  have L25 : ∀ {K17 : Int32 → Int32 → (Nat → Int32) → (Nat → Int32) → Prop} (n : Nat) {x1 : Int32} {x2 : Int32} {x3 : Int32} {ms : Nat → Int32} {mh : Nat → Int32} {mg : Nat → Int32} {H : Heap} {locs : List Loc} {ls : Array Slot}, wX6_whichNow_L25 x2 mo ms mn mz mh K17 n x1 x3 → va_P D vwCl [(h6, .inr (6, [.ref a_mt, .int my, .ref a_mo, .ref a_md, .ref a_mb, .ref a_ms, .ref a_mp, .int mk, .ref a_mi, .int mq, .ref a_mn, .int mz, .int ma, .ref a_mh, .ref a_mg, .ref a_mr, .ref a_mx])), (a_mt, .inl (cI, 200, .inl mt)), (a_mo, .inl (cI, 16, .inl mo)), (a_md, .inl (cI, 16, .inl md)), (a_mb, .inl (cI, 56, .inl mb)), (a_ms, .inl (cI, 56, .inl ms)), (a_mp, .inl (cI, 448, .inl mp)), (a_mi, .inl (cI, 112, .inl mi)), (a_mn, .inl (cI, 12, .inl mn)), (a_mh, .inl (cI, 42, .inl mh)), (a_mg, .inl (cI, 56, .inl mg)), (a_mr, .inl (cI, 6, .inl mr)), (a_mx, .inl (cI, 6, .inl mx))] H → va_D A [(h6, .inr (6, [.ref a_mt, .int my, .ref a_mo, .ref a_md, .ref a_mb, .ref a_ms, .ref a_mp, .int mk, .ref a_mi, .int mq, .ref a_mn, .int mz, .int ma, .ref a_mh, .ref a_mg, .ref a_mr, .ref a_mx])), (a_mt, .inl (cI, 200, .inl mt)), (a_mo, .inl (cI, 16, .inl mo)), (a_md, .inl (cI, 16, .inl md)), (a_mb, .inl (cI, 56, .inl mb)), (a_ms, .inl (cI, 56, .inl ms)), (a_mp, .inl (cI, 448, .inl mp)), (a_mi, .inl (cI, 112, .inl mi)), (a_mn, .inl (cI, 12, .inl mn)), (a_mh, .inl (cI, 42, .inl mh)), (a_mg, .inl (cI, 56, .inl mg)), (a_mr, .inl (cI, 6, .inl mr)), (a_mx, .inl (cI, 6, .inl mx))] → va_S A s.heap H locs → lv_has ls 5 [(0, .ref h6), (1, .int x1), (2, .int x2), (3, .int x3)] → (∀ (x1 : Int32) (x2 : Int32) (ms : Nat → Int32) (mh : Nat → Int32) (H : Heap) (locs : List Loc) (ls : Array Slot), K17 x1 x2 ms mh → va_P D vwCl [(h6, .inr (6, [.ref a_mt, .int my, .ref a_mo, .ref a_md, .ref a_mb, .ref a_ms, .ref a_mp, .int mk, .ref a_mi, .int mq, .ref a_mn, .int mz, .int ma, .ref a_mh, .ref a_mg, .ref a_mr, .ref a_mx])), (a_mt, .inl (cI, 200, .inl mt)), (a_mo, .inl (cI, 16, .inl mo)), (a_md, .inl (cI, 16, .inl md)), (a_mb, .inl (cI, 56, .inl mb)), (a_ms, .inl (cI, 56, .inl ms)), (a_mp, .inl (cI, 448, .inl mp)), (a_mi, .inl (cI, 112, .inl mi)), (a_mn, .inl (cI, 12, .inl mn)), (a_mh, .inl (cI, 42, .inl mh)), (a_mg, .inl (cI, 56, .inl mg)), (a_mr, .inl (cI, 6, .inl mr)), (a_mx, .inl (cI, 6, .inl mx))] H → va_D A [(h6, .inr (6, [.ref a_mt, .int my, .ref a_mo, .ref a_md, .ref a_mb, .ref a_ms, .ref a_mp, .int mk, .ref a_mi, .int mq, .ref a_mn, .int mz, .int ma, .ref a_mh, .ref a_mg, .ref a_mr, .ref a_mx])), (a_mt, .inl (cI, 200, .inl mt)), (a_mo, .inl (cI, 16, .inl mo)), (a_md, .inl (cI, 16, .inl md)), (a_mb, .inl (cI, 56, .inl mb)), (a_ms, .inl (cI, 56, .inl ms)), (a_mp, .inl (cI, 448, .inl mp)), (a_mi, .inl (cI, 112, .inl mi)), (a_mn, .inl (cI, 12, .inl mn)), (a_mh, .inl (cI, 42, .inl mh)), (a_mg, .inl (cI, 56, .inl mg)), (a_mr, .inl (cI, 6, .inl mr)), (a_mx, .inl (cI, 6, .inl mx))] → va_S A s.heap H locs → lv_has ls 5 [(0, .ref h6), (1, .int x1), (2, .int x2)] → W p l e rmX6_whichNow s m args below meth c H locs 0 0 Z (F0 m 17 ls [])) → W p l e rmX6_whichNow s m args below meth c H locs 0 0 Z (F0 m 25 ls []) := by
    intro K17
    intro n
    induction n with
    | zero =>
      intro x1 x2 x3 ms mh mg H locs ls h hP hD hS hl hk17
      exact (show False from h).elim
    | succ n ih =>
      intro x1 x2 x3 ms mh mg H locs ls h hP hD hS hl hk17
      refine lv_iload_n hx hb dX6_whichNow_25 rfl (lv_at hl 3 rfl) ?_
      refine lv_aload_n hx hb dX6_whichNow_26 rfl (lv_at hl 0 rfl) ?_
      refine va_get (D := D) (ci := 6) (v := .ref a_mo) (C := RX6) (T := TX6) (N := 17) hx hb hts hin6 hown hK.1 hP 0 rfl rfl 2 (by decide) (k_0) (fun _ h9 => h9) rfl dX6_whichNow_27 ?_
      refine lv_iconst (v := 1) hx hb dX6_whichNow_30 (by decide) ?_
      refine z_iald (k := 1) hx hb hK.1 hP 2 rfl (by decide) vi_1_16 dX6_whichNow_31 ?_
      refine lv_icmp_ge (tgt := 107) hx hb dX6_whichNow_32 (by decide) (fun c_66 => ?_) (fun c_66 => ?_)
      · have h := h.1 c_66
        refine lv_aload_n hx hb dX6_whichNow_107 rfl (lv_at hl 0 rfl) ?_
        refine k0V_v (As := []) (n := 0) ⟨hx, hb, hml, hown, hts⟩ hK hP hD hS hA (c_X6_passes l D cI cC cQ h6 a_mt a_mo a_md a_mb a_ms a_mp a_mi a_mn a_mh a_mg a_mr a_mx mt my mo md mb ms mp mk mi mq mn mz ma mh mg mr mx  _ h) gX6_whichNow_X6_passes rfl rfl ⟨rfl, rfl⟩ yoX6_passes ⟨Nat.le_of_ble_eq_true rfl, Nat.le_of_ble_eq_true rfl⟩ (q0 := 0) (ci := 6) rfl rfl rfl rfl hl.1 rfl (Nat.le_of_ble_eq_true rfl) dX6_whichNow_108 ⟨Nat.zero_le _, Nat.zero_le _⟩ (fun u H locs h hP hD hS => ?_)
        obtain ⟨ms_67, mh_68⟩ := u
        have hP : va_P D vwCl [(h6, .inr (6, [.ref a_mt, .int my, .ref a_mo, .ref a_md, .ref a_mb, .ref a_ms, .ref a_mp, .int mk, .ref a_mi, .int mq, .ref a_mn, .int mz, .int ma, .ref a_mh, .ref a_mg, .ref a_mr, .ref a_mx])), (a_mt, .inl (cI, 200, .inl mt)), (a_mo, .inl (cI, 16, .inl mo)), (a_md, .inl (cI, 16, .inl md)), (a_mb, .inl (cI, 56, .inl mb)), (a_ms, .inl (cI, 56, .inl ms_67)), (a_mp, .inl (cI, 448, .inl mp)), (a_mi, .inl (cI, 112, .inl mi)), (a_mn, .inl (cI, 12, .inl mn)), (a_mh, .inl (cI, 42, .inl mh_68)), (a_mg, .inl (cI, 56, .inl mg)), (a_mr, .inl (cI, 6, .inl mr)), (a_mx, .inl (cI, 6, .inl mx))] H := hP
        have hD : va_D A [(h6, .inr (6, [.ref a_mt, .int my, .ref a_mo, .ref a_md, .ref a_mb, .ref a_ms, .ref a_mp, .int mk, .ref a_mi, .int mq, .ref a_mn, .int mz, .int ma, .ref a_mh, .ref a_mg, .ref a_mr, .ref a_mx])), (a_mt, .inl (cI, 200, .inl mt)), (a_mo, .inl (cI, 16, .inl mo)), (a_md, .inl (cI, 16, .inl md)), (a_mb, .inl (cI, 56, .inl mb)), (a_ms, .inl (cI, 56, .inl ms_67)), (a_mp, .inl (cI, 448, .inl mp)), (a_mi, .inl (cI, 112, .inl mi)), (a_mn, .inl (cI, 12, .inl mn)), (a_mh, .inl (cI, 42, .inl mh_68)), (a_mg, .inl (cI, 56, .inl mg)), (a_mr, .inl (cI, 6, .inl mr)), (a_mx, .inl (cI, 6, .inl mx))] := hD
        refine lv_iinc (v := (x2 + (1 : Int32))) (lv' := [(2, .int (x2 + (1 : Int32))), (0, .ref h6), (1, .int x1), (3, .int x3)]) hx hb dX6_whichNow_111 hl (k := 2) rfl rfl (by decide) rfl (fun ls hl => ?_)
        refine lv_goto (tgt := 17) hx hb dX6_whichNow_114 (by decide) ?_
        exact hk17 x1 (x2 + (1 : Int32)) ms_67 mh_68 _ _ _ h hP hD hS (lv_sub hl [1, 2, 0] rfl)
      · have h := h.2 c_66
        refine lv_iconst (v := 0) hx hb dX6_whichNow_35 (by decide) ?_
        refine lv_istore (lv' := [(4, .int (0 : Int32)), (0, .ref h6), (1, .int x1), (2, .int x2), (3, .int x3)]) hx hb dX6_whichNow_36 hl (by decide) rfl (fun ls hl => ?_)
        obtain ⟨n_83, h⟩ := h
        refine L38 n_83 h hP hD hS (lv_sub hl [1, 2, 3, 4, 0] rfl) (fun x1_81 x3_82 H locs ls h hP hD hS hl => ?_)
        exact ih h hP hD hS (lv_sub hl [0, 1, 2, 3] rfl) hk17
  have L17 : ∀ (n : Nat) {x1 : Int32} {x2 : Int32} {ms : Nat → Int32} {mh : Nat → Int32} {mg : Nat → Int32} {H : Heap} {locs : List Loc} {ls : Array Slot}, wX6_whichNow_L17 mo mn mz mg Q n x1 x2 ms mh → va_P D vwCl [(h6, .inr (6, [.ref a_mt, .int my, .ref a_mo, .ref a_md, .ref a_mb, .ref a_ms, .ref a_mp, .int mk, .ref a_mi, .int mq, .ref a_mn, .int mz, .int ma, .ref a_mh, .ref a_mg, .ref a_mr, .ref a_mx])), (a_mt, .inl (cI, 200, .inl mt)), (a_mo, .inl (cI, 16, .inl mo)), (a_md, .inl (cI, 16, .inl md)), (a_mb, .inl (cI, 56, .inl mb)), (a_ms, .inl (cI, 56, .inl ms)), (a_mp, .inl (cI, 448, .inl mp)), (a_mi, .inl (cI, 112, .inl mi)), (a_mn, .inl (cI, 12, .inl mn)), (a_mh, .inl (cI, 42, .inl mh)), (a_mg, .inl (cI, 56, .inl mg)), (a_mr, .inl (cI, 6, .inl mr)), (a_mx, .inl (cI, 6, .inl mx))] H → va_D A [(h6, .inr (6, [.ref a_mt, .int my, .ref a_mo, .ref a_md, .ref a_mb, .ref a_ms, .ref a_mp, .int mk, .ref a_mi, .int mq, .ref a_mn, .int mz, .int ma, .ref a_mh, .ref a_mg, .ref a_mr, .ref a_mx])), (a_mt, .inl (cI, 200, .inl mt)), (a_mo, .inl (cI, 16, .inl mo)), (a_md, .inl (cI, 16, .inl md)), (a_mb, .inl (cI, 56, .inl mb)), (a_ms, .inl (cI, 56, .inl ms)), (a_mp, .inl (cI, 448, .inl mp)), (a_mi, .inl (cI, 112, .inl mi)), (a_mn, .inl (cI, 12, .inl mn)), (a_mh, .inl (cI, 42, .inl mh)), (a_mg, .inl (cI, 56, .inl mg)), (a_mr, .inl (cI, 6, .inl mr)), (a_mx, .inl (cI, 6, .inl mx))] → va_S A s.heap H locs → lv_has ls 5 [(0, .ref h6), (1, .int x1), (2, .int x2)] → W p l e rmX6_whichNow s m args below meth c H locs 0 0 Z (F0 m 17 ls []) := by
    intro n
    induction n with
    | zero =>
      intro x1 x2 ms mh mg H locs ls h hP hD hS hl
      exact (show False from h).elim
    | succ n ih =>
      intro x1 x2 ms mh mg H locs ls h hP hD hS hl
      refine lv_iload_n hx hb dX6_whichNow_17 rfl (lv_at hl 2 rfl) ?_
      refine lv_bipush (v := 20) hx hb dX6_whichNow_18 (by decide) ?_
      refine lv_icmp_gt (tgt := 117) hx hb dX6_whichNow_20 (by decide) (fun c_46 => ?_) (fun c_46 => ?_)
      · have h := h.1 c_46
        refine lv_aload_n hx hb dX6_whichNow_117 rfl (lv_at hl 0 rfl) ?_
        refine k0V_v (As := []) (n := 0) ⟨hx, hb, hml, hown, hts⟩ hK hP hD hS hA (c_X6_lets l D cI cC cQ h6 a_mt a_mo a_md a_mb a_ms a_mp a_mi a_mn a_mh a_mg a_mr a_mx mt my mo md mb ms mp mk mi mq mn mz ma mh mg mr mx  _ h) gX6_whichNow_X6_lets rfl rfl ⟨rfl, rfl⟩ yoX6_lets ⟨Nat.le_of_ble_eq_true rfl, Nat.le_of_ble_eq_true rfl⟩ (q0 := 0) (ci := 6) rfl rfl rfl rfl hl.1 rfl (Nat.le_of_ble_eq_true rfl) dX6_whichNow_118 ⟨Nat.zero_le _, Nat.zero_le _⟩ (fun ms_47 H locs h hP hD hS => ?_)
        have hP : va_P D vwCl [(h6, .inr (6, [.ref a_mt, .int my, .ref a_mo, .ref a_md, .ref a_mb, .ref a_ms, .ref a_mp, .int mk, .ref a_mi, .int mq, .ref a_mn, .int mz, .int ma, .ref a_mh, .ref a_mg, .ref a_mr, .ref a_mx])), (a_mt, .inl (cI, 200, .inl mt)), (a_mo, .inl (cI, 16, .inl mo)), (a_md, .inl (cI, 16, .inl md)), (a_mb, .inl (cI, 56, .inl mb)), (a_ms, .inl (cI, 56, .inl ms_47)), (a_mp, .inl (cI, 448, .inl mp)), (a_mi, .inl (cI, 112, .inl mi)), (a_mn, .inl (cI, 12, .inl mn)), (a_mh, .inl (cI, 42, .inl mh)), (a_mg, .inl (cI, 56, .inl mg)), (a_mr, .inl (cI, 6, .inl mr)), (a_mx, .inl (cI, 6, .inl mx))] H := hP
        have hD : va_D A [(h6, .inr (6, [.ref a_mt, .int my, .ref a_mo, .ref a_md, .ref a_mb, .ref a_ms, .ref a_mp, .int mk, .ref a_mi, .int mq, .ref a_mn, .int mz, .int ma, .ref a_mh, .ref a_mg, .ref a_mr, .ref a_mx])), (a_mt, .inl (cI, 200, .inl mt)), (a_mo, .inl (cI, 16, .inl mo)), (a_md, .inl (cI, 16, .inl md)), (a_mb, .inl (cI, 56, .inl mb)), (a_ms, .inl (cI, 56, .inl ms_47)), (a_mp, .inl (cI, 448, .inl mp)), (a_mi, .inl (cI, 112, .inl mi)), (a_mn, .inl (cI, 12, .inl mn)), (a_mh, .inl (cI, 42, .inl mh)), (a_mg, .inl (cI, 56, .inl mg)), (a_mr, .inl (cI, 6, .inl mr)), (a_mx, .inl (cI, 6, .inl mx))] := hD
        refine lv_iload_n hx hb dX6_whichNow_121 rfl (lv_at hl 1 rfl) ?_
        exact hret x1 (ms_47, mh, mg) _ _ _ ls h hP hD hS dX6_whichNow_122
      · have h := h.2 c_46
        refine lv_iconst (v := 0) hx hb dX6_whichNow_23 (by decide) ?_
        refine lv_istore_n (lv' := [(3, .int (0 : Int32)), (0, .ref h6), (1, .int x1), (2, .int x2)]) hx hb dX6_whichNow_24 rfl hl (by decide) rfl (fun ls hl => ?_)
        obtain ⟨n_88, h⟩ := h
        refine L25 n_88 h hP hD hS (lv_sub hl [1, 2, 3, 0] rfl) (fun x1_84 x2_85 ms_86 mh_87 H locs ls h hP hD hS hl => ?_)
        exact ih h hP hD hS (lv_sub hl [0, 1, 2] rfl)
  refine lv_aload_n hx hb dX6_whichNow_0 rfl (lv_at hl 0 rfl) ?_
  refine k0V_v (As := []) (n := 0) ⟨hx, hb, hml, hown, hts⟩ hK hP hD hS hA (c_X6_holds l D cI cC cQ h6 a_mt a_mo a_md a_mb a_ms a_mp a_mi a_mn a_mh a_mg a_mr a_mx mt my mo md mb ms mp mk mi mq mn mz ma mh mg mr mx  _ h) gX6_whichNow_X6_holds rfl rfl ⟨rfl, rfl⟩ yoX6_holds ⟨Nat.le_of_ble_eq_true rfl, Nat.le_of_ble_eq_true rfl⟩ (q0 := 0) (ci := 6) rfl rfl rfl rfl hl.1 rfl (Nat.le_of_ble_eq_true rfl) dX6_whichNow_1 ⟨Nat.zero_le _, Nat.zero_le _⟩ (fun mg_1 H locs h hP hD hS => ?_)
  have hP : va_P D vwCl [(h6, .inr (6, [.ref a_mt, .int my, .ref a_mo, .ref a_md, .ref a_mb, .ref a_ms, .ref a_mp, .int mk, .ref a_mi, .int mq, .ref a_mn, .int mz, .int ma, .ref a_mh, .ref a_mg, .ref a_mr, .ref a_mx])), (a_mt, .inl (cI, 200, .inl mt)), (a_mo, .inl (cI, 16, .inl mo)), (a_md, .inl (cI, 16, .inl md)), (a_mb, .inl (cI, 56, .inl mb)), (a_ms, .inl (cI, 56, .inl ms)), (a_mp, .inl (cI, 448, .inl mp)), (a_mi, .inl (cI, 112, .inl mi)), (a_mn, .inl (cI, 12, .inl mn)), (a_mh, .inl (cI, 42, .inl mh)), (a_mg, .inl (cI, 56, .inl mg_1)), (a_mr, .inl (cI, 6, .inl mr)), (a_mx, .inl (cI, 6, .inl mx))] H := hP
  have hD : va_D A [(h6, .inr (6, [.ref a_mt, .int my, .ref a_mo, .ref a_md, .ref a_mb, .ref a_ms, .ref a_mp, .int mk, .ref a_mi, .int mq, .ref a_mn, .int mz, .int ma, .ref a_mh, .ref a_mg, .ref a_mr, .ref a_mx])), (a_mt, .inl (cI, 200, .inl mt)), (a_mo, .inl (cI, 16, .inl mo)), (a_md, .inl (cI, 16, .inl md)), (a_mb, .inl (cI, 56, .inl mb)), (a_ms, .inl (cI, 56, .inl ms)), (a_mp, .inl (cI, 448, .inl mp)), (a_mi, .inl (cI, 112, .inl mi)), (a_mn, .inl (cI, 12, .inl mn)), (a_mh, .inl (cI, 42, .inl mh)), (a_mg, .inl (cI, 56, .inl mg_1)), (a_mr, .inl (cI, 6, .inl mr)), (a_mx, .inl (cI, 6, .inl mx))] := hD
  refine lv_iconst (v := 1) hx hb dX6_whichNow_4 (by decide) ?_
  refine lv_aload_n hx hb dX6_whichNow_5 rfl (lv_at hl 0 rfl) ?_
  refine va_get (D := D) (ci := 6) (v := .ref a_mo) (C := RX6) (T := TX6) (N := 17) hx hb hts hin6 hown hK.1 hP 0 rfl rfl 2 (by decide) (k_0) (fun _ h9 => h9) rfl dX6_whichNow_6 ?_
  refine lv_iconst (v := 1) hx hb dX6_whichNow_9 (by decide) ?_
  refine z_iald (k := 1) hx hb hK.1 hP 2 rfl (by decide) vi_1_16 dX6_whichNow_10 ?_
  refine lv_ishl hx hb dX6_whichNow_11 ?_
  refine lv_iconst (v := 1) hx hb dX6_whichNow_12 (by decide) ?_
  refine lv_isub hx hb dX6_whichNow_13 ?_
  refine lv_topi (fun v_2 ev_2 => ?_)
  have h := h v_2 ev_2
  refine lv_istore_n (lv' := [(1, .int v_2), (0, .ref h6)]) hx hb dX6_whichNow_14 rfl hl (by decide) rfl (fun ls hl => ?_)
  refine lv_iconst (v := 0) hx hb dX6_whichNow_15 (by decide) ?_
  refine lv_istore_n (lv' := [(2, .int (0 : Int32)), (1, .int v_2), (0, .ref h6)]) hx hb dX6_whichNow_16 rfl hl (by decide) rfl (fun ls hl => ?_)
  obtain ⟨n_89, h⟩ := h
  exact L17 n_89 h hP hD hS (lv_sub hl [2, 1, 0] rfl)

/-! DoubtCourtModel.which -/
abbrev rmX6_which : Room := { frames := 4, cells := 0, slots := 0, locals := 97 }
theorem yoX6_which : yX6_which.cls ≠ "java/lang/invoke/MethodHandle" ∧ yX6_which.cls ≠ "java/lang/invoke/VarHandle" ∧ (parseMethodDescriptor yX6_which.desc).map (fun d => d.parameters.length) = some 0 := by decide +kernel
set_option maxHeartbeats 4000000 in
set_option maxRecDepth 100000 in
theorem c_X6_which (l : Launch) (D : va_G) (cI cC cQ : ClassId) (h6 : Nat) (a_mt : Nat) (a_mo : Nat) (a_md : Nat) (a_mb : Nat) (a_ms : Nat) (a_mp : Nat) (a_mi : Nat) (a_mn : Nat) (a_mh : Nat) (a_mg : Nat) (a_mr : Nat) (a_mx : Nat) (mt : Nat → Int32) (my : Int32) (mo : Nat → Int32) (md : Nat → Int32) (mb : Nat → Int32) (ms : Nat → Int32) (mp : Nat → Int32) (mk : Int32) (mi : Nat → Int32) (mq : Int32) (mn : Nat → Int32) (mz : Int32) (ma : Int32) (mh : Nat → Int32) (mg : Nat → Int32) (mr : Nat → Int32) (mx : Nat → Int32) (Q : Int32 → (Nat → Int32) → (Nat → Int32) → (Nat → Int32) → Prop) (h : wX6_which mo ms mn mz mh mg Q) : Ci (S := (Nat → Int32) × (Nat → Int32) × (Nat → Int32)) l D cI cC cQ yX6_which wsX6_which rmX6_which [.ref h6] [(h6, .inr (6, [.ref a_mt, .int my, .ref a_mo, .ref a_md, .ref a_mb, .ref a_ms, .ref a_mp, .int mk, .ref a_mi, .int mq, .ref a_mn, .int mz, .int ma, .ref a_mh, .ref a_mg, .ref a_mr, .ref a_mx])), (a_mt, .inl (cI, 200, .inl mt)), (a_mo, .inl (cI, 16, .inl mo)), (a_md, .inl (cI, 16, .inl md)), (a_mb, .inl (cI, 56, .inl mb)), (a_ms, .inl (cI, 56, .inl ms)), (a_mp, .inl (cI, 448, .inl mp)), (a_mi, .inl (cI, 112, .inl mi)), (a_mn, .inl (cI, 12, .inl mn)), (a_mh, .inl (cI, 42, .inl mh)), (a_mg, .inl (cI, 56, .inl mg)), (a_mr, .inl (cI, 6, .inl mr)), (a_mx, .inl (cI, 6, .inl mx))] (fun u => [(h6, .inr (6, [.ref a_mt, .int my, .ref a_mo, .ref a_md, .ref a_mb, .ref a_ms, .ref a_mp, .int mk, .ref a_mi, .int mq, .ref a_mn, .int mz, .int ma, .ref a_mh, .ref a_mg, .ref a_mr, .ref a_mx])), (a_mt, .inl (cI, 200, .inl mt)), (a_mo, .inl (cI, 16, .inl mo)), (a_md, .inl (cI, 16, .inl md)), (a_mb, .inl (cI, 56, .inl mb)), (a_ms, .inl (cI, 56, .inl u.1)), (a_mp, .inl (cI, 448, .inl mp)), (a_mi, .inl (cI, 112, .inl mi)), (a_mn, .inl (cI, 12, .inl mn)), (a_mh, .inl (cI, 42, .inl u.2.1)), (a_mg, .inl (cI, 56, .inl u.2.2)), (a_mr, .inl (cI, 6, .inl mr)), (a_mx, .inl (cI, 6, .inl mx))]) (fun r u => Q r u.1 u.2.1 u.2.2) := by
  refine Ci_mk (cc := cX6_which) (maxL := 1) (by decide) rfl (Nat.le_of_ble_eq_true rfl) ?_
  intro p e s m args below meth c A Z ls hx hb hml hown hts hK hA hP hD hret hl
  have hS : va_S A s.heap s.heap [] := va_S.rf
  have hl : lv_has ls 1 [(0, .ref h6)] := hl
  refine lv_aload_n hx hb dX6_which_0 rfl (lv_at hl 0 rfl) ?_
  refine k0V_i (As := []) (n := 0) ⟨hx, hb, hml, hown, hts⟩ hK hP hD hS hA (c_X6_whichNow l D cI cC cQ h6 a_mt a_mo a_md a_mb a_ms a_mp a_mi a_mn a_mh a_mg a_mr a_mx mt my mo md mb ms mp mk mi mq mn mz ma mh mg mr mx  _ h) gX6_which_X6_whichNow rfl rfl ⟨rfl, rfl⟩ yoX6_whichNow ⟨Nat.le_of_ble_eq_true rfl, Nat.le_of_ble_eq_true rfl⟩ (q0 := 0) (ci := 6) rfl rfl rfl rfl hl.1 rfl (Nat.le_of_ble_eq_true rfl) dX6_which_1 ⟨Nat.zero_le _, Nat.zero_le _⟩ (fun r_1 u H locs h hP hD hS => ?_)
  obtain ⟨ms_2, mh_3, mg_4⟩ := u
  have hP : va_P D vwCl [(h6, .inr (6, [.ref a_mt, .int my, .ref a_mo, .ref a_md, .ref a_mb, .ref a_ms, .ref a_mp, .int mk, .ref a_mi, .int mq, .ref a_mn, .int mz, .int ma, .ref a_mh, .ref a_mg, .ref a_mr, .ref a_mx])), (a_mt, .inl (cI, 200, .inl mt)), (a_mo, .inl (cI, 16, .inl mo)), (a_md, .inl (cI, 16, .inl md)), (a_mb, .inl (cI, 56, .inl mb)), (a_ms, .inl (cI, 56, .inl ms_2)), (a_mp, .inl (cI, 448, .inl mp)), (a_mi, .inl (cI, 112, .inl mi)), (a_mn, .inl (cI, 12, .inl mn)), (a_mh, .inl (cI, 42, .inl mh_3)), (a_mg, .inl (cI, 56, .inl mg_4)), (a_mr, .inl (cI, 6, .inl mr)), (a_mx, .inl (cI, 6, .inl mx))] H := hP
  have hD : va_D A [(h6, .inr (6, [.ref a_mt, .int my, .ref a_mo, .ref a_md, .ref a_mb, .ref a_ms, .ref a_mp, .int mk, .ref a_mi, .int mq, .ref a_mn, .int mz, .int ma, .ref a_mh, .ref a_mg, .ref a_mr, .ref a_mx])), (a_mt, .inl (cI, 200, .inl mt)), (a_mo, .inl (cI, 16, .inl mo)), (a_md, .inl (cI, 16, .inl md)), (a_mb, .inl (cI, 56, .inl mb)), (a_ms, .inl (cI, 56, .inl ms_2)), (a_mp, .inl (cI, 448, .inl mp)), (a_mi, .inl (cI, 112, .inl mi)), (a_mn, .inl (cI, 12, .inl mn)), (a_mh, .inl (cI, 42, .inl mh_3)), (a_mg, .inl (cI, 56, .inl mg_4)), (a_mr, .inl (cI, 6, .inl mr)), (a_mx, .inl (cI, 6, .inl mx))] := hD
  exact hret r_1 (ms_2, mh_3, mg_4) _ _ _ ls h hP hD hS dX6_which_4

/-! DoubtCourtModel.kinds -/
abbrev rmX6_kinds : Room := { frames := 4, cells := 0, slots := 0, locals := 97 }
theorem yoX6_kinds : yX6_kinds.cls ≠ "java/lang/invoke/MethodHandle" ∧ yX6_kinds.cls ≠ "java/lang/invoke/VarHandle" ∧ (parseMethodDescriptor yX6_kinds.desc).map (fun d => d.parameters.length) = some 2 := by decide +kernel
set_option maxHeartbeats 4000000 in
set_option maxRecDepth 100000 in
theorem c_X6_kinds (l : Launch) (D : va_G) (cI cC cQ : ClassId) (h6 : Nat) (a_mt : Nat) (a_mo : Nat) (a_md : Nat) (a_mb : Nat) (a_ms : Nat) (a_mp : Nat) (a_mi : Nat) (a_mn : Nat) (a_mh : Nat) (a_mg : Nat) (a_mr : Nat) (a_mx : Nat) (mt : Nat → Int32) (my : Int32) (mo : Nat → Int32) (md : Nat → Int32) (mb : Nat → Int32) (ms : Nat → Int32) (mp : Nat → Int32) (mk : Int32) (mi : Nat → Int32) (mq : Int32) (mn : Nat → Int32) (mz : Int32) (ma : Int32) (mh : Nat → Int32) (mg : Nat → Int32) (mr : Nat → Int32) (mx : Nat → Int32) (x1 : Int32) (x2 : Int32) (Q : Int32 → (Nat → Int32) → (Nat → Int32) → (Nat → Int32) → (Nat → Int32) → Prop) (h : wX6_kinds x1 x2 mo ms mn mz mh mg Q) : Ci (S := (Nat → Int32) × (Nat → Int32) × (Nat → Int32) × (Nat → Int32)) l D cI cC cQ yX6_kinds wsX6_kinds rmX6_kinds [.ref h6, .int x1, .int x2] [(h6, .inr (6, [.ref a_mt, .int my, .ref a_mo, .ref a_md, .ref a_mb, .ref a_ms, .ref a_mp, .int mk, .ref a_mi, .int mq, .ref a_mn, .int mz, .int ma, .ref a_mh, .ref a_mg, .ref a_mr, .ref a_mx])), (a_mt, .inl (cI, 200, .inl mt)), (a_mo, .inl (cI, 16, .inl mo)), (a_md, .inl (cI, 16, .inl md)), (a_mb, .inl (cI, 56, .inl mb)), (a_ms, .inl (cI, 56, .inl ms)), (a_mp, .inl (cI, 448, .inl mp)), (a_mi, .inl (cI, 112, .inl mi)), (a_mn, .inl (cI, 12, .inl mn)), (a_mh, .inl (cI, 42, .inl mh)), (a_mg, .inl (cI, 56, .inl mg)), (a_mr, .inl (cI, 6, .inl mr)), (a_mx, .inl (cI, 6, .inl mx))] (fun u => [(h6, .inr (6, [.ref a_mt, .int my, .ref a_mo, .ref a_md, .ref a_mb, .ref a_ms, .ref a_mp, .int mk, .ref a_mi, .int mq, .ref a_mn, .int mz, .int ma, .ref a_mh, .ref a_mg, .ref a_mr, .ref a_mx])), (a_mt, .inl (cI, 200, .inl mt)), (a_mo, .inl (cI, 16, .inl u.1)), (a_md, .inl (cI, 16, .inl md)), (a_mb, .inl (cI, 56, .inl mb)), (a_ms, .inl (cI, 56, .inl u.2.1)), (a_mp, .inl (cI, 448, .inl mp)), (a_mi, .inl (cI, 112, .inl mi)), (a_mn, .inl (cI, 12, .inl mn)), (a_mh, .inl (cI, 42, .inl u.2.2.1)), (a_mg, .inl (cI, 56, .inl u.2.2.2)), (a_mr, .inl (cI, 6, .inl mr)), (a_mx, .inl (cI, 6, .inl mx))]) (fun r u => Q r u.1 u.2.1 u.2.2.1 u.2.2.2) := by
  refine Ci_mk (cc := cX6_kinds) (maxL := 6) (by decide) rfl (Nat.le_of_ble_eq_true rfl) ?_
  intro p e s m args below meth c A Z ls hx hb hml hown hts hK hA hP hD hret hl
  have hS : va_S A s.heap s.heap [] := va_S.rf
  have hin6 : ∀ w ∈ u_ws RX6 TX6 17, w ∈ wsX6_kinds := by decide +kernel
  have k_0 := hts (.fieldLink RX6 13 "DoubtCourtModel" "told" "[I") (by decide +kernel)
  have hl : lv_has ls 6 [(0, .ref h6), (1, .int x1), (2, .int x2)] := hl
  have L33 : ∀ (n : Nat) {x1 : Int32} {x2 : Int32} {x3 : Int32} {x4 : Int32} {x5 : Int32} {mo : Nat → Int32} {ms : Nat → Int32} {mh : Nat → Int32} {mg : Nat → Int32} {H : Heap} {locs : List Loc} {ls : Array Slot}, wX6_kinds_L33 x1 x2 x3 mn mz Q n x4 x5 mo ms mh mg → va_P D vwCl [(h6, .inr (6, [.ref a_mt, .int my, .ref a_mo, .ref a_md, .ref a_mb, .ref a_ms, .ref a_mp, .int mk, .ref a_mi, .int mq, .ref a_mn, .int mz, .int ma, .ref a_mh, .ref a_mg, .ref a_mr, .ref a_mx])), (a_mt, .inl (cI, 200, .inl mt)), (a_mo, .inl (cI, 16, .inl mo)), (a_md, .inl (cI, 16, .inl md)), (a_mb, .inl (cI, 56, .inl mb)), (a_ms, .inl (cI, 56, .inl ms)), (a_mp, .inl (cI, 448, .inl mp)), (a_mi, .inl (cI, 112, .inl mi)), (a_mn, .inl (cI, 12, .inl mn)), (a_mh, .inl (cI, 42, .inl mh)), (a_mg, .inl (cI, 56, .inl mg)), (a_mr, .inl (cI, 6, .inl mr)), (a_mx, .inl (cI, 6, .inl mx))] H → va_D A [(h6, .inr (6, [.ref a_mt, .int my, .ref a_mo, .ref a_md, .ref a_mb, .ref a_ms, .ref a_mp, .int mk, .ref a_mi, .int mq, .ref a_mn, .int mz, .int ma, .ref a_mh, .ref a_mg, .ref a_mr, .ref a_mx])), (a_mt, .inl (cI, 200, .inl mt)), (a_mo, .inl (cI, 16, .inl mo)), (a_md, .inl (cI, 16, .inl md)), (a_mb, .inl (cI, 56, .inl mb)), (a_ms, .inl (cI, 56, .inl ms)), (a_mp, .inl (cI, 448, .inl mp)), (a_mi, .inl (cI, 112, .inl mi)), (a_mn, .inl (cI, 12, .inl mn)), (a_mh, .inl (cI, 42, .inl mh)), (a_mg, .inl (cI, 56, .inl mg)), (a_mr, .inl (cI, 6, .inl mr)), (a_mx, .inl (cI, 6, .inl mx))] → va_S A s.heap H locs → lv_has ls 6 [(0, .ref h6), (1, .int x1), (2, .int x2), (3, .int x3), (4, .int x4), (5, .int x5)] → W p l e rmX6_kinds s m args below meth c H locs 0 0 Z (F0 m 33 ls []) := by
    intro n
    induction n with
    | zero =>
      intro x1 x2 x3 x4 x5 mo ms mh mg H locs ls h hP hD hS hl
      exact (show False from h).elim
    | succ n ih =>
      intro x1 x2 x3 x4 x5 mo ms mh mg H locs ls h hP hD hS hl
      refine lv_iload hx hb dX6_kinds_33 (lv_at hl 5 rfl) ?_
      refine lv_iconst (v := 3) hx hb dX6_kinds_35 (by decide) ?_
      refine lv_icmp_gt (tgt := 71) hx hb dX6_kinds_36 (by decide) (fun c_14 => ?_) (fun c_14 => ?_)
      · have h := h.1 c_14
        refine lv_aload_n hx hb dX6_kinds_71 rfl (lv_at hl 0 rfl) ?_
        refine va_get (D := D) (ci := 6) (v := .ref a_mo) (C := RX6) (T := TX6) (N := 17) hx hb hts hin6 hown hK.1 hP 0 rfl rfl 2 (by decide) (k_0) (fun _ h9 => h9) rfl dX6_kinds_72 ?_
        refine lv_iconst (v := 2) hx hb dX6_kinds_75 (by decide) ?_
        refine lv_iload_n hx hb dX6_kinds_76 rfl (lv_at hl 1 rfl) ?_
        refine lv_iadd hx hb dX6_kinds_77 ?_
        refine lv_iload_n hx hb dX6_kinds_78 rfl (lv_at hl 3 rfl) ?_
        refine z_iast (k := ((2 : Int32) + x1).toNatClampNeg) hx hb hK.1 hP hD hS 2 rfl rfl h.1 dX6_kinds_79 (fun H locs hP hD hS => ?_)
        have h := h.2
        have hP : va_P D vwCl [(h6, .inr (6, [.ref a_mt, .int my, .ref a_mo, .ref a_md, .ref a_mb, .ref a_ms, .ref a_mp, .int mk, .ref a_mi, .int mq, .ref a_mn, .int mz, .int ma, .ref a_mh, .ref a_mg, .ref a_mr, .ref a_mx])), (a_mt, .inl (cI, 200, .inl mt)), (a_mo, .inl (cI, 16, .inl (upd mo (((2 : Int32) + x1).toNatClampNeg) x3))), (a_md, .inl (cI, 16, .inl md)), (a_mb, .inl (cI, 56, .inl mb)), (a_ms, .inl (cI, 56, .inl ms)), (a_mp, .inl (cI, 448, .inl mp)), (a_mi, .inl (cI, 112, .inl mi)), (a_mn, .inl (cI, 12, .inl mn)), (a_mh, .inl (cI, 42, .inl mh)), (a_mg, .inl (cI, 56, .inl mg)), (a_mr, .inl (cI, 6, .inl mr)), (a_mx, .inl (cI, 6, .inl mx))] H := hP
        have hD : va_D A [(h6, .inr (6, [.ref a_mt, .int my, .ref a_mo, .ref a_md, .ref a_mb, .ref a_ms, .ref a_mp, .int mk, .ref a_mi, .int mq, .ref a_mn, .int mz, .int ma, .ref a_mh, .ref a_mg, .ref a_mr, .ref a_mx])), (a_mt, .inl (cI, 200, .inl mt)), (a_mo, .inl (cI, 16, .inl (upd mo (((2 : Int32) + x1).toNatClampNeg) x3))), (a_md, .inl (cI, 16, .inl md)), (a_mb, .inl (cI, 56, .inl mb)), (a_ms, .inl (cI, 56, .inl ms)), (a_mp, .inl (cI, 448, .inl mp)), (a_mi, .inl (cI, 112, .inl mi)), (a_mn, .inl (cI, 12, .inl mn)), (a_mh, .inl (cI, 42, .inl mh)), (a_mg, .inl (cI, 56, .inl mg)), (a_mr, .inl (cI, 6, .inl mr)), (a_mx, .inl (cI, 6, .inl mx))] := hD
        refine lv_iload hx hb dX6_kinds_80 (lv_at hl 4 rfl) ?_
        exact hret x4 ((upd mo (((2 : Int32) + x1).toNatClampNeg) x3), ms, mh, mg) _ _ _ ls h hP hD hS dX6_kinds_82
      · have h := h.2 c_14
        refine lv_aload_n hx hb dX6_kinds_39 rfl (lv_at hl 0 rfl) ?_
        refine va_get (D := D) (ci := 6) (v := .ref a_mo) (C := RX6) (T := TX6) (N := 17) hx hb hts hin6 hown hK.1 hP 0 rfl rfl 2 (by decide) (k_0) (fun _ h9 => h9) rfl dX6_kinds_40 ?_
        refine lv_iconst (v := 2) hx hb dX6_kinds_43 (by decide) ?_
        refine lv_iload_n hx hb dX6_kinds_44 rfl (lv_at hl 1 rfl) ?_
        refine lv_iadd hx hb dX6_kinds_45 ?_
        refine lv_iload hx hb dX6_kinds_46 (lv_at hl 5 rfl) ?_
        refine z_iast (k := ((2 : Int32) + x1).toNatClampNeg) hx hb hK.1 hP hD hS 2 rfl rfl h.1 dX6_kinds_48 (fun H locs hP hD hS => ?_)
        have h := h.2
        have hP : va_P D vwCl [(h6, .inr (6, [.ref a_mt, .int my, .ref a_mo, .ref a_md, .ref a_mb, .ref a_ms, .ref a_mp, .int mk, .ref a_mi, .int mq, .ref a_mn, .int mz, .int ma, .ref a_mh, .ref a_mg, .ref a_mr, .ref a_mx])), (a_mt, .inl (cI, 200, .inl mt)), (a_mo, .inl (cI, 16, .inl (upd mo (((2 : Int32) + x1).toNatClampNeg) x5))), (a_md, .inl (cI, 16, .inl md)), (a_mb, .inl (cI, 56, .inl mb)), (a_ms, .inl (cI, 56, .inl ms)), (a_mp, .inl (cI, 448, .inl mp)), (a_mi, .inl (cI, 112, .inl mi)), (a_mn, .inl (cI, 12, .inl mn)), (a_mh, .inl (cI, 42, .inl mh)), (a_mg, .inl (cI, 56, .inl mg)), (a_mr, .inl (cI, 6, .inl mr)), (a_mx, .inl (cI, 6, .inl mx))] H := hP
        have hD : va_D A [(h6, .inr (6, [.ref a_mt, .int my, .ref a_mo, .ref a_md, .ref a_mb, .ref a_ms, .ref a_mp, .int mk, .ref a_mi, .int mq, .ref a_mn, .int mz, .int ma, .ref a_mh, .ref a_mg, .ref a_mr, .ref a_mx])), (a_mt, .inl (cI, 200, .inl mt)), (a_mo, .inl (cI, 16, .inl (upd mo (((2 : Int32) + x1).toNatClampNeg) x5))), (a_md, .inl (cI, 16, .inl md)), (a_mb, .inl (cI, 56, .inl mb)), (a_ms, .inl (cI, 56, .inl ms)), (a_mp, .inl (cI, 448, .inl mp)), (a_mi, .inl (cI, 112, .inl mi)), (a_mn, .inl (cI, 12, .inl mn)), (a_mh, .inl (cI, 42, .inl mh)), (a_mg, .inl (cI, 56, .inl mg)), (a_mr, .inl (cI, 6, .inl mr)), (a_mx, .inl (cI, 6, .inl mx))] := hD
        refine lv_iload hx hb dX6_kinds_49 (lv_at hl 4 rfl) ?_
        refine lv_aload_n hx hb dX6_kinds_51 rfl (lv_at hl 0 rfl) ?_
        refine k0V_i (As := []) (n := 0) ⟨hx, hb, hml, hown, hts⟩ hK hP hD hS hA (c_X6_whichNow l D cI cC cQ h6 a_mt a_mo a_md a_mb a_ms a_mp a_mi a_mn a_mh a_mg a_mr a_mx mt my (upd mo (((2 : Int32) + x1).toNatClampNeg) x5) md mb ms mp mk mi mq mn mz ma mh mg mr mx  _ h) gX6_kinds_X6_whichNow rfl rfl ⟨rfl, rfl⟩ yoX6_whichNow ⟨Nat.le_of_ble_eq_true rfl, Nat.le_of_ble_eq_true rfl⟩ (q0 := 0) (ci := 6) rfl rfl rfl rfl hl.1 rfl (Nat.le_of_ble_eq_true rfl) dX6_kinds_52 ⟨Nat.zero_le _, Nat.zero_le _⟩ (fun r_15 u H locs h hP hD hS => ?_)
        obtain ⟨ms_16, mh_17, mg_18⟩ := u
        have hP : va_P D vwCl [(h6, .inr (6, [.ref a_mt, .int my, .ref a_mo, .ref a_md, .ref a_mb, .ref a_ms, .ref a_mp, .int mk, .ref a_mi, .int mq, .ref a_mn, .int mz, .int ma, .ref a_mh, .ref a_mg, .ref a_mr, .ref a_mx])), (a_mt, .inl (cI, 200, .inl mt)), (a_mo, .inl (cI, 16, .inl (upd mo (((2 : Int32) + x1).toNatClampNeg) x5))), (a_md, .inl (cI, 16, .inl md)), (a_mb, .inl (cI, 56, .inl mb)), (a_ms, .inl (cI, 56, .inl ms_16)), (a_mp, .inl (cI, 448, .inl mp)), (a_mi, .inl (cI, 112, .inl mi)), (a_mn, .inl (cI, 12, .inl mn)), (a_mh, .inl (cI, 42, .inl mh_17)), (a_mg, .inl (cI, 56, .inl mg_18)), (a_mr, .inl (cI, 6, .inl mr)), (a_mx, .inl (cI, 6, .inl mx))] H := hP
        have hD : va_D A [(h6, .inr (6, [.ref a_mt, .int my, .ref a_mo, .ref a_md, .ref a_mb, .ref a_ms, .ref a_mp, .int mk, .ref a_mi, .int mq, .ref a_mn, .int mz, .int ma, .ref a_mh, .ref a_mg, .ref a_mr, .ref a_mx])), (a_mt, .inl (cI, 200, .inl mt)), (a_mo, .inl (cI, 16, .inl (upd mo (((2 : Int32) + x1).toNatClampNeg) x5))), (a_md, .inl (cI, 16, .inl md)), (a_mb, .inl (cI, 56, .inl mb)), (a_ms, .inl (cI, 56, .inl ms_16)), (a_mp, .inl (cI, 448, .inl mp)), (a_mi, .inl (cI, 112, .inl mi)), (a_mn, .inl (cI, 12, .inl mn)), (a_mh, .inl (cI, 42, .inl mh_17)), (a_mg, .inl (cI, 56, .inl mg_18)), (a_mr, .inl (cI, 6, .inl mr)), (a_mx, .inl (cI, 6, .inl mx))] := hD
        refine lv_iload_n hx hb dX6_kinds_55 rfl (lv_at hl 2 rfl) ?_
        refine lv_ishr hx hb dX6_kinds_56 ?_
        refine lv_iconst (v := 1) hx hb dX6_kinds_57 (by decide) ?_
        refine lv_iand hx hb dX6_kinds_58 ?_
        refine lv_iload hx hb dX6_kinds_59 (lv_at hl 5 rfl) ?_
        refine lv_ishl hx hb dX6_kinds_61 ?_
        refine lv_ior hx hb dX6_kinds_62 ?_
        refine lv_topi (fun v_19 ev_19 => ?_)
        have h := h v_19 ev_19
        refine lv_istore (lv' := [(4, .int v_19), (0, .ref h6), (1, .int x1), (2, .int x2), (3, .int x3), (5, .int x5)]) hx hb dX6_kinds_63 hl (by decide) rfl (fun ls hl => ?_)
        refine lv_iinc (v := (x5 + (1 : Int32))) (lv' := [(5, .int (x5 + (1 : Int32))), (4, .int v_19), (0, .ref h6), (1, .int x1), (2, .int x2), (3, .int x3)]) hx hb dX6_kinds_65 hl (k := 5) rfl rfl (by decide) rfl (fun ls hl => ?_)
        refine lv_goto (tgt := 33) hx hb dX6_kinds_68 (by decide) ?_
        exact ih h hP hD hS (lv_sub hl [2, 3, 4, 5, 1, 0] rfl)
  refine lv_aload_n hx hb dX6_kinds_0 rfl (lv_at hl 0 rfl) ?_
  refine lv_iload_n hx hb dX6_kinds_1 rfl (lv_at hl 1 rfl) ?_
  refine k0V_i (As := [.int x1]) (n := 1) ⟨hx, hb, hml, hown, hts⟩ hK hP hD hS hA (c_X6_isCourtier l D cI cC cQ h6 a_mt a_mo a_md a_mb a_ms a_mp a_mi a_mn a_mh a_mg a_mr a_mx mt my mo md mb ms mp mk mi mq mn mz ma mh mg mr mx x1 _ h) gX6_kinds_X6_isCourtier rfl rfl ⟨rfl, rfl⟩ yoX6_isCourtier ⟨Nat.le_of_ble_eq_true rfl, Nat.le_of_ble_eq_true rfl⟩ (q0 := 0) (ci := 6) rfl rfl rfl rfl hl.1 rfl (Nat.le_of_ble_eq_true rfl) dX6_kinds_2 ⟨Nat.zero_le _, Nat.zero_le _⟩ (fun r_1 u H locs h hP hD hS => ?_)
  obtain ⟨b_2, h⟩ := h
  refine lv_if_eq (tgt := 16) hx hb dX6_kinds_5 (by decide) (fun c_3 => ?_) (fun c_3 => ?_)
  · have h := h.1 c_3
    refine lv_iconst (v := -1) hx hb dX6_kinds_16 (by decide) ?_
    exact hret (-1 : Int32) (mo, ms, mh, mg) _ _ _ ls h hP hD hS dX6_kinds_17
  · have h := h.2 c_3
    refine lv_aload_n hx hb dX6_kinds_8 rfl (lv_at hl 0 rfl) ?_
    refine lv_iload_n hx hb dX6_kinds_9 rfl (lv_at hl 2 rfl) ?_
    refine k0V_i (As := [.int x2]) (n := 1) ⟨hx, hb, hml, hown, hts⟩ hK hP hD hS hA (c_X6_isNews l D cI cC cQ h6 a_mt a_mo a_md a_mb a_ms a_mp a_mi a_mn a_mh a_mg a_mr a_mx mt my mo md mb ms mp mk mi mq mn mz ma mh mg mr mx x2 _ h) gX6_kinds_X6_isNews rfl rfl ⟨rfl, rfl⟩ yoX6_isNews ⟨Nat.le_of_ble_eq_true rfl, Nat.le_of_ble_eq_true rfl⟩ (q0 := 0) (ci := 6) rfl rfl rfl rfl hl.1 rfl (Nat.le_of_ble_eq_true rfl) dX6_kinds_10 ⟨Nat.zero_le _, Nat.zero_le _⟩ (fun r_4 u H locs h hP hD hS => ?_)
    obtain ⟨b_5, h⟩ := h
    refine lv_if_ne (tgt := 18) hx hb dX6_kinds_13 (by decide) (fun c_6 => ?_) (fun c_6 => ?_)
    · have h := h.2 c_6
      refine lv_aload_n hx hb dX6_kinds_18 rfl (lv_at hl 0 rfl) ?_
      refine va_get (D := D) (ci := 6) (v := .ref a_mo) (C := RX6) (T := TX6) (N := 17) hx hb hts hin6 hown hK.1 hP 0 rfl rfl 2 (by decide) (k_0) (fun _ h9 => h9) rfl dX6_kinds_19 ?_
      refine lv_iconst (v := 2) hx hb dX6_kinds_22 (by decide) ?_
      refine lv_iload_n hx hb dX6_kinds_23 rfl (lv_at hl 1 rfl) ?_
      refine lv_iadd hx hb dX6_kinds_24 ?_
      refine z_iald (k := ((2 : Int32) + x1).toNatClampNeg) hx hb hK.1 hP 2 rfl rfl h.1 dX6_kinds_25 ?_
      have h := h.2
      refine lv_topi (fun v_7 ev_7 => ?_)
      have h := h v_7 ev_7
      refine lv_istore_n (lv' := [(3, .int v_7), (0, .ref h6), (1, .int x1), (2, .int x2)]) hx hb dX6_kinds_26 rfl hl (by decide) rfl (fun ls hl => ?_)
      refine lv_iconst (v := 0) hx hb dX6_kinds_27 (by decide) ?_
      refine lv_istore (lv' := [(4, .int (0 : Int32)), (3, .int v_7), (0, .ref h6), (1, .int x1), (2, .int x2)]) hx hb dX6_kinds_28 hl (by decide) rfl (fun ls hl => ?_)
      refine lv_iconst (v := 0) hx hb dX6_kinds_30 (by decide) ?_
      refine lv_istore (lv' := [(5, .int (0 : Int32)), (4, .int (0 : Int32)), (3, .int v_7), (0, .ref h6), (1, .int x1), (2, .int x2)]) hx hb dX6_kinds_31 hl (by decide) rfl (fun ls hl => ?_)
      obtain ⟨n_20, h⟩ := h
      exact L33 n_20 h hP hD hS (lv_sub hl [3, 4, 5, 2, 1, 0] rfl)
    · have h := h.1 c_6
      refine lv_iconst (v := -1) hx hb dX6_kinds_16 (by decide) ?_
      exact hret (-1 : Int32) (mo, ms, mh, mg) _ _ _ ls h hP hD hS dX6_kinds_17

/-! DoubtCourtModel.slips -/
abbrev rmX6_slips : Room := { frames := 1, cells := 0, slots := 0, locals := 23 }
theorem yoX6_slips : yX6_slips.cls ≠ "java/lang/invoke/MethodHandle" ∧ yX6_slips.cls ≠ "java/lang/invoke/VarHandle" ∧ (parseMethodDescriptor yX6_slips.desc).map (fun d => d.parameters.length) = some 0 := by decide +kernel
set_option maxHeartbeats 4000000 in
set_option maxRecDepth 100000 in
theorem c_X6_slips (l : Launch) (D : va_G) (cI cC cQ : ClassId) (h6 : Nat) (a_mt : Nat) (a_mo : Nat) (a_md : Nat) (a_mb : Nat) (a_ms : Nat) (a_mp : Nat) (a_mi : Nat) (a_mn : Nat) (a_mh : Nat) (a_mg : Nat) (a_mr : Nat) (a_mx : Nat) (mt : Nat → Int32) (my : Int32) (mo : Nat → Int32) (md : Nat → Int32) (mb : Nat → Int32) (ms : Nat → Int32) (mp : Nat → Int32) (mk : Int32) (mi : Nat → Int32) (mq : Int32) (mn : Nat → Int32) (mz : Int32) (ma : Int32) (mh : Nat → Int32) (mg : Nat → Int32) (mr : Nat → Int32) (mx : Nat → Int32) (Q : (Nat → Int32) → Prop) (h : wX6_slips mo ms Q) : Cv (S := (Nat → Int32)) l D cI cC cQ yX6_slips wsX6_slips rmX6_slips [.ref h6] [(h6, .inr (6, [.ref a_mt, .int my, .ref a_mo, .ref a_md, .ref a_mb, .ref a_ms, .ref a_mp, .int mk, .ref a_mi, .int mq, .ref a_mn, .int mz, .int ma, .ref a_mh, .ref a_mg, .ref a_mr, .ref a_mx])), (a_mt, .inl (cI, 200, .inl mt)), (a_mo, .inl (cI, 16, .inl mo)), (a_md, .inl (cI, 16, .inl md)), (a_mb, .inl (cI, 56, .inl mb)), (a_ms, .inl (cI, 56, .inl ms)), (a_mp, .inl (cI, 448, .inl mp)), (a_mi, .inl (cI, 112, .inl mi)), (a_mn, .inl (cI, 12, .inl mn)), (a_mh, .inl (cI, 42, .inl mh)), (a_mg, .inl (cI, 56, .inl mg)), (a_mr, .inl (cI, 6, .inl mr)), (a_mx, .inl (cI, 6, .inl mx))] (fun u => [(h6, .inr (6, [.ref a_mt, .int my, .ref a_mo, .ref a_md, .ref a_mb, .ref a_ms, .ref a_mp, .int mk, .ref a_mi, .int mq, .ref a_mn, .int mz, .int ma, .ref a_mh, .ref a_mg, .ref a_mr, .ref a_mx])), (a_mt, .inl (cI, 200, .inl mt)), (a_mo, .inl (cI, 16, .inl mo)), (a_md, .inl (cI, 16, .inl md)), (a_mb, .inl (cI, 56, .inl mb)), (a_ms, .inl (cI, 56, .inl u)), (a_mp, .inl (cI, 448, .inl mp)), (a_mi, .inl (cI, 112, .inl mi)), (a_mn, .inl (cI, 12, .inl mn)), (a_mh, .inl (cI, 42, .inl mh)), (a_mg, .inl (cI, 56, .inl mg)), (a_mr, .inl (cI, 6, .inl mr)), (a_mx, .inl (cI, 6, .inl mx))]) (fun u => Q u) := by
  refine Cv_mk (cc := cX6_slips) (maxL := 3) (by decide) rfl (Nat.le_of_ble_eq_true rfl) ?_
  intro p e s m args below meth c A Z ls hx hb hml hown hts hK hA hP hD hret hl
  have hS : va_S A s.heap s.heap [] := va_S.rf
  have hin6 : ∀ w ∈ u_ws RX6 TX6 17, w ∈ wsX6_slips := by decide +kernel
  have k_0 := hts (.fieldLink RX6 13 "DoubtCourtModel" "told" "[I") (by decide +kernel)
  have k_1 := hts (.fieldLink RX6 22 "DoubtCourtModel" "s" "[I") (by decide +kernel)
  have hl : lv_has ls 3 [(0, .ref h6)] := hl
  have L4 : ∀ (n : Nat) {x1 : Int32} {x2 : Int32} {ms : Nat → Int32} {H : Heap} {locs : List Loc} {ls : Array Slot}, wX6_slips_L4 mo Q n x1 x2 ms → va_P D vwCl [(h6, .inr (6, [.ref a_mt, .int my, .ref a_mo, .ref a_md, .ref a_mb, .ref a_ms, .ref a_mp, .int mk, .ref a_mi, .int mq, .ref a_mn, .int mz, .int ma, .ref a_mh, .ref a_mg, .ref a_mr, .ref a_mx])), (a_mt, .inl (cI, 200, .inl mt)), (a_mo, .inl (cI, 16, .inl mo)), (a_md, .inl (cI, 16, .inl md)), (a_mb, .inl (cI, 56, .inl mb)), (a_ms, .inl (cI, 56, .inl ms)), (a_mp, .inl (cI, 448, .inl mp)), (a_mi, .inl (cI, 112, .inl mi)), (a_mn, .inl (cI, 12, .inl mn)), (a_mh, .inl (cI, 42, .inl mh)), (a_mg, .inl (cI, 56, .inl mg)), (a_mr, .inl (cI, 6, .inl mr)), (a_mx, .inl (cI, 6, .inl mx))] H → va_D A [(h6, .inr (6, [.ref a_mt, .int my, .ref a_mo, .ref a_md, .ref a_mb, .ref a_ms, .ref a_mp, .int mk, .ref a_mi, .int mq, .ref a_mn, .int mz, .int ma, .ref a_mh, .ref a_mg, .ref a_mr, .ref a_mx])), (a_mt, .inl (cI, 200, .inl mt)), (a_mo, .inl (cI, 16, .inl mo)), (a_md, .inl (cI, 16, .inl md)), (a_mb, .inl (cI, 56, .inl mb)), (a_ms, .inl (cI, 56, .inl ms)), (a_mp, .inl (cI, 448, .inl mp)), (a_mi, .inl (cI, 112, .inl mi)), (a_mn, .inl (cI, 12, .inl mn)), (a_mh, .inl (cI, 42, .inl mh)), (a_mg, .inl (cI, 56, .inl mg)), (a_mr, .inl (cI, 6, .inl mr)), (a_mx, .inl (cI, 6, .inl mx))] → va_S A s.heap H locs → lv_has ls 3 [(0, .ref h6), (1, .int x1), (2, .int x2)] → W p l e rmX6_slips s m args below meth c H locs 0 0 Z (F0 m 4 ls []) := by
    intro n
    induction n with
    | zero =>
      intro x1 x2 ms H locs ls h hP hD hS hl
      exact (show False from h).elim
    | succ n ih =>
      intro x1 x2 ms H locs ls h hP hD hS hl
      refine lv_iload_n hx hb dX6_slips_4 rfl (lv_at hl 2 rfl) ?_
      refine lv_aload_n hx hb dX6_slips_5 rfl (lv_at hl 0 rfl) ?_
      refine va_get (D := D) (ci := 6) (v := .ref a_mo) (C := RX6) (T := TX6) (N := 17) hx hb hts hin6 hown hK.1 hP 0 rfl rfl 2 (by decide) (k_0) (fun _ h9 => h9) rfl dX6_slips_6 ?_
      refine lv_iconst (v := 1) hx hb dX6_slips_9 (by decide) ?_
      refine z_iald (k := 1) hx hb hK.1 hP 2 rfl (by decide) vi_1_16 dX6_slips_10 ?_
      refine lv_icmp_ge (tgt := 71) hx hb dX6_slips_11 (by decide) (fun c_5 => ?_) (fun c_5 => ?_)
      · have h := h.1 c_5
        exact hret ms _ _ _ ls h hP hD hS dX6_slips_71
      · have h := h.2 c_5
        refine lv_iload_n hx hb dX6_slips_14 rfl (lv_at hl 1 rfl) ?_
        refine lv_if_ne (tgt := 71) hx hb dX6_slips_15 (by decide) (fun c_6 => ?_) (fun c_6 => ?_)
        · have h := h.2 c_6
          exact hret ms _ _ _ ls h hP hD hS dX6_slips_71
        · have h := h.1 c_6
          refine lv_aload_n hx hb dX6_slips_18 rfl (lv_at hl 0 rfl) ?_
          refine va_get (D := D) (ci := 6) (v := .ref a_ms) (C := RX6) (T := TX6) (N := 17) hx hb hts hin6 hown hK.1 hP 0 rfl rfl 5 (by decide) (k_1) (fun _ h9 => h9) rfl dX6_slips_19 ?_
          refine lv_bipush (v := 8) hx hb dX6_slips_22 (by decide) ?_
          refine lv_iload_n hx hb dX6_slips_24 rfl (lv_at hl 2 rfl) ?_
          refine lv_iadd hx hb dX6_slips_25 ?_
          refine z_iald (k := ((8 : Int32) + x2).toNatClampNeg) hx hb hK.1 hP 5 rfl rfl h.1 dX6_slips_26 ?_
          have h := h.2
          refine lv_bipush (v := 9) hx hb dX6_slips_27 (by decide) ?_
          refine lv_icmp_eq (tgt := 65) hx hb dX6_slips_29 (by decide) (fun c_7 => ?_) (fun c_7 => ?_)
          · have h := h.1 c_7
            refine lv_iinc (v := (x2 + (1 : Int32))) (lv' := [(2, .int (x2 + (1 : Int32))), (0, .ref h6), (1, .int x1)]) hx hb dX6_slips_65 hl (k := 2) rfl rfl (by decide) rfl (fun ls hl => ?_)
            refine lv_goto (tgt := 4) hx hb dX6_slips_68 (by decide) ?_
            exact ih h hP hD hS (lv_sub hl [1, 2, 0] rfl)
          · have h := h.2 c_7
            refine lv_aload_n hx hb dX6_slips_32 rfl (lv_at hl 0 rfl) ?_
            refine va_get (D := D) (ci := 6) (v := .ref a_ms) (C := RX6) (T := TX6) (N := 17) hx hb hts hin6 hown hK.1 hP 0 rfl rfl 5 (by decide) (k_1) (fun _ h9 => h9) rfl dX6_slips_33 ?_
            refine lv_bipush (v := 8) hx hb dX6_slips_36 (by decide) ?_
            refine lv_iload_n hx hb dX6_slips_38 rfl (lv_at hl 2 rfl) ?_
            refine lv_iadd hx hb dX6_slips_39 ?_
            refine lv_aload_n hx hb dX6_slips_40 rfl (lv_at hl 0 rfl) ?_
            refine lv_aload_n hx hb dX6_slips_41 rfl (lv_at hl 0 rfl) ?_
            refine va_get (D := D) (ci := 6) (v := .ref a_ms) (C := RX6) (T := TX6) (N := 17) hx hb hts hin6 hown hK.1 hP 0 rfl rfl 5 (by decide) (k_1) (fun _ h9 => h9) rfl dX6_slips_42 ?_
            refine lv_iconst (v := 1) hx hb dX6_slips_45 (by decide) ?_
            refine lv_aload_n hx hb dX6_slips_46 rfl (lv_at hl 0 rfl) ?_
            refine va_get (D := D) (ci := 6) (v := .ref a_ms) (C := RX6) (T := TX6) (N := 17) hx hb hts hin6 hown hK.1 hP 0 rfl rfl 5 (by decide) (k_1) (fun _ h9 => h9) rfl dX6_slips_47 ?_
            refine lv_bipush (v := 8) hx hb dX6_slips_50 (by decide) ?_
            refine lv_iload_n hx hb dX6_slips_52 rfl (lv_at hl 2 rfl) ?_
            refine lv_iadd hx hb dX6_slips_53 ?_
            refine z_iald (k := ((8 : Int32) + x2).toNatClampNeg) hx hb hK.1 hP 5 rfl rfl h.1 dX6_slips_54 ?_
            have h := h.2
            refine lv_iadd hx hb dX6_slips_55 ?_
            refine z_iald (k := ((1 : Int32) + (ms (((8 : Int32) + x2).toNatClampNeg))).toNatClampNeg) hx hb hK.1 hP 5 rfl rfl h.1 dX6_slips_56 ?_
            have h := h.2
            refine lv_iconst (v := 1) hx hb dX6_slips_57 (by decide) ?_
            refine lv_isub hx hb dX6_slips_58 ?_
            refine k0V_i (As := [.int ((ms (((1 : Int32) + (ms (((8 : Int32) + x2).toNatClampNeg))).toNatClampNeg)) - (1 : Int32))]) (n := 1) ⟨hx, hb, hml, hown, hts⟩ hK hP hD hS hA (c_X6_whoAt l D cI cC cQ h6 a_mt a_mo a_md a_mb a_ms a_mp a_mi a_mn a_mh a_mg a_mr a_mx mt my mo md mb ms mp mk mi mq mn mz ma mh mg mr mx ((ms (((1 : Int32) + (ms (((8 : Int32) + x2).toNatClampNeg))).toNatClampNeg)) - (1 : Int32)) _ h) gX6_slips_X6_whoAt rfl rfl ⟨rfl, rfl⟩ yoX6_whoAt ⟨Nat.le_of_ble_eq_true rfl, Nat.le_of_ble_eq_true rfl⟩ (q0 := 0) (ci := 6) rfl rfl rfl rfl hl.1 rfl (Nat.le_of_ble_eq_true rfl) dX6_slips_59 ⟨Nat.zero_le _, Nat.zero_le _⟩ (fun r_8 u H locs h hP hD hS => ?_)
            refine z_iast (k := ((8 : Int32) + x2).toNatClampNeg) hx hb hK.1 hP hD hS 5 rfl rfl h.1 dX6_slips_62 (fun H locs hP hD hS => ?_)
            have h := h.2
            have hP : va_P D vwCl [(h6, .inr (6, [.ref a_mt, .int my, .ref a_mo, .ref a_md, .ref a_mb, .ref a_ms, .ref a_mp, .int mk, .ref a_mi, .int mq, .ref a_mn, .int mz, .int ma, .ref a_mh, .ref a_mg, .ref a_mr, .ref a_mx])), (a_mt, .inl (cI, 200, .inl mt)), (a_mo, .inl (cI, 16, .inl mo)), (a_md, .inl (cI, 16, .inl md)), (a_mb, .inl (cI, 56, .inl mb)), (a_ms, .inl (cI, 56, .inl (upd ms (((8 : Int32) + x2).toNatClampNeg) r_8))), (a_mp, .inl (cI, 448, .inl mp)), (a_mi, .inl (cI, 112, .inl mi)), (a_mn, .inl (cI, 12, .inl mn)), (a_mh, .inl (cI, 42, .inl mh)), (a_mg, .inl (cI, 56, .inl mg)), (a_mr, .inl (cI, 6, .inl mr)), (a_mx, .inl (cI, 6, .inl mx))] H := hP
            have hD : va_D A [(h6, .inr (6, [.ref a_mt, .int my, .ref a_mo, .ref a_md, .ref a_mb, .ref a_ms, .ref a_mp, .int mk, .ref a_mi, .int mq, .ref a_mn, .int mz, .int ma, .ref a_mh, .ref a_mg, .ref a_mr, .ref a_mx])), (a_mt, .inl (cI, 200, .inl mt)), (a_mo, .inl (cI, 16, .inl mo)), (a_md, .inl (cI, 16, .inl md)), (a_mb, .inl (cI, 56, .inl mb)), (a_ms, .inl (cI, 56, .inl (upd ms (((8 : Int32) + x2).toNatClampNeg) r_8))), (a_mp, .inl (cI, 448, .inl mp)), (a_mi, .inl (cI, 112, .inl mi)), (a_mn, .inl (cI, 12, .inl mn)), (a_mh, .inl (cI, 42, .inl mh)), (a_mg, .inl (cI, 56, .inl mg)), (a_mr, .inl (cI, 6, .inl mr)), (a_mx, .inl (cI, 6, .inl mx))] := hD
            refine lv_iconst (v := 1) hx hb dX6_slips_63 (by decide) ?_
            refine lv_istore_n (lv' := [(1, .int (1 : Int32)), (0, .ref h6), (2, .int x2)]) hx hb dX6_slips_64 rfl hl (by decide) rfl (fun ls hl => ?_)
            refine lv_iinc (v := (x2 + (1 : Int32))) (lv' := [(2, .int (x2 + (1 : Int32))), (1, .int (1 : Int32)), (0, .ref h6)]) hx hb dX6_slips_65 hl (k := 2) rfl rfl (by decide) rfl (fun ls hl => ?_)
            refine lv_goto (tgt := 4) hx hb dX6_slips_68 (by decide) ?_
            exact ih h hP hD hS (lv_sub hl [2, 1, 0] rfl)
  refine lv_iconst (v := 0) hx hb dX6_slips_0 (by decide) ?_
  refine lv_istore_n (lv' := [(1, .int (0 : Int32)), (0, .ref h6)]) hx hb dX6_slips_1 rfl hl (by decide) rfl (fun ls hl => ?_)
  refine lv_iconst (v := 0) hx hb dX6_slips_2 (by decide) ?_
  refine lv_istore_n (lv' := [(2, .int (0 : Int32)), (1, .int (0 : Int32)), (0, .ref h6)]) hx hb dX6_slips_3 rfl hl (by decide) rfl (fun ls hl => ?_)
  obtain ⟨n_9, h⟩ := h
  exact L4 n_9 h hP hD hS (lv_sub hl [2, 1, 0] rfl)

/-! DoubtCourtModel.tongues -/
abbrev rmX6_tongues : Room := { frames := 3, cells := 0, slots := 0, locals := 73 }
theorem yoX6_tongues : yX6_tongues.cls ≠ "java/lang/invoke/MethodHandle" ∧ yX6_tongues.cls ≠ "java/lang/invoke/VarHandle" ∧ (parseMethodDescriptor yX6_tongues.desc).map (fun d => d.parameters.length) = some 4 := by decide +kernel
set_option maxHeartbeats 4000000 in
set_option maxRecDepth 100000 in
theorem c_X6_tongues (l : Launch) (D : va_G) (cI cC cQ : ClassId) (h6 : Nat) (a_mt : Nat) (a_mo : Nat) (a_md : Nat) (a_mb : Nat) (a_ms : Nat) (a_mp : Nat) (a_mi : Nat) (a_mn : Nat) (a_mh : Nat) (a_mg : Nat) (a_mr : Nat) (a_mx : Nat) (mt : Nat → Int32) (my : Int32) (mo : Nat → Int32) (md : Nat → Int32) (mb : Nat → Int32) (ms : Nat → Int32) (mp : Nat → Int32) (mk : Int32) (mi : Nat → Int32) (mq : Int32) (mn : Nat → Int32) (mz : Int32) (ma : Int32) (mh : Nat → Int32) (mg : Nat → Int32) (mr : Nat → Int32) (mx : Nat → Int32) (x1 : Int32) (x2 : Int32) (x3 : Int32) (x4 : Int32) (Q : Int32 → (Nat → Int32) → (Nat → Int32) → (Nat → Int32) → Prop) (h : wX6_tongues x1 x2 x3 x4 mo ms mh mg Q) : Ci (S := (Nat → Int32) × (Nat → Int32) × (Nat → Int32)) l D cI cC cQ yX6_tongues wsX6_tongues rmX6_tongues [.ref h6, .int x1, .int x2, .int x3, .int x4] [(h6, .inr (6, [.ref a_mt, .int my, .ref a_mo, .ref a_md, .ref a_mb, .ref a_ms, .ref a_mp, .int mk, .ref a_mi, .int mq, .ref a_mn, .int mz, .int ma, .ref a_mh, .ref a_mg, .ref a_mr, .ref a_mx])), (a_mt, .inl (cI, 200, .inl mt)), (a_mo, .inl (cI, 16, .inl mo)), (a_md, .inl (cI, 16, .inl md)), (a_mb, .inl (cI, 56, .inl mb)), (a_ms, .inl (cI, 56, .inl ms)), (a_mp, .inl (cI, 448, .inl mp)), (a_mi, .inl (cI, 112, .inl mi)), (a_mn, .inl (cI, 12, .inl mn)), (a_mh, .inl (cI, 42, .inl mh)), (a_mg, .inl (cI, 56, .inl mg)), (a_mr, .inl (cI, 6, .inl mr)), (a_mx, .inl (cI, 6, .inl mx))] (fun u => [(h6, .inr (6, [.ref a_mt, .int my, .ref a_mo, .ref a_md, .ref a_mb, .ref a_ms, .ref a_mp, .int mk, .ref a_mi, .int mq, .ref a_mn, .int mz, .int ma, .ref a_mh, .ref a_mg, .ref a_mr, .ref a_mx])), (a_mt, .inl (cI, 200, .inl mt)), (a_mo, .inl (cI, 16, .inl mo)), (a_md, .inl (cI, 16, .inl md)), (a_mb, .inl (cI, 56, .inl mb)), (a_ms, .inl (cI, 56, .inl u.1)), (a_mp, .inl (cI, 448, .inl mp)), (a_mi, .inl (cI, 112, .inl mi)), (a_mn, .inl (cI, 12, .inl mn)), (a_mh, .inl (cI, 42, .inl u.2.1)), (a_mg, .inl (cI, 56, .inl u.2.2)), (a_mr, .inl (cI, 6, .inl mr)), (a_mx, .inl (cI, 6, .inl mx))]) (fun r u => Q r u.1 u.2.1 u.2.2) := by
  refine Ci_mk (cc := cX6_tongues) (maxL := 11) (by decide) rfl (Nat.le_of_ble_eq_true rfl) ?_
  intro p e s m args below meth c A Z ls hx hb hml hown hts hK hA hP hD hret hl
  have hS : va_S A s.heap s.heap [] := va_S.rf
  have hin6 : ∀ w ∈ u_ws RX6 TX6 17, w ∈ wsX6_tongues := by decide +kernel
  have k_0 := hts (.fieldLink RX6 22 "DoubtCourtModel" "s" "[I") (by decide +kernel)
  have hl : lv_has ls 11 [(0, .ref h6), (1, .int x1), (2, .int x2), (3, .int x3), (4, .int x4)] := hl
  have L53 : ∀ {K72 : Int32 → Prop} (n : Nat) {x1 : Int32} {x2 : Int32} {x3 : Int32} {x4 : Int32} {x5 : Int32} {x6 : Int32} {x7 : Int32} {ms : Nat → Int32} {mh : Nat → Int32} {mg : Nat → Int32} {H : Heap} {locs : List Loc} {ls : Array Slot}, wX6_tongues_L53 x2 K72 n x6 x7 → va_P D vwCl [(h6, .inr (6, [.ref a_mt, .int my, .ref a_mo, .ref a_md, .ref a_mb, .ref a_ms, .ref a_mp, .int mk, .ref a_mi, .int mq, .ref a_mn, .int mz, .int ma, .ref a_mh, .ref a_mg, .ref a_mr, .ref a_mx])), (a_mt, .inl (cI, 200, .inl mt)), (a_mo, .inl (cI, 16, .inl mo)), (a_md, .inl (cI, 16, .inl md)), (a_mb, .inl (cI, 56, .inl mb)), (a_ms, .inl (cI, 56, .inl ms)), (a_mp, .inl (cI, 448, .inl mp)), (a_mi, .inl (cI, 112, .inl mi)), (a_mn, .inl (cI, 12, .inl mn)), (a_mh, .inl (cI, 42, .inl mh)), (a_mg, .inl (cI, 56, .inl mg)), (a_mr, .inl (cI, 6, .inl mr)), (a_mx, .inl (cI, 6, .inl mx))] H → va_D A [(h6, .inr (6, [.ref a_mt, .int my, .ref a_mo, .ref a_md, .ref a_mb, .ref a_ms, .ref a_mp, .int mk, .ref a_mi, .int mq, .ref a_mn, .int mz, .int ma, .ref a_mh, .ref a_mg, .ref a_mr, .ref a_mx])), (a_mt, .inl (cI, 200, .inl mt)), (a_mo, .inl (cI, 16, .inl mo)), (a_md, .inl (cI, 16, .inl md)), (a_mb, .inl (cI, 56, .inl mb)), (a_ms, .inl (cI, 56, .inl ms)), (a_mp, .inl (cI, 448, .inl mp)), (a_mi, .inl (cI, 112, .inl mi)), (a_mn, .inl (cI, 12, .inl mn)), (a_mh, .inl (cI, 42, .inl mh)), (a_mg, .inl (cI, 56, .inl mg)), (a_mr, .inl (cI, 6, .inl mr)), (a_mx, .inl (cI, 6, .inl mx))] → va_S A s.heap H locs → lv_has ls 11 [(0, .ref h6), (1, .int x1), (2, .int x2), (3, .int x3), (4, .int x4), (5, .int x5), (6, .int x6), (7, .int x7)] → (∀ (x6 : Int32) (H : Heap) (locs : List Loc) (ls : Array Slot), K72 x6 → va_P D vwCl [(h6, .inr (6, [.ref a_mt, .int my, .ref a_mo, .ref a_md, .ref a_mb, .ref a_ms, .ref a_mp, .int mk, .ref a_mi, .int mq, .ref a_mn, .int mz, .int ma, .ref a_mh, .ref a_mg, .ref a_mr, .ref a_mx])), (a_mt, .inl (cI, 200, .inl mt)), (a_mo, .inl (cI, 16, .inl mo)), (a_md, .inl (cI, 16, .inl md)), (a_mb, .inl (cI, 56, .inl mb)), (a_ms, .inl (cI, 56, .inl ms)), (a_mp, .inl (cI, 448, .inl mp)), (a_mi, .inl (cI, 112, .inl mi)), (a_mn, .inl (cI, 12, .inl mn)), (a_mh, .inl (cI, 42, .inl mh)), (a_mg, .inl (cI, 56, .inl mg)), (a_mr, .inl (cI, 6, .inl mr)), (a_mx, .inl (cI, 6, .inl mx))] H → va_D A [(h6, .inr (6, [.ref a_mt, .int my, .ref a_mo, .ref a_md, .ref a_mb, .ref a_ms, .ref a_mp, .int mk, .ref a_mi, .int mq, .ref a_mn, .int mz, .int ma, .ref a_mh, .ref a_mg, .ref a_mr, .ref a_mx])), (a_mt, .inl (cI, 200, .inl mt)), (a_mo, .inl (cI, 16, .inl mo)), (a_md, .inl (cI, 16, .inl md)), (a_mb, .inl (cI, 56, .inl mb)), (a_ms, .inl (cI, 56, .inl ms)), (a_mp, .inl (cI, 448, .inl mp)), (a_mi, .inl (cI, 112, .inl mi)), (a_mn, .inl (cI, 12, .inl mn)), (a_mh, .inl (cI, 42, .inl mh)), (a_mg, .inl (cI, 56, .inl mg)), (a_mr, .inl (cI, 6, .inl mr)), (a_mx, .inl (cI, 6, .inl mx))] → va_S A s.heap H locs → lv_has ls 11 [(0, .ref h6), (1, .int x1), (2, .int x2), (3, .int x3), (4, .int x4), (5, .int x5), (6, .int x6)] → W p l e rmX6_tongues s m args below meth c H locs 0 0 Z (F0 m 72 ls [])) → W p l e rmX6_tongues s m args below meth c H locs 0 0 Z (F0 m 53 ls []) := by
    intro K72
    intro n
    induction n with
    | zero =>
      intro x1 x2 x3 x4 x5 x6 x7 ms mh mg H locs ls h hP hD hS hl hk72
      exact (show False from h).elim
    | succ n ih =>
      intro x1 x2 x3 x4 x5 x6 x7 ms mh mg H locs ls h hP hD hS hl hk72
      refine lv_iload hx hb dX6_tongues_53 (lv_at hl 7 rfl) ?_
      refine lv_iload_n hx hb dX6_tongues_55 rfl (lv_at hl 2 rfl) ?_
      refine lv_icmp_ge (tgt := 72) hx hb dX6_tongues_56 (by decide) (fun c_16 => ?_) (fun c_16 => ?_)
      · have h := h.1 c_16
        exact hk72 x6 _ _ _ h hP hD hS (lv_sub hl [0, 1, 2, 3, 4, 5, 6] rfl)
      · have h := h.2 c_16
        refine lv_iload hx hb dX6_tongues_59 (lv_at hl 6 rfl) ?_
        refine lv_bipush (v := 10) hx hb dX6_tongues_61 (by decide) ?_
        refine lv_imul hx hb dX6_tongues_63 ?_
        refine lv_topi (fun v_17 ev_17 => ?_)
        have h := h v_17 ev_17
        refine lv_istore (lv' := [(6, .int v_17), (0, .ref h6), (1, .int x1), (2, .int x2), (3, .int x3), (4, .int x4), (5, .int x5), (7, .int x7)]) hx hb dX6_tongues_64 hl (by decide) rfl (fun ls hl => ?_)
        refine lv_iinc (v := (x7 + (1 : Int32))) (lv' := [(7, .int (x7 + (1 : Int32))), (6, .int v_17), (0, .ref h6), (1, .int x1), (2, .int x2), (3, .int x3), (4, .int x4), (5, .int x5)]) hx hb dX6_tongues_66 hl (k := 7) rfl rfl (by decide) rfl (fun ls hl => ?_)
        refine lv_goto (tgt := 53) hx hb dX6_tongues_69 (by decide) ?_
        exact ih h hP hD hS (lv_sub hl [2, 3, 4, 5, 6, 7, 1, 0] rfl) hk72
  have L89 : ∀ {K150 : Int32 → (Nat → Int32) → (Nat → Int32) → Prop} (n : Nat) {x1 : Int32} {x2 : Int32} {x3 : Int32} {x4 : Int32} {x5 : Int32} {x6 : Int32} {x7 : Int32} {x8 : Int32} {x9 : Int32} {ms : Nat → Int32} {mh : Nat → Int32} {mg : Nat → Int32} {H : Heap} {locs : List Loc} {ls : Array Slot}, wX6_tongues_L89 x2 x3 x7 mo K150 n x8 x9 ms mh → va_P D vwCl [(h6, .inr (6, [.ref a_mt, .int my, .ref a_mo, .ref a_md, .ref a_mb, .ref a_ms, .ref a_mp, .int mk, .ref a_mi, .int mq, .ref a_mn, .int mz, .int ma, .ref a_mh, .ref a_mg, .ref a_mr, .ref a_mx])), (a_mt, .inl (cI, 200, .inl mt)), (a_mo, .inl (cI, 16, .inl mo)), (a_md, .inl (cI, 16, .inl md)), (a_mb, .inl (cI, 56, .inl mb)), (a_ms, .inl (cI, 56, .inl ms)), (a_mp, .inl (cI, 448, .inl mp)), (a_mi, .inl (cI, 112, .inl mi)), (a_mn, .inl (cI, 12, .inl mn)), (a_mh, .inl (cI, 42, .inl mh)), (a_mg, .inl (cI, 56, .inl mg)), (a_mr, .inl (cI, 6, .inl mr)), (a_mx, .inl (cI, 6, .inl mx))] H → va_D A [(h6, .inr (6, [.ref a_mt, .int my, .ref a_mo, .ref a_md, .ref a_mb, .ref a_ms, .ref a_mp, .int mk, .ref a_mi, .int mq, .ref a_mn, .int mz, .int ma, .ref a_mh, .ref a_mg, .ref a_mr, .ref a_mx])), (a_mt, .inl (cI, 200, .inl mt)), (a_mo, .inl (cI, 16, .inl mo)), (a_md, .inl (cI, 16, .inl md)), (a_mb, .inl (cI, 56, .inl mb)), (a_ms, .inl (cI, 56, .inl ms)), (a_mp, .inl (cI, 448, .inl mp)), (a_mi, .inl (cI, 112, .inl mi)), (a_mn, .inl (cI, 12, .inl mn)), (a_mh, .inl (cI, 42, .inl mh)), (a_mg, .inl (cI, 56, .inl mg)), (a_mr, .inl (cI, 6, .inl mr)), (a_mx, .inl (cI, 6, .inl mx))] → va_S A s.heap H locs → lv_has ls 11 [(0, .ref h6), (1, .int x1), (2, .int x2), (3, .int x3), (4, .int x4), (5, .int x5), (6, .int x6), (7, .int x7), (8, .int x8), (9, .int x9)] → (∀ (x8 : Int32) (ms : Nat → Int32) (mh : Nat → Int32) (H : Heap) (locs : List Loc) (ls : Array Slot), K150 x8 ms mh → va_P D vwCl [(h6, .inr (6, [.ref a_mt, .int my, .ref a_mo, .ref a_md, .ref a_mb, .ref a_ms, .ref a_mp, .int mk, .ref a_mi, .int mq, .ref a_mn, .int mz, .int ma, .ref a_mh, .ref a_mg, .ref a_mr, .ref a_mx])), (a_mt, .inl (cI, 200, .inl mt)), (a_mo, .inl (cI, 16, .inl mo)), (a_md, .inl (cI, 16, .inl md)), (a_mb, .inl (cI, 56, .inl mb)), (a_ms, .inl (cI, 56, .inl ms)), (a_mp, .inl (cI, 448, .inl mp)), (a_mi, .inl (cI, 112, .inl mi)), (a_mn, .inl (cI, 12, .inl mn)), (a_mh, .inl (cI, 42, .inl mh)), (a_mg, .inl (cI, 56, .inl mg)), (a_mr, .inl (cI, 6, .inl mr)), (a_mx, .inl (cI, 6, .inl mx))] H → va_D A [(h6, .inr (6, [.ref a_mt, .int my, .ref a_mo, .ref a_md, .ref a_mb, .ref a_ms, .ref a_mp, .int mk, .ref a_mi, .int mq, .ref a_mn, .int mz, .int ma, .ref a_mh, .ref a_mg, .ref a_mr, .ref a_mx])), (a_mt, .inl (cI, 200, .inl mt)), (a_mo, .inl (cI, 16, .inl mo)), (a_md, .inl (cI, 16, .inl md)), (a_mb, .inl (cI, 56, .inl mb)), (a_ms, .inl (cI, 56, .inl ms)), (a_mp, .inl (cI, 448, .inl mp)), (a_mi, .inl (cI, 112, .inl mi)), (a_mn, .inl (cI, 12, .inl mn)), (a_mh, .inl (cI, 42, .inl mh)), (a_mg, .inl (cI, 56, .inl mg)), (a_mr, .inl (cI, 6, .inl mr)), (a_mx, .inl (cI, 6, .inl mx))] → va_S A s.heap H locs → lv_has ls 11 [(0, .ref h6), (1, .int x1), (2, .int x2), (3, .int x3), (4, .int x4), (5, .int x5), (6, .int x6), (7, .int x7), (8, .int x8)] → W p l e rmX6_tongues s m args below meth c H locs 0 0 Z (F0 m 150 ls [])) → W p l e rmX6_tongues s m args below meth c H locs 0 0 Z (F0 m 89 ls []) := by
    intro K150
    intro n
    induction n with
    | zero =>
      intro x1 x2 x3 x4 x5 x6 x7 x8 x9 ms mh mg H locs ls h hP hD hS hl hk150
      exact (show False from h).elim
    | succ n ih =>
      intro x1 x2 x3 x4 x5 x6 x7 x8 x9 ms mh mg H locs ls h hP hD hS hl hk150
      refine lv_iload hx hb dX6_tongues_89 (lv_at hl 9 rfl) ?_
      refine lv_iload_n hx hb dX6_tongues_91 rfl (lv_at hl 2 rfl) ?_
      refine lv_icmp_ge (tgt := 150) hx hb dX6_tongues_92 (by decide) (fun c_57 => ?_) (fun c_57 => ?_)
      · have h := h.1 c_57
        exact hk150 x8 ms mh _ _ _ h hP hD hS (lv_sub hl [0, 1, 2, 3, 4, 5, 6, 7, 8] rfl)
      · have h := h.2 c_57
        refine lv_iload hx hb dX6_tongues_95 (lv_at hl 7 rfl) ?_
        refine lv_iload hx hb dX6_tongues_97 (lv_at hl 9 rfl) ?_
        refine lv_ishr hx hb dX6_tongues_99 ?_
        refine lv_iconst (v := 1) hx hb dX6_tongues_100 (by decide) ?_
        refine lv_iand hx hb dX6_tongues_101 ?_
        refine lv_iconst (v := 1) hx hb dX6_tongues_102 (by decide) ?_
        refine lv_icmp_ne (tgt := 110) hx hb dX6_tongues_103 (by decide) (fun c_58 => ?_) (fun c_58 => ?_)
        · have h := h.2 c_58
          refine lv_iconst (v := 0) hx hb dX6_tongues_110 (by decide) ?_
          refine lv_istore (lv' := [(10, .int (0 : Int32)), (0, .ref h6), (1, .int x1), (2, .int x2), (3, .int x3), (4, .int x4), (5, .int x5), (6, .int x6), (7, .int x7), (8, .int x8), (9, .int x9)]) hx hb dX6_tongues_111 hl (by decide) rfl (fun ls hl => ?_)
          refine lv_iload hx hb dX6_tongues_113 (lv_at hl 9 rfl) ?_
          refine lv_iload hx hb dX6_tongues_115 (lv_at hl 0 rfl) ?_
          refine lv_if_eq (tgt := 124) hx hb dX6_tongues_117 (by decide) (fun _ => ?_) (fun c_ => absurd c_ (by decide))
          refine lv_bipush (v := 10) hx hb dX6_tongues_124 (by decide) ?_
          refine lv_iload_n hx hb dX6_tongues_126 rfl (lv_at hl 4 rfl) ?_
          refine lv_isub hx hb dX6_tongues_127 ?_
          refine lv_imul hx hb dX6_tongues_128 ?_
          refine lv_topi (fun v_59 ev_59 => ?_)
          have h := h v_59 ev_59
          refine lv_istore (lv' := [(8, .int v_59), (10, .int (0 : Int32)), (0, .ref h6), (1, .int x1), (2, .int x2), (3, .int x3), (4, .int x4), (5, .int x5), (6, .int x6), (7, .int x7), (9, .int x9)]) hx hb dX6_tongues_129 hl (by decide) rfl (fun ls hl => ?_)
          refine lv_iload hx hb dX6_tongues_131 (lv_at hl 1 rfl) ?_
          refine lv_if_eq (tgt := 140) hx hb dX6_tongues_133 (by decide) (fun _ => ?_) (fun c_ => absurd c_ (by decide))
          refine lv_aload_n hx hb dX6_tongues_140 rfl (lv_at hl 2 rfl) ?_
          refine k0V_v (As := []) (n := 0) ⟨hx, hb, hml, hown, hts⟩ hK hP hD hS hA (c_X6_passes l D cI cC cQ h6 a_mt a_mo a_md a_mb a_ms a_mp a_mi a_mn a_mh a_mg a_mr a_mx mt my mo md mb ms mp mk mi mq mn mz ma mh mg mr mx  _ h) gX6_tongues_X6_passes rfl rfl ⟨rfl, rfl⟩ yoX6_passes ⟨Nat.le_of_ble_eq_true rfl, Nat.le_of_ble_eq_true rfl⟩ (q0 := 0) (ci := 6) rfl rfl rfl rfl hl.1 rfl (Nat.le_of_ble_eq_true rfl) dX6_tongues_141 ⟨Nat.zero_le _, Nat.zero_le _⟩ (fun u H locs h hP hD hS => ?_)
          obtain ⟨ms_60, mh_61⟩ := u
          have hP : va_P D vwCl [(h6, .inr (6, [.ref a_mt, .int my, .ref a_mo, .ref a_md, .ref a_mb, .ref a_ms, .ref a_mp, .int mk, .ref a_mi, .int mq, .ref a_mn, .int mz, .int ma, .ref a_mh, .ref a_mg, .ref a_mr, .ref a_mx])), (a_mt, .inl (cI, 200, .inl mt)), (a_mo, .inl (cI, 16, .inl mo)), (a_md, .inl (cI, 16, .inl md)), (a_mb, .inl (cI, 56, .inl mb)), (a_ms, .inl (cI, 56, .inl ms_60)), (a_mp, .inl (cI, 448, .inl mp)), (a_mi, .inl (cI, 112, .inl mi)), (a_mn, .inl (cI, 12, .inl mn)), (a_mh, .inl (cI, 42, .inl mh_61)), (a_mg, .inl (cI, 56, .inl mg)), (a_mr, .inl (cI, 6, .inl mr)), (a_mx, .inl (cI, 6, .inl mx))] H := hP
          have hD : va_D A [(h6, .inr (6, [.ref a_mt, .int my, .ref a_mo, .ref a_md, .ref a_mb, .ref a_ms, .ref a_mp, .int mk, .ref a_mi, .int mq, .ref a_mn, .int mz, .int ma, .ref a_mh, .ref a_mg, .ref a_mr, .ref a_mx])), (a_mt, .inl (cI, 200, .inl mt)), (a_mo, .inl (cI, 16, .inl mo)), (a_md, .inl (cI, 16, .inl md)), (a_mb, .inl (cI, 56, .inl mb)), (a_ms, .inl (cI, 56, .inl ms_60)), (a_mp, .inl (cI, 448, .inl mp)), (a_mi, .inl (cI, 112, .inl mi)), (a_mn, .inl (cI, 12, .inl mn)), (a_mh, .inl (cI, 42, .inl mh_61)), (a_mg, .inl (cI, 56, .inl mg)), (a_mr, .inl (cI, 6, .inl mr)), (a_mx, .inl (cI, 6, .inl mx))] := hD
          refine lv_iinc (v := (x9 + (1 : Int32))) (lv' := [(9, .int (x9 + (1 : Int32))), (8, .int v_59), (10, .int (0 : Int32)), (0, .ref h6), (1, .int x1), (2, .int x2), (3, .int x3), (4, .int x4), (5, .int x5), (6, .int x6), (7, .int x7)]) hx hb dX6_tongues_144 hl (k := 10) rfl rfl (by decide) rfl (fun ls hl => ?_)
          refine lv_goto (tgt := 89) hx hb dX6_tongues_147 (by decide) ?_
          exact ih h hP hD hS (lv_sub hl [3, 4, 5, 6, 7, 8, 9, 10, 1, 0] rfl) hk150
        · have h := h.1 c_58
          refine lv_iconst (v := 1) hx hb dX6_tongues_106 (by decide) ?_
          refine lv_goto (tgt := 111) hx hb dX6_tongues_107 (by decide) ?_
          refine lv_istore (lv' := [(10, .int (1 : Int32)), (0, .ref h6), (1, .int x1), (2, .int x2), (3, .int x3), (4, .int x4), (5, .int x5), (6, .int x6), (7, .int x7), (8, .int x8), (9, .int x9)]) hx hb dX6_tongues_111 hl (by decide) rfl (fun ls hl => ?_)
          refine lv_iload hx hb dX6_tongues_113 (lv_at hl 9 rfl) ?_
          refine lv_iload hx hb dX6_tongues_115 (lv_at hl 0 rfl) ?_
          refine lv_if_eq (tgt := 124) hx hb dX6_tongues_117 (by decide) (fun c_ => absurd c_ (by decide)) (fun _ => ?_)
          refine lv_iload_n hx hb dX6_tongues_120 rfl (lv_at hl 4 rfl) ?_
          refine lv_goto (tgt := 128) hx hb dX6_tongues_121 (by decide) ?_
          refine lv_imul hx hb dX6_tongues_128 ?_
          refine lv_topi (fun v_62 ev_62 => ?_)
          have h := h v_62 ev_62
          refine lv_istore (lv' := [(8, .int v_62), (10, .int (1 : Int32)), (0, .ref h6), (1, .int x1), (2, .int x2), (3, .int x3), (4, .int x4), (5, .int x5), (6, .int x6), (7, .int x7), (9, .int x9)]) hx hb dX6_tongues_129 hl (by decide) rfl (fun ls hl => ?_)
          refine lv_iload hx hb dX6_tongues_131 (lv_at hl 1 rfl) ?_
          refine lv_if_eq (tgt := 140) hx hb dX6_tongues_133 (by decide) (fun c_ => absurd c_ (by decide)) (fun _ => ?_)
          refine lv_aload_n hx hb dX6_tongues_136 rfl (lv_at hl 2 rfl) ?_
          refine k0V_v (As := []) (n := 0) ⟨hx, hb, hml, hown, hts⟩ hK hP hD hS hA (c_X6_slips l D cI cC cQ h6 a_mt a_mo a_md a_mb a_ms a_mp a_mi a_mn a_mh a_mg a_mr a_mx mt my mo md mb ms mp mk mi mq mn mz ma mh mg mr mx  _ h) gX6_tongues_X6_slips rfl rfl ⟨rfl, rfl⟩ yoX6_slips ⟨Nat.le_of_ble_eq_true rfl, Nat.le_of_ble_eq_true rfl⟩ (q0 := 0) (ci := 6) rfl rfl rfl rfl hl.1 rfl (Nat.le_of_ble_eq_true rfl) dX6_tongues_137 ⟨Nat.zero_le _, Nat.zero_le _⟩ (fun ms_63 H locs h hP hD hS => ?_)
          have hP : va_P D vwCl [(h6, .inr (6, [.ref a_mt, .int my, .ref a_mo, .ref a_md, .ref a_mb, .ref a_ms, .ref a_mp, .int mk, .ref a_mi, .int mq, .ref a_mn, .int mz, .int ma, .ref a_mh, .ref a_mg, .ref a_mr, .ref a_mx])), (a_mt, .inl (cI, 200, .inl mt)), (a_mo, .inl (cI, 16, .inl mo)), (a_md, .inl (cI, 16, .inl md)), (a_mb, .inl (cI, 56, .inl mb)), (a_ms, .inl (cI, 56, .inl ms_63)), (a_mp, .inl (cI, 448, .inl mp)), (a_mi, .inl (cI, 112, .inl mi)), (a_mn, .inl (cI, 12, .inl mn)), (a_mh, .inl (cI, 42, .inl mh)), (a_mg, .inl (cI, 56, .inl mg)), (a_mr, .inl (cI, 6, .inl mr)), (a_mx, .inl (cI, 6, .inl mx))] H := hP
          have hD : va_D A [(h6, .inr (6, [.ref a_mt, .int my, .ref a_mo, .ref a_md, .ref a_mb, .ref a_ms, .ref a_mp, .int mk, .ref a_mi, .int mq, .ref a_mn, .int mz, .int ma, .ref a_mh, .ref a_mg, .ref a_mr, .ref a_mx])), (a_mt, .inl (cI, 200, .inl mt)), (a_mo, .inl (cI, 16, .inl mo)), (a_md, .inl (cI, 16, .inl md)), (a_mb, .inl (cI, 56, .inl mb)), (a_ms, .inl (cI, 56, .inl ms_63)), (a_mp, .inl (cI, 448, .inl mp)), (a_mi, .inl (cI, 112, .inl mi)), (a_mn, .inl (cI, 12, .inl mn)), (a_mh, .inl (cI, 42, .inl mh)), (a_mg, .inl (cI, 56, .inl mg)), (a_mr, .inl (cI, 6, .inl mr)), (a_mx, .inl (cI, 6, .inl mx))] := hD
          refine lv_aload_n hx hb dX6_tongues_140 rfl (lv_at hl 2 rfl) ?_
          refine k0V_v (As := []) (n := 0) ⟨hx, hb, hml, hown, hts⟩ hK hP hD hS hA (c_X6_passes l D cI cC cQ h6 a_mt a_mo a_md a_mb a_ms a_mp a_mi a_mn a_mh a_mg a_mr a_mx mt my mo md mb ms_63 mp mk mi mq mn mz ma mh mg mr mx  _ h) gX6_tongues_X6_passes rfl rfl ⟨rfl, rfl⟩ yoX6_passes ⟨Nat.le_of_ble_eq_true rfl, Nat.le_of_ble_eq_true rfl⟩ (q0 := 0) (ci := 6) rfl rfl rfl rfl hl.1 rfl (Nat.le_of_ble_eq_true rfl) dX6_tongues_141 ⟨Nat.zero_le _, Nat.zero_le _⟩ (fun u H locs h hP hD hS => ?_)
          obtain ⟨ms_64, mh_65⟩ := u
          have hP : va_P D vwCl [(h6, .inr (6, [.ref a_mt, .int my, .ref a_mo, .ref a_md, .ref a_mb, .ref a_ms, .ref a_mp, .int mk, .ref a_mi, .int mq, .ref a_mn, .int mz, .int ma, .ref a_mh, .ref a_mg, .ref a_mr, .ref a_mx])), (a_mt, .inl (cI, 200, .inl mt)), (a_mo, .inl (cI, 16, .inl mo)), (a_md, .inl (cI, 16, .inl md)), (a_mb, .inl (cI, 56, .inl mb)), (a_ms, .inl (cI, 56, .inl ms_64)), (a_mp, .inl (cI, 448, .inl mp)), (a_mi, .inl (cI, 112, .inl mi)), (a_mn, .inl (cI, 12, .inl mn)), (a_mh, .inl (cI, 42, .inl mh_65)), (a_mg, .inl (cI, 56, .inl mg)), (a_mr, .inl (cI, 6, .inl mr)), (a_mx, .inl (cI, 6, .inl mx))] H := hP
          have hD : va_D A [(h6, .inr (6, [.ref a_mt, .int my, .ref a_mo, .ref a_md, .ref a_mb, .ref a_ms, .ref a_mp, .int mk, .ref a_mi, .int mq, .ref a_mn, .int mz, .int ma, .ref a_mh, .ref a_mg, .ref a_mr, .ref a_mx])), (a_mt, .inl (cI, 200, .inl mt)), (a_mo, .inl (cI, 16, .inl mo)), (a_md, .inl (cI, 16, .inl md)), (a_mb, .inl (cI, 56, .inl mb)), (a_ms, .inl (cI, 56, .inl ms_64)), (a_mp, .inl (cI, 448, .inl mp)), (a_mi, .inl (cI, 112, .inl mi)), (a_mn, .inl (cI, 12, .inl mn)), (a_mh, .inl (cI, 42, .inl mh_65)), (a_mg, .inl (cI, 56, .inl mg)), (a_mr, .inl (cI, 6, .inl mr)), (a_mx, .inl (cI, 6, .inl mx))] := hD
          refine lv_iinc (v := (x9 + (1 : Int32))) (lv' := [(9, .int (x9 + (1 : Int32))), (8, .int v_62), (10, .int (1 : Int32)), (0, .ref h6), (1, .int x1), (2, .int x2), (3, .int x3), (4, .int x4), (5, .int x5), (6, .int x6), (7, .int x7)]) hx hb dX6_tongues_144 hl (k := 10) rfl rfl (by decide) rfl (fun ls hl => ?_)
          refine lv_goto (tgt := 89) hx hb dX6_tongues_147 (by decide) ?_
          exact ih h hP hD hS (lv_sub hl [3, 4, 5, 6, 7, 8, 9, 10, 1, 0] rfl) hk150
  have L75 : ∀ {K185 : Int32 → (Nat → Int32) → (Nat → Int32) → Prop} (n : Nat) {x1 : Int32} {x2 : Int32} {x3 : Int32} {x4 : Int32} {x5 : Int32} {x6 : Int32} {x7 : Int32} {ms : Nat → Int32} {mh : Nat → Int32} {mg : Nat → Int32} {H : Heap} {locs : List Loc} {ls : Array Slot}, wX6_tongues_L75 x1 x2 x3 mo mg K185 n x5 x7 ms mh → va_P D vwCl [(h6, .inr (6, [.ref a_mt, .int my, .ref a_mo, .ref a_md, .ref a_mb, .ref a_ms, .ref a_mp, .int mk, .ref a_mi, .int mq, .ref a_mn, .int mz, .int ma, .ref a_mh, .ref a_mg, .ref a_mr, .ref a_mx])), (a_mt, .inl (cI, 200, .inl mt)), (a_mo, .inl (cI, 16, .inl mo)), (a_md, .inl (cI, 16, .inl md)), (a_mb, .inl (cI, 56, .inl mb)), (a_ms, .inl (cI, 56, .inl ms)), (a_mp, .inl (cI, 448, .inl mp)), (a_mi, .inl (cI, 112, .inl mi)), (a_mn, .inl (cI, 12, .inl mn)), (a_mh, .inl (cI, 42, .inl mh)), (a_mg, .inl (cI, 56, .inl mg)), (a_mr, .inl (cI, 6, .inl mr)), (a_mx, .inl (cI, 6, .inl mx))] H → va_D A [(h6, .inr (6, [.ref a_mt, .int my, .ref a_mo, .ref a_md, .ref a_mb, .ref a_ms, .ref a_mp, .int mk, .ref a_mi, .int mq, .ref a_mn, .int mz, .int ma, .ref a_mh, .ref a_mg, .ref a_mr, .ref a_mx])), (a_mt, .inl (cI, 200, .inl mt)), (a_mo, .inl (cI, 16, .inl mo)), (a_md, .inl (cI, 16, .inl md)), (a_mb, .inl (cI, 56, .inl mb)), (a_ms, .inl (cI, 56, .inl ms)), (a_mp, .inl (cI, 448, .inl mp)), (a_mi, .inl (cI, 112, .inl mi)), (a_mn, .inl (cI, 12, .inl mn)), (a_mh, .inl (cI, 42, .inl mh)), (a_mg, .inl (cI, 56, .inl mg)), (a_mr, .inl (cI, 6, .inl mr)), (a_mx, .inl (cI, 6, .inl mx))] → va_S A s.heap H locs → lv_has ls 11 [(0, .ref h6), (1, .int x1), (2, .int x2), (3, .int x3), (4, .int x4), (5, .int x5), (6, .int x6), (7, .int x7)] → (∀ (x5 : Int32) (ms : Nat → Int32) (mh : Nat → Int32) (H : Heap) (locs : List Loc) (ls : Array Slot), K185 x5 ms mh → va_P D vwCl [(h6, .inr (6, [.ref a_mt, .int my, .ref a_mo, .ref a_md, .ref a_mb, .ref a_ms, .ref a_mp, .int mk, .ref a_mi, .int mq, .ref a_mn, .int mz, .int ma, .ref a_mh, .ref a_mg, .ref a_mr, .ref a_mx])), (a_mt, .inl (cI, 200, .inl mt)), (a_mo, .inl (cI, 16, .inl mo)), (a_md, .inl (cI, 16, .inl md)), (a_mb, .inl (cI, 56, .inl mb)), (a_ms, .inl (cI, 56, .inl ms)), (a_mp, .inl (cI, 448, .inl mp)), (a_mi, .inl (cI, 112, .inl mi)), (a_mn, .inl (cI, 12, .inl mn)), (a_mh, .inl (cI, 42, .inl mh)), (a_mg, .inl (cI, 56, .inl mg)), (a_mr, .inl (cI, 6, .inl mr)), (a_mx, .inl (cI, 6, .inl mx))] H → va_D A [(h6, .inr (6, [.ref a_mt, .int my, .ref a_mo, .ref a_md, .ref a_mb, .ref a_ms, .ref a_mp, .int mk, .ref a_mi, .int mq, .ref a_mn, .int mz, .int ma, .ref a_mh, .ref a_mg, .ref a_mr, .ref a_mx])), (a_mt, .inl (cI, 200, .inl mt)), (a_mo, .inl (cI, 16, .inl mo)), (a_md, .inl (cI, 16, .inl md)), (a_mb, .inl (cI, 56, .inl mb)), (a_ms, .inl (cI, 56, .inl ms)), (a_mp, .inl (cI, 448, .inl mp)), (a_mi, .inl (cI, 112, .inl mi)), (a_mn, .inl (cI, 12, .inl mn)), (a_mh, .inl (cI, 42, .inl mh)), (a_mg, .inl (cI, 56, .inl mg)), (a_mr, .inl (cI, 6, .inl mr)), (a_mx, .inl (cI, 6, .inl mx))] → va_S A s.heap H locs → lv_has ls 11 [(4, .int x4), (5, .int x5), (6, .int x6)] → W p l e rmX6_tongues s m args below meth c H locs 0 0 Z (F0 m 185 ls [])) → W p l e rmX6_tongues s m args below meth c H locs 0 0 Z (F0 m 75 ls []) := by
    intro K185
    intro n
    induction n with
    | zero =>
      intro x1 x2 x3 x4 x5 x6 x7 ms mh mg H locs ls h hP hD hS hl hk185
      exact (show False from h).elim
    | succ n ih =>
      intro x1 x2 x3 x4 x5 x6 x7 ms mh mg H locs ls h hP hD hS hl hk185
      refine lv_iload hx hb dX6_tongues_75 (lv_at hl 7 rfl) ?_
      refine lv_iconst (v := 1) hx hb dX6_tongues_77 (by decide) ?_
      refine lv_iload_n hx hb dX6_tongues_78 rfl (lv_at hl 2 rfl) ?_
      refine lv_ishl hx hb dX6_tongues_79 ?_
      refine lv_icmp_ge (tgt := 185) hx hb dX6_tongues_80 (by decide) (fun c_47 => ?_) (fun c_47 => ?_)
      · have h := h.1 c_47
        exact hk185 x5 ms mh _ _ _ h hP hD hS (lv_sub hl [4, 5, 6] rfl)
      · have h := h.2 c_47
        refine lv_iconst (v := 1) hx hb dX6_tongues_83 (by decide) ?_
        refine lv_istore (lv' := [(8, .int (1 : Int32)), (0, .ref h6), (1, .int x1), (2, .int x2), (3, .int x3), (4, .int x4), (5, .int x5), (6, .int x6), (7, .int x7)]) hx hb dX6_tongues_84 hl (by decide) rfl (fun ls hl => ?_)
        refine lv_iconst (v := 0) hx hb dX6_tongues_86 (by decide) ?_
        refine lv_istore (lv' := [(9, .int (0 : Int32)), (8, .int (1 : Int32)), (0, .ref h6), (1, .int x1), (2, .int x2), (3, .int x3), (4, .int x4), (5, .int x5), (6, .int x6), (7, .int x7)]) hx hb dX6_tongues_87 hl (by decide) rfl (fun ls hl => ?_)
        obtain ⟨n_74, h⟩ := h
        refine L89 n_74 h hP hD hS (lv_sub hl [2, 3, 4, 5, 6, 7, 8, 9, 1, 0] rfl) (fun x8_66 ms_67 mh_68 H locs ls h hP hD hS hl => ?_)
        refine lv_iload hx hb dX6_tongues_150 (lv_at hl 5 rfl) ?_
        refine lv_aload_n hx hb dX6_tongues_152 rfl (lv_at hl 0 rfl) ?_
        refine va_get (D := D) (ci := 6) (v := .ref a_ms) (C := RX6) (T := TX6) (N := 17) hx hb hts hin6 hown hK.1 hP 0 rfl rfl 5 (by decide) (k_0) (fun _ h9 => h9) rfl dX6_tongues_153 ?_
        refine lv_bipush (v := 8) hx hb dX6_tongues_156 (by decide) ?_
        refine lv_iload_n hx hb dX6_tongues_158 rfl (lv_at hl 1 rfl) ?_
        refine lv_iadd hx hb dX6_tongues_159 ?_
        refine z_iald (k := ((8 : Int32) + x1).toNatClampNeg) hx hb hK.1 hP 5 rfl rfl h.1 dX6_tongues_160 ?_
        have h := h.2
        refine lv_bipush (v := 9) hx hb dX6_tongues_161 (by decide) ?_
        refine lv_icmp_ne (tgt := 171) hx hb dX6_tongues_163 (by decide) (fun c_69 => ?_) (fun c_69 => ?_)
        · have h := h.2 c_69
          refine lv_iconst (v := 0) hx hb dX6_tongues_171 (by decide) ?_
          refine lv_iadd hx hb dX6_tongues_172 ?_
          refine lv_topi (fun v_70 ev_70 => ?_)
          have h := h v_70 ev_70
          refine lv_istore (lv' := [(5, .int v_70), (0, .ref h6), (1, .int x1), (2, .int x2), (3, .int x3), (4, .int x4), (6, .int x6), (7, .int x7), (8, .int x8_66)]) hx hb dX6_tongues_173 hl (by decide) rfl (fun ls hl => ?_)
          refine lv_aload_n hx hb dX6_tongues_175 rfl (lv_at hl 1 rfl) ?_
          refine k0V_v (As := []) (n := 0) ⟨hx, hb, hml, hown, hts⟩ hK hP hD hS hA (c_X6_lets l D cI cC cQ h6 a_mt a_mo a_md a_mb a_ms a_mp a_mi a_mn a_mh a_mg a_mr a_mx mt my mo md mb ms_67 mp mk mi mq mn mz ma mh_68 mg mr mx  _ h) gX6_tongues_X6_lets rfl rfl ⟨rfl, rfl⟩ yoX6_lets ⟨Nat.le_of_ble_eq_true rfl, Nat.le_of_ble_eq_true rfl⟩ (q0 := 0) (ci := 6) rfl rfl rfl rfl hl.1 rfl (Nat.le_of_ble_eq_true rfl) dX6_tongues_176 ⟨Nat.zero_le _, Nat.zero_le _⟩ (fun ms_71 H locs h hP hD hS => ?_)
          have hP : va_P D vwCl [(h6, .inr (6, [.ref a_mt, .int my, .ref a_mo, .ref a_md, .ref a_mb, .ref a_ms, .ref a_mp, .int mk, .ref a_mi, .int mq, .ref a_mn, .int mz, .int ma, .ref a_mh, .ref a_mg, .ref a_mr, .ref a_mx])), (a_mt, .inl (cI, 200, .inl mt)), (a_mo, .inl (cI, 16, .inl mo)), (a_md, .inl (cI, 16, .inl md)), (a_mb, .inl (cI, 56, .inl mb)), (a_ms, .inl (cI, 56, .inl ms_71)), (a_mp, .inl (cI, 448, .inl mp)), (a_mi, .inl (cI, 112, .inl mi)), (a_mn, .inl (cI, 12, .inl mn)), (a_mh, .inl (cI, 42, .inl mh_68)), (a_mg, .inl (cI, 56, .inl mg)), (a_mr, .inl (cI, 6, .inl mr)), (a_mx, .inl (cI, 6, .inl mx))] H := hP
          have hD : va_D A [(h6, .inr (6, [.ref a_mt, .int my, .ref a_mo, .ref a_md, .ref a_mb, .ref a_ms, .ref a_mp, .int mk, .ref a_mi, .int mq, .ref a_mn, .int mz, .int ma, .ref a_mh, .ref a_mg, .ref a_mr, .ref a_mx])), (a_mt, .inl (cI, 200, .inl mt)), (a_mo, .inl (cI, 16, .inl mo)), (a_md, .inl (cI, 16, .inl md)), (a_mb, .inl (cI, 56, .inl mb)), (a_ms, .inl (cI, 56, .inl ms_71)), (a_mp, .inl (cI, 448, .inl mp)), (a_mi, .inl (cI, 112, .inl mi)), (a_mn, .inl (cI, 12, .inl mn)), (a_mh, .inl (cI, 42, .inl mh_68)), (a_mg, .inl (cI, 56, .inl mg)), (a_mr, .inl (cI, 6, .inl mr)), (a_mx, .inl (cI, 6, .inl mx))] := hD
          refine lv_iinc (v := (x7 + (1 : Int32))) (lv' := [(7, .int (x7 + (1 : Int32))), (5, .int v_70), (0, .ref h6), (1, .int x1), (2, .int x2), (3, .int x3), (4, .int x4), (6, .int x6), (8, .int x8_66)]) hx hb dX6_tongues_179 hl (k := 7) rfl rfl (by decide) rfl (fun ls hl => ?_)
          refine lv_goto (tgt := 75) hx hb dX6_tongues_182 (by decide) ?_
          exact ih h hP hD hS (lv_sub hl [2, 3, 4, 5, 6, 1, 7, 0] rfl) hk185
        · have h := h.1 c_69
          refine lv_iload hx hb dX6_tongues_166 (lv_at hl 8 rfl) ?_
          refine lv_goto (tgt := 172) hx hb dX6_tongues_168 (by decide) ?_
          refine lv_iadd hx hb dX6_tongues_172 ?_
          refine lv_topi (fun v_72 ev_72 => ?_)
          have h := h v_72 ev_72
          refine lv_istore (lv' := [(5, .int v_72), (0, .ref h6), (1, .int x1), (2, .int x2), (3, .int x3), (4, .int x4), (6, .int x6), (7, .int x7), (8, .int x8_66)]) hx hb dX6_tongues_173 hl (by decide) rfl (fun ls hl => ?_)
          refine lv_aload_n hx hb dX6_tongues_175 rfl (lv_at hl 1 rfl) ?_
          refine k0V_v (As := []) (n := 0) ⟨hx, hb, hml, hown, hts⟩ hK hP hD hS hA (c_X6_lets l D cI cC cQ h6 a_mt a_mo a_md a_mb a_ms a_mp a_mi a_mn a_mh a_mg a_mr a_mx mt my mo md mb ms_67 mp mk mi mq mn mz ma mh_68 mg mr mx  _ h) gX6_tongues_X6_lets rfl rfl ⟨rfl, rfl⟩ yoX6_lets ⟨Nat.le_of_ble_eq_true rfl, Nat.le_of_ble_eq_true rfl⟩ (q0 := 0) (ci := 6) rfl rfl rfl rfl hl.1 rfl (Nat.le_of_ble_eq_true rfl) dX6_tongues_176 ⟨Nat.zero_le _, Nat.zero_le _⟩ (fun ms_73 H locs h hP hD hS => ?_)
          have hP : va_P D vwCl [(h6, .inr (6, [.ref a_mt, .int my, .ref a_mo, .ref a_md, .ref a_mb, .ref a_ms, .ref a_mp, .int mk, .ref a_mi, .int mq, .ref a_mn, .int mz, .int ma, .ref a_mh, .ref a_mg, .ref a_mr, .ref a_mx])), (a_mt, .inl (cI, 200, .inl mt)), (a_mo, .inl (cI, 16, .inl mo)), (a_md, .inl (cI, 16, .inl md)), (a_mb, .inl (cI, 56, .inl mb)), (a_ms, .inl (cI, 56, .inl ms_73)), (a_mp, .inl (cI, 448, .inl mp)), (a_mi, .inl (cI, 112, .inl mi)), (a_mn, .inl (cI, 12, .inl mn)), (a_mh, .inl (cI, 42, .inl mh_68)), (a_mg, .inl (cI, 56, .inl mg)), (a_mr, .inl (cI, 6, .inl mr)), (a_mx, .inl (cI, 6, .inl mx))] H := hP
          have hD : va_D A [(h6, .inr (6, [.ref a_mt, .int my, .ref a_mo, .ref a_md, .ref a_mb, .ref a_ms, .ref a_mp, .int mk, .ref a_mi, .int mq, .ref a_mn, .int mz, .int ma, .ref a_mh, .ref a_mg, .ref a_mr, .ref a_mx])), (a_mt, .inl (cI, 200, .inl mt)), (a_mo, .inl (cI, 16, .inl mo)), (a_md, .inl (cI, 16, .inl md)), (a_mb, .inl (cI, 56, .inl mb)), (a_ms, .inl (cI, 56, .inl ms_73)), (a_mp, .inl (cI, 448, .inl mp)), (a_mi, .inl (cI, 112, .inl mi)), (a_mn, .inl (cI, 12, .inl mn)), (a_mh, .inl (cI, 42, .inl mh_68)), (a_mg, .inl (cI, 56, .inl mg)), (a_mr, .inl (cI, 6, .inl mr)), (a_mx, .inl (cI, 6, .inl mx))] := hD
          refine lv_iinc (v := (x7 + (1 : Int32))) (lv' := [(7, .int (x7 + (1 : Int32))), (5, .int v_72), (0, .ref h6), (1, .int x1), (2, .int x2), (3, .int x3), (4, .int x4), (6, .int x6), (8, .int x8_66)]) hx hb dX6_tongues_179 hl (k := 7) rfl rfl (by decide) rfl (fun ls hl => ?_)
          refine lv_goto (tgt := 75) hx hb dX6_tongues_182 (by decide) ?_
          exact ih h hP hD hS (lv_sub hl [2, 3, 4, 5, 6, 1, 7, 0] rfl) hk185
  have L193 : ∀ (n : Nat) {x4 : Int32} {x5 : Int32} {x6 : Int32} {x7 : Int32} {x8 : Int32} {ms : Nat → Int32} {mh : Nat → Int32} {mg : Nat → Int32} {H : Heap} {locs : List Loc} {ls : Array Slot}, wX6_tongues_L193 x4 x5 x6 ms mh mg Q n x7 x8 → va_P D vwCl [(h6, .inr (6, [.ref a_mt, .int my, .ref a_mo, .ref a_md, .ref a_mb, .ref a_ms, .ref a_mp, .int mk, .ref a_mi, .int mq, .ref a_mn, .int mz, .int ma, .ref a_mh, .ref a_mg, .ref a_mr, .ref a_mx])), (a_mt, .inl (cI, 200, .inl mt)), (a_mo, .inl (cI, 16, .inl mo)), (a_md, .inl (cI, 16, .inl md)), (a_mb, .inl (cI, 56, .inl mb)), (a_ms, .inl (cI, 56, .inl ms)), (a_mp, .inl (cI, 448, .inl mp)), (a_mi, .inl (cI, 112, .inl mi)), (a_mn, .inl (cI, 12, .inl mn)), (a_mh, .inl (cI, 42, .inl mh)), (a_mg, .inl (cI, 56, .inl mg)), (a_mr, .inl (cI, 6, .inl mr)), (a_mx, .inl (cI, 6, .inl mx))] H → va_D A [(h6, .inr (6, [.ref a_mt, .int my, .ref a_mo, .ref a_md, .ref a_mb, .ref a_ms, .ref a_mp, .int mk, .ref a_mi, .int mq, .ref a_mn, .int mz, .int ma, .ref a_mh, .ref a_mg, .ref a_mr, .ref a_mx])), (a_mt, .inl (cI, 200, .inl mt)), (a_mo, .inl (cI, 16, .inl mo)), (a_md, .inl (cI, 16, .inl md)), (a_mb, .inl (cI, 56, .inl mb)), (a_ms, .inl (cI, 56, .inl ms)), (a_mp, .inl (cI, 448, .inl mp)), (a_mi, .inl (cI, 112, .inl mi)), (a_mn, .inl (cI, 12, .inl mn)), (a_mh, .inl (cI, 42, .inl mh)), (a_mg, .inl (cI, 56, .inl mg)), (a_mr, .inl (cI, 6, .inl mr)), (a_mx, .inl (cI, 6, .inl mx))] → va_S A s.heap H locs → lv_has ls 11 [(4, .int x4), (5, .int x5), (6, .int x6), (7, .int x7), (8, .int x8)] → W p l e rmX6_tongues s m args below meth c H locs 0 0 Z (F0 m 193 ls []) := by
    intro n
    induction n with
    | zero =>
      intro x4 x5 x6 x7 x8 ms mh mg H locs ls h hP hD hS hl
      exact (show False from h).elim
    | succ n ih =>
      intro x4 x5 x6 x7 x8 ms mh mg H locs ls h hP hD hS hl
      refine lv_iload hx hb dX6_tongues_193 (lv_at hl 4 rfl) ?_
      refine lv_if_le (tgt := 216) hx hb dX6_tongues_195 (by decide) (fun c_81 => ?_) (fun c_81 => ?_)
      · have h := h.1 c_81
        refine lv_iload hx hb dX6_tongues_216 (lv_at hl 0 rfl) ?_
        refine lv_if_ne (tgt := 229) hx hb dX6_tongues_218 (by decide) (fun c_82 => ?_) (fun c_82 => ?_)
        · have h := h.2 c_82
          refine lv_iload hx hb dX6_tongues_229 (lv_at hl 2 rfl) ?_
          refine lv_iload hx hb dX6_tongues_231 (lv_at hl 3 rfl) ?_
          refine lv_idiv hx hb dX6_tongues_233 h.1 ?_
          have h := h.2
          exact hret (x6 / x7) (ms, mh, mg) _ _ _ ls h hP hD hS dX6_tongues_234
        · have h := h.1 c_82
          refine lv_iload hx hb dX6_tongues_221 (lv_at hl 1 rfl) ?_
          refine lv_iload hx hb dX6_tongues_223 (lv_at hl 3 rfl) ?_
          refine lv_idiv hx hb dX6_tongues_225 h.1 ?_
          have h := h.2
          refine lv_goto (tgt := 234) hx hb dX6_tongues_226 (by decide) ?_
          exact hret (x5 / x7) (ms, mh, mg) _ _ _ ls h hP hD hS dX6_tongues_234
      · have h := h.2 c_81
        refine lv_iload hx hb dX6_tongues_198 (lv_at hl 3 rfl) ?_
        refine lv_iload hx hb dX6_tongues_200 (lv_at hl 4 rfl) ?_
        refine lv_irem hx hb dX6_tongues_202 h.1 ?_
        have h := h.2
        refine lv_topi (fun v_83 ev_83 => ?_)
        have h := h v_83 ev_83
        refine lv_istore (lv' := [(9, .int v_83), (4, .int x4), (5, .int x5), (6, .int x6), (7, .int x7), (8, .int x8)]) hx hb dX6_tongues_203 hl (by decide) rfl (fun ls hl => ?_)
        refine lv_iload hx hb dX6_tongues_205 (lv_at hl 5 rfl) ?_
        refine lv_istore (lv' := [(7, .int x8), (9, .int v_83), (4, .int x4), (5, .int x5), (6, .int x6), (8, .int x8)]) hx hb dX6_tongues_207 hl (by decide) rfl (fun ls hl => ?_)
        refine lv_iload hx hb dX6_tongues_209 (lv_at hl 1 rfl) ?_
        refine lv_istore (lv' := [(8, .int v_83), (7, .int x8), (9, .int v_83), (4, .int x4), (5, .int x5), (6, .int x6)]) hx hb dX6_tongues_211 hl (by decide) rfl (fun ls hl => ?_)
        refine lv_goto (tgt := 193) hx hb dX6_tongues_213 (by decide) ?_
        exact ih h hP hD hS (lv_sub hl [3, 4, 5, 1, 0] rfl)
  refine lv_aload_n hx hb dX6_tongues_0 rfl (lv_at hl 0 rfl) ?_
  refine lv_iload_n hx hb dX6_tongues_1 rfl (lv_at hl 1 rfl) ?_
  refine k0V_i (As := [.int x1]) (n := 1) ⟨hx, hb, hml, hown, hts⟩ hK hP hD hS hA (c_X6_isNews l D cI cC cQ h6 a_mt a_mo a_md a_mb a_ms a_mp a_mi a_mn a_mh a_mg a_mr a_mx mt my mo md mb ms mp mk mi mq mn mz ma mh mg mr mx x1 _ h) gX6_tongues_X6_isNews rfl rfl ⟨rfl, rfl⟩ yoX6_isNews ⟨Nat.le_of_ble_eq_true rfl, Nat.le_of_ble_eq_true rfl⟩ (q0 := 0) (ci := 6) rfl rfl rfl rfl hl.1 rfl (Nat.le_of_ble_eq_true rfl) dX6_tongues_2 ⟨Nat.zero_le _, Nat.zero_le _⟩ (fun r_1 u H locs h hP hD hS => ?_)
  obtain ⟨b_2, h⟩ := h
  refine lv_if_eq (tgt := 38) hx hb dX6_tongues_5 (by decide) (fun c_3 => ?_) (fun c_3 => ?_)
  · have h := h.1 c_3
    refine lv_iconst (v := -1) hx hb dX6_tongues_38 (by decide) ?_
    exact hret (-1 : Int32) (ms, mh, mg) _ _ _ ls h hP hD hS dX6_tongues_39
  · have h := h.2 c_3
    refine lv_iload_n hx hb dX6_tongues_8 rfl (lv_at hl 2 rfl) ?_
    refine lv_iconst (v := 0) hx hb dX6_tongues_9 (by decide) ?_
    refine lv_bipush (v := 8) hx hb dX6_tongues_10 (by decide) ?_
    refine kS_i (wr := [(h6, .inr (6, [.ref a_mt, .int my, .ref a_mo, .ref a_md, .ref a_mb, .ref a_ms, .ref a_mp, .int mk, .ref a_mi, .int mq, .ref a_mn, .int mz, .int ma, .ref a_mh, .ref a_mg, .ref a_mr, .ref a_mx])), (a_mt, .inl (cI, 200, .inl mt)), (a_mo, .inl (cI, 16, .inl mo)), (a_md, .inl (cI, 16, .inl md)), (a_mb, .inl (cI, 56, .inl mb)), (a_ms, .inl (cI, 56, .inl ms)), (a_mp, .inl (cI, 448, .inl mp)), (a_mi, .inl (cI, 112, .inl mi)), (a_mn, .inl (cI, 12, .inl mn)), (a_mh, .inl (cI, 42, .inl mh)), (a_mg, .inl (cI, 56, .inl mg)), (a_mr, .inl (cI, 6, .inl mr)), (a_mx, .inl (cI, 6, .inl mx))]) (As := [.int x2, .int (0 : Int32), .int (8 : Int32)]) (n := 3) ⟨hx, hb, hml, hown, hts⟩ hK hP hD hS hA (c_X6_in l D cI cC cQ   x2 (0 : Int32) (8 : Int32) _ h) gX6_tongues_X6_in rfl ⟨rfl, rfl⟩ yoX6_in ⟨Nat.le_of_ble_eq_true rfl, Nat.le_of_ble_eq_true rfl⟩ rfl hl.1 rfl (Nat.le_of_ble_eq_true rfl) dX6_tongues_12 ⟨Nat.zero_le _, Nat.zero_le _⟩ [] [0, 1, 2, 3, 4, 5, 6, 7, 8, 9, 10, 11, 12] rfl (by decide) rfl (by decide) (by decide) (fun r_4 u H locs h hP hD hS => ?_)
    have hP : va_P D vwCl [(h6, .inr (6, [.ref a_mt, .int my, .ref a_mo, .ref a_md, .ref a_mb, .ref a_ms, .ref a_mp, .int mk, .ref a_mi, .int mq, .ref a_mn, .int mz, .int ma, .ref a_mh, .ref a_mg, .ref a_mr, .ref a_mx])), (a_mt, .inl (cI, 200, .inl mt)), (a_mo, .inl (cI, 16, .inl mo)), (a_md, .inl (cI, 16, .inl md)), (a_mb, .inl (cI, 56, .inl mb)), (a_ms, .inl (cI, 56, .inl ms)), (a_mp, .inl (cI, 448, .inl mp)), (a_mi, .inl (cI, 112, .inl mi)), (a_mn, .inl (cI, 12, .inl mn)), (a_mh, .inl (cI, 42, .inl mh)), (a_mg, .inl (cI, 56, .inl mg)), (a_mr, .inl (cI, 6, .inl mr)), (a_mx, .inl (cI, 6, .inl mx))] H := hP
    have hD : va_D A [(h6, .inr (6, [.ref a_mt, .int my, .ref a_mo, .ref a_md, .ref a_mb, .ref a_ms, .ref a_mp, .int mk, .ref a_mi, .int mq, .ref a_mn, .int mz, .int ma, .ref a_mh, .ref a_mg, .ref a_mr, .ref a_mx])), (a_mt, .inl (cI, 200, .inl mt)), (a_mo, .inl (cI, 16, .inl mo)), (a_md, .inl (cI, 16, .inl md)), (a_mb, .inl (cI, 56, .inl mb)), (a_ms, .inl (cI, 56, .inl ms)), (a_mp, .inl (cI, 448, .inl mp)), (a_mi, .inl (cI, 112, .inl mi)), (a_mn, .inl (cI, 12, .inl mn)), (a_mh, .inl (cI, 42, .inl mh)), (a_mg, .inl (cI, 56, .inl mg)), (a_mr, .inl (cI, 6, .inl mr)), (a_mx, .inl (cI, 6, .inl mx))] := hD
    obtain ⟨b_5, h⟩ := h
    refine lv_if_eq (tgt := 38) hx hb dX6_tongues_15 (by decide) (fun c_6 => ?_) (fun c_6 => ?_)
    · have h := h.1 c_6
      refine lv_iconst (v := -1) hx hb dX6_tongues_38 (by decide) ?_
      exact hret (-1 : Int32) (ms, mh, mg) _ _ _ ls h hP hD hS dX6_tongues_39
    · have h := h.2 c_6
      refine lv_iload_n hx hb dX6_tongues_18 rfl (lv_at hl 3 rfl) ?_
      refine lv_iconst (v := 0) hx hb dX6_tongues_19 (by decide) ?_
      refine lv_bipush (v := 10) hx hb dX6_tongues_20 (by decide) ?_
      refine kS_i (wr := [(h6, .inr (6, [.ref a_mt, .int my, .ref a_mo, .ref a_md, .ref a_mb, .ref a_ms, .ref a_mp, .int mk, .ref a_mi, .int mq, .ref a_mn, .int mz, .int ma, .ref a_mh, .ref a_mg, .ref a_mr, .ref a_mx])), (a_mt, .inl (cI, 200, .inl mt)), (a_mo, .inl (cI, 16, .inl mo)), (a_md, .inl (cI, 16, .inl md)), (a_mb, .inl (cI, 56, .inl mb)), (a_ms, .inl (cI, 56, .inl ms)), (a_mp, .inl (cI, 448, .inl mp)), (a_mi, .inl (cI, 112, .inl mi)), (a_mn, .inl (cI, 12, .inl mn)), (a_mh, .inl (cI, 42, .inl mh)), (a_mg, .inl (cI, 56, .inl mg)), (a_mr, .inl (cI, 6, .inl mr)), (a_mx, .inl (cI, 6, .inl mx))]) (As := [.int x3, .int (0 : Int32), .int (10 : Int32)]) (n := 3) ⟨hx, hb, hml, hown, hts⟩ hK hP hD hS hA (c_X6_in l D cI cC cQ   x3 (0 : Int32) (10 : Int32) _ h) gX6_tongues_X6_in rfl ⟨rfl, rfl⟩ yoX6_in ⟨Nat.le_of_ble_eq_true rfl, Nat.le_of_ble_eq_true rfl⟩ rfl hl.1 rfl (Nat.le_of_ble_eq_true rfl) dX6_tongues_22 ⟨Nat.zero_le _, Nat.zero_le _⟩ [] [0, 1, 2, 3, 4, 5, 6, 7, 8, 9, 10, 11, 12] rfl (by decide) rfl (by decide) (by decide) (fun r_7 u H locs h hP hD hS => ?_)
      have hP : va_P D vwCl [(h6, .inr (6, [.ref a_mt, .int my, .ref a_mo, .ref a_md, .ref a_mb, .ref a_ms, .ref a_mp, .int mk, .ref a_mi, .int mq, .ref a_mn, .int mz, .int ma, .ref a_mh, .ref a_mg, .ref a_mr, .ref a_mx])), (a_mt, .inl (cI, 200, .inl mt)), (a_mo, .inl (cI, 16, .inl mo)), (a_md, .inl (cI, 16, .inl md)), (a_mb, .inl (cI, 56, .inl mb)), (a_ms, .inl (cI, 56, .inl ms)), (a_mp, .inl (cI, 448, .inl mp)), (a_mi, .inl (cI, 112, .inl mi)), (a_mn, .inl (cI, 12, .inl mn)), (a_mh, .inl (cI, 42, .inl mh)), (a_mg, .inl (cI, 56, .inl mg)), (a_mr, .inl (cI, 6, .inl mr)), (a_mx, .inl (cI, 6, .inl mx))] H := hP
      have hD : va_D A [(h6, .inr (6, [.ref a_mt, .int my, .ref a_mo, .ref a_md, .ref a_mb, .ref a_ms, .ref a_mp, .int mk, .ref a_mi, .int mq, .ref a_mn, .int mz, .int ma, .ref a_mh, .ref a_mg, .ref a_mr, .ref a_mx])), (a_mt, .inl (cI, 200, .inl mt)), (a_mo, .inl (cI, 16, .inl mo)), (a_md, .inl (cI, 16, .inl md)), (a_mb, .inl (cI, 56, .inl mb)), (a_ms, .inl (cI, 56, .inl ms)), (a_mp, .inl (cI, 448, .inl mp)), (a_mi, .inl (cI, 112, .inl mi)), (a_mn, .inl (cI, 12, .inl mn)), (a_mh, .inl (cI, 42, .inl mh)), (a_mg, .inl (cI, 56, .inl mg)), (a_mr, .inl (cI, 6, .inl mr)), (a_mx, .inl (cI, 6, .inl mx))] := hD
      obtain ⟨b_8, h⟩ := h
      refine lv_if_eq (tgt := 38) hx hb dX6_tongues_25 (by decide) (fun c_9 => ?_) (fun c_9 => ?_)
      · have h := h.1 c_9
        refine lv_iconst (v := -1) hx hb dX6_tongues_38 (by decide) ?_
        exact hret (-1 : Int32) (ms, mh, mg) _ _ _ ls h hP hD hS dX6_tongues_39
      · have h := h.2 c_9
        refine lv_iload hx hb dX6_tongues_28 (lv_at hl 4 rfl) ?_
        refine lv_iconst (v := 0) hx hb dX6_tongues_30 (by decide) ?_
        refine lv_iconst (v := 1) hx hb dX6_tongues_31 (by decide) ?_
        refine kS_i (wr := [(h6, .inr (6, [.ref a_mt, .int my, .ref a_mo, .ref a_md, .ref a_mb, .ref a_ms, .ref a_mp, .int mk, .ref a_mi, .int mq, .ref a_mn, .int mz, .int ma, .ref a_mh, .ref a_mg, .ref a_mr, .ref a_mx])), (a_mt, .inl (cI, 200, .inl mt)), (a_mo, .inl (cI, 16, .inl mo)), (a_md, .inl (cI, 16, .inl md)), (a_mb, .inl (cI, 56, .inl mb)), (a_ms, .inl (cI, 56, .inl ms)), (a_mp, .inl (cI, 448, .inl mp)), (a_mi, .inl (cI, 112, .inl mi)), (a_mn, .inl (cI, 12, .inl mn)), (a_mh, .inl (cI, 42, .inl mh)), (a_mg, .inl (cI, 56, .inl mg)), (a_mr, .inl (cI, 6, .inl mr)), (a_mx, .inl (cI, 6, .inl mx))]) (As := [.int x4, .int (0 : Int32), .int (1 : Int32)]) (n := 3) ⟨hx, hb, hml, hown, hts⟩ hK hP hD hS hA (c_X6_in l D cI cC cQ   x4 (0 : Int32) (1 : Int32) _ h) gX6_tongues_X6_in rfl ⟨rfl, rfl⟩ yoX6_in ⟨Nat.le_of_ble_eq_true rfl, Nat.le_of_ble_eq_true rfl⟩ rfl hl.1 rfl (Nat.le_of_ble_eq_true rfl) dX6_tongues_32 ⟨Nat.zero_le _, Nat.zero_le _⟩ [] [0, 1, 2, 3, 4, 5, 6, 7, 8, 9, 10, 11, 12] rfl (by decide) rfl (by decide) (by decide) (fun r_10 u H locs h hP hD hS => ?_)
        have hP : va_P D vwCl [(h6, .inr (6, [.ref a_mt, .int my, .ref a_mo, .ref a_md, .ref a_mb, .ref a_ms, .ref a_mp, .int mk, .ref a_mi, .int mq, .ref a_mn, .int mz, .int ma, .ref a_mh, .ref a_mg, .ref a_mr, .ref a_mx])), (a_mt, .inl (cI, 200, .inl mt)), (a_mo, .inl (cI, 16, .inl mo)), (a_md, .inl (cI, 16, .inl md)), (a_mb, .inl (cI, 56, .inl mb)), (a_ms, .inl (cI, 56, .inl ms)), (a_mp, .inl (cI, 448, .inl mp)), (a_mi, .inl (cI, 112, .inl mi)), (a_mn, .inl (cI, 12, .inl mn)), (a_mh, .inl (cI, 42, .inl mh)), (a_mg, .inl (cI, 56, .inl mg)), (a_mr, .inl (cI, 6, .inl mr)), (a_mx, .inl (cI, 6, .inl mx))] H := hP
        have hD : va_D A [(h6, .inr (6, [.ref a_mt, .int my, .ref a_mo, .ref a_md, .ref a_mb, .ref a_ms, .ref a_mp, .int mk, .ref a_mi, .int mq, .ref a_mn, .int mz, .int ma, .ref a_mh, .ref a_mg, .ref a_mr, .ref a_mx])), (a_mt, .inl (cI, 200, .inl mt)), (a_mo, .inl (cI, 16, .inl mo)), (a_md, .inl (cI, 16, .inl md)), (a_mb, .inl (cI, 56, .inl mb)), (a_ms, .inl (cI, 56, .inl ms)), (a_mp, .inl (cI, 448, .inl mp)), (a_mi, .inl (cI, 112, .inl mi)), (a_mn, .inl (cI, 12, .inl mn)), (a_mh, .inl (cI, 42, .inl mh)), (a_mg, .inl (cI, 56, .inl mg)), (a_mr, .inl (cI, 6, .inl mr)), (a_mx, .inl (cI, 6, .inl mx))] := hD
        obtain ⟨b_11, h⟩ := h
        refine lv_if_ne (tgt := 40) hx hb dX6_tongues_35 (by decide) (fun c_12 => ?_) (fun c_12 => ?_)
        · have h := h.2 c_12
          refine lv_aload_n hx hb dX6_tongues_40 rfl (lv_at hl 0 rfl) ?_
          refine k0V_v (As := []) (n := 0) ⟨hx, hb, hml, hown, hts⟩ hK hP hD hS hA (c_X6_holds l D cI cC cQ h6 a_mt a_mo a_md a_mb a_ms a_mp a_mi a_mn a_mh a_mg a_mr a_mx mt my mo md mb ms mp mk mi mq mn mz ma mh mg mr mx  _ h) gX6_tongues_X6_holds rfl rfl ⟨rfl, rfl⟩ yoX6_holds ⟨Nat.le_of_ble_eq_true rfl, Nat.le_of_ble_eq_true rfl⟩ (q0 := 0) (ci := 6) rfl rfl rfl rfl hl.1 rfl (Nat.le_of_ble_eq_true rfl) dX6_tongues_41 ⟨Nat.zero_le _, Nat.zero_le _⟩ (fun mg_13 H locs h hP hD hS => ?_)
          have hP : va_P D vwCl [(h6, .inr (6, [.ref a_mt, .int my, .ref a_mo, .ref a_md, .ref a_mb, .ref a_ms, .ref a_mp, .int mk, .ref a_mi, .int mq, .ref a_mn, .int mz, .int ma, .ref a_mh, .ref a_mg, .ref a_mr, .ref a_mx])), (a_mt, .inl (cI, 200, .inl mt)), (a_mo, .inl (cI, 16, .inl mo)), (a_md, .inl (cI, 16, .inl md)), (a_mb, .inl (cI, 56, .inl mb)), (a_ms, .inl (cI, 56, .inl ms)), (a_mp, .inl (cI, 448, .inl mp)), (a_mi, .inl (cI, 112, .inl mi)), (a_mn, .inl (cI, 12, .inl mn)), (a_mh, .inl (cI, 42, .inl mh)), (a_mg, .inl (cI, 56, .inl mg_13)), (a_mr, .inl (cI, 6, .inl mr)), (a_mx, .inl (cI, 6, .inl mx))] H := hP
          have hD : va_D A [(h6, .inr (6, [.ref a_mt, .int my, .ref a_mo, .ref a_md, .ref a_mb, .ref a_ms, .ref a_mp, .int mk, .ref a_mi, .int mq, .ref a_mn, .int mz, .int ma, .ref a_mh, .ref a_mg, .ref a_mr, .ref a_mx])), (a_mt, .inl (cI, 200, .inl mt)), (a_mo, .inl (cI, 16, .inl mo)), (a_md, .inl (cI, 16, .inl md)), (a_mb, .inl (cI, 56, .inl mb)), (a_ms, .inl (cI, 56, .inl ms)), (a_mp, .inl (cI, 448, .inl mp)), (a_mi, .inl (cI, 112, .inl mi)), (a_mn, .inl (cI, 12, .inl mn)), (a_mh, .inl (cI, 42, .inl mh)), (a_mg, .inl (cI, 56, .inl mg_13)), (a_mr, .inl (cI, 6, .inl mr)), (a_mx, .inl (cI, 6, .inl mx))] := hD
          refine lv_iconst (v := 0) hx hb dX6_tongues_44 (by decide) ?_
          refine lv_istore (lv' := [(5, .int (0 : Int32)), (0, .ref h6), (1, .int x1), (2, .int x2), (3, .int x3), (4, .int x4)]) hx hb dX6_tongues_45 hl (by decide) rfl (fun ls hl => ?_)
          refine lv_iconst (v := 1) hx hb dX6_tongues_47 (by decide) ?_
          refine lv_istore (lv' := [(6, .int (1 : Int32)), (5, .int (0 : Int32)), (0, .ref h6), (1, .int x1), (2, .int x2), (3, .int x3), (4, .int x4)]) hx hb dX6_tongues_48 hl (by decide) rfl (fun ls hl => ?_)
          refine lv_iconst (v := 0) hx hb dX6_tongues_50 (by decide) ?_
          refine lv_istore (lv' := [(7, .int (0 : Int32)), (6, .int (1 : Int32)), (5, .int (0 : Int32)), (0, .ref h6), (1, .int x1), (2, .int x2), (3, .int x3), (4, .int x4)]) hx hb dX6_tongues_51 hl (by decide) rfl (fun ls hl => ?_)
          obtain ⟨n_86, h⟩ := h
          refine L53 n_86 h hP hD hS (lv_sub hl [3, 4, 5, 6, 7, 2, 1, 0] rfl) (fun x6_18 H locs ls h hP hD hS hl => ?_)
          refine lv_iconst (v := 0) hx hb dX6_tongues_72 (by decide) ?_
          refine lv_istore (lv' := [(7, .int (0 : Int32)), (0, .ref h6), (1, .int x1), (2, .int x2), (3, .int x3), (4, .int x4), (5, .int (0 : Int32)), (6, .int x6_18)]) hx hb dX6_tongues_73 hl (by decide) rfl (fun ls hl => ?_)
          obtain ⟨n_85, h⟩ := h
          refine L75 n_85 h hP hD hS (lv_sub hl [1, 2, 3, 4, 5, 6, 7, 0] rfl) (fun x5_75 ms_76 mh_77 H locs ls h hP hD hS hl => ?_)
          refine lv_iload hx hb dX6_tongues_185 (lv_at hl 1 rfl) ?_
          refine lv_istore (lv' := [(7, .int x5_75), (4, .int x4), (5, .int x5_75), (6, .int x6_18)]) hx hb dX6_tongues_187 hl (by decide) rfl (fun ls hl => ?_)
          refine lv_iload hx hb dX6_tongues_189 (lv_at hl 3 rfl) ?_
          refine lv_istore (lv' := [(8, .int x6_18), (7, .int x5_75), (4, .int x4), (5, .int x5_75), (6, .int x6_18)]) hx hb dX6_tongues_191 hl (by decide) rfl (fun ls hl => ?_)
          obtain ⟨n_84, h⟩ := h
          exact L193 n_84 h hP hD hS (lv_sub hl [2, 3, 4, 1, 0] rfl)
        · have h := h.1 c_12
          refine lv_iconst (v := -1) hx hb dX6_tongues_38 (by decide) ?_
          exact hret (-1 : Int32) (ms, mh, mg) _ _ _ ls h hP hD hS dX6_tongues_39

/-! DoubtCourtModel.turn -/
abbrev rmX6_turn : Room := { frames := 1, cells := 0, slots := 0, locals := 23 }
theorem yoX6_turn : yX6_turn.cls ≠ "java/lang/invoke/MethodHandle" ∧ yX6_turn.cls ≠ "java/lang/invoke/VarHandle" ∧ (parseMethodDescriptor yX6_turn.desc).map (fun d => d.parameters.length) = some 1 := by decide +kernel
set_option maxHeartbeats 4000000 in
set_option maxRecDepth 100000 in
theorem c_X6_turn (l : Launch) (D : va_G) (cI cC cQ : ClassId) (h6 : Nat) (a_mt : Nat) (a_mo : Nat) (a_md : Nat) (a_mb : Nat) (a_ms : Nat) (a_mp : Nat) (a_mi : Nat) (a_mn : Nat) (a_mh : Nat) (a_mg : Nat) (a_mr : Nat) (a_mx : Nat) (mt : Nat → Int32) (my : Int32) (mo : Nat → Int32) (md : Nat → Int32) (mb : Nat → Int32) (ms : Nat → Int32) (mp : Nat → Int32) (mk : Int32) (mi : Nat → Int32) (mq : Int32) (mn : Nat → Int32) (mz : Int32) (ma : Int32) (mh : Nat → Int32) (mg : Nat → Int32) (mr : Nat → Int32) (mx : Nat → Int32) (x1 : Int32) (Q : (Nat → Int32) → Prop) (h : wX6_turn x1 mo ms Q) : Cv (S := (Nat → Int32)) l D cI cC cQ yX6_turn wsX6_turn rmX6_turn [.ref h6, .int x1] [(h6, .inr (6, [.ref a_mt, .int my, .ref a_mo, .ref a_md, .ref a_mb, .ref a_ms, .ref a_mp, .int mk, .ref a_mi, .int mq, .ref a_mn, .int mz, .int ma, .ref a_mh, .ref a_mg, .ref a_mr, .ref a_mx])), (a_mt, .inl (cI, 200, .inl mt)), (a_mo, .inl (cI, 16, .inl mo)), (a_md, .inl (cI, 16, .inl md)), (a_mb, .inl (cI, 56, .inl mb)), (a_ms, .inl (cI, 56, .inl ms)), (a_mp, .inl (cI, 448, .inl mp)), (a_mi, .inl (cI, 112, .inl mi)), (a_mn, .inl (cI, 12, .inl mn)), (a_mh, .inl (cI, 42, .inl mh)), (a_mg, .inl (cI, 56, .inl mg)), (a_mr, .inl (cI, 6, .inl mr)), (a_mx, .inl (cI, 6, .inl mx))] (fun u => [(h6, .inr (6, [.ref a_mt, .int my, .ref a_mo, .ref a_md, .ref a_mb, .ref a_ms, .ref a_mp, .int mk, .ref a_mi, .int mq, .ref a_mn, .int mz, .int ma, .ref a_mh, .ref a_mg, .ref a_mr, .ref a_mx])), (a_mt, .inl (cI, 200, .inl mt)), (a_mo, .inl (cI, 16, .inl mo)), (a_md, .inl (cI, 16, .inl md)), (a_mb, .inl (cI, 56, .inl mb)), (a_ms, .inl (cI, 56, .inl u)), (a_mp, .inl (cI, 448, .inl mp)), (a_mi, .inl (cI, 112, .inl mi)), (a_mn, .inl (cI, 12, .inl mn)), (a_mh, .inl (cI, 42, .inl mh)), (a_mg, .inl (cI, 56, .inl mg)), (a_mr, .inl (cI, 6, .inl mr)), (a_mx, .inl (cI, 6, .inl mx))]) (fun u => Q u) := by
  refine Cv_mk (cc := cX6_turn) (maxL := 7) (by decide) rfl (Nat.le_of_ble_eq_true rfl) ?_
  intro p e s m args below meth c A Z ls hx hb hml hown hts hK hA hP hD hret hl
  have hS : va_S A s.heap s.heap [] := va_S.rf
  have hin6 : ∀ w ∈ u_ws RX6 TX6 17, w ∈ wsX6_turn := by decide +kernel
  have k_0 := hts (.fieldLink RX6 13 "DoubtCourtModel" "told" "[I") (by decide +kernel)
  have k_1 := hts (.fieldLink RX6 22 "DoubtCourtModel" "s" "[I") (by decide +kernel)
  have hl : lv_has ls 7 [(0, .ref h6), (1, .int x1)] := hl
  refine lv_iload_n hx hb dX6_turn_0 rfl (lv_at hl 1 rfl) ?_
  refine lv_bipush (v := 8) hx hb dX6_turn_1 (by decide) ?_
  refine lv_irem hx hb dX6_turn_3 (by decide) ?_
  refine lv_topi (fun v_1 ev_1 => ?_)
  have h := h v_1 ev_1
  refine lv_istore_n (lv' := [(2, .int v_1), (0, .ref h6), (1, .int x1)]) hx hb dX6_turn_4 rfl hl (by decide) rfl (fun ls hl => ?_)
  refine lv_iload_n hx hb dX6_turn_5 rfl (lv_at hl 2 rfl) ?_
  refine lv_bipush (v := 8) hx hb dX6_turn_6 (by decide) ?_
  refine lv_idiv hx hb dX6_turn_8 (by decide) ?_
  refine lv_aload_n hx hb dX6_turn_9 rfl (lv_at hl 1 rfl) ?_
  refine va_get (D := D) (ci := 6) (v := .ref a_mo) (C := RX6) (T := TX6) (N := 17) hx hb hts hin6 hown hK.1 hP 0 rfl rfl 2 (by decide) (k_0) (fun _ h9 => h9) rfl dX6_turn_10 ?_
  refine lv_iconst (v := 0) hx hb dX6_turn_13 (by decide) ?_
  refine z_iald (k := 0) hx hb hK.1 hP 2 rfl (by decide) vi_0_16 dX6_turn_14 ?_
  refine lv_irem hx hb dX6_turn_15 h.1 ?_
  have h := h.2
  refine lv_topi (fun v_2 ev_2 => ?_)
  have h := h v_2 ev_2
  refine lv_istore_n (lv' := [(3, .int v_2), (2, .int v_1), (0, .ref h6), (1, .int x1)]) hx hb dX6_turn_16 rfl hl (by decide) rfl (fun ls hl => ?_)
  refine lv_iload_n hx hb dX6_turn_17 rfl (lv_at hl 3 rfl) ?_
  refine lv_bipush (v := 64) hx hb dX6_turn_18 (by decide) ?_
  refine lv_idiv hx hb dX6_turn_20 (by decide) ?_
  refine lv_aload_n hx hb dX6_turn_21 rfl (lv_at hl 2 rfl) ?_
  refine va_get (D := D) (ci := 6) (v := .ref a_mo) (C := RX6) (T := TX6) (N := 17) hx hb hts hin6 hown hK.1 hP 0 rfl rfl 2 (by decide) (k_0) (fun _ h9 => h9) rfl dX6_turn_22 ?_
  refine lv_iconst (v := 1) hx hb dX6_turn_25 (by decide) ?_
  refine z_iald (k := 1) hx hb hK.1 hP 2 rfl (by decide) vi_1_16 dX6_turn_26 ?_
  refine lv_irem hx hb dX6_turn_27 h.1 ?_
  have h := h.2
  refine lv_topi (fun v_3 ev_3 => ?_)
  have h := h v_3 ev_3
  refine lv_istore (lv' := [(4, .int v_3), (3, .int v_2), (2, .int v_1), (0, .ref h6), (1, .int x1)]) hx hb dX6_turn_28 hl (by decide) rfl (fun ls hl => ?_)
  refine lv_iload_n hx hb dX6_turn_30 rfl (lv_at hl 4 rfl) ?_
  refine lv_bipush (v := 64) hx hb dX6_turn_31 (by decide) ?_
  refine lv_idiv hx hb dX6_turn_33 (by decide) ?_
  refine lv_aload_n hx hb dX6_turn_34 rfl (lv_at hl 3 rfl) ?_
  refine va_get (D := D) (ci := 6) (v := .ref a_mo) (C := RX6) (T := TX6) (N := 17) hx hb hts hin6 hown hK.1 hP 0 rfl rfl 2 (by decide) (k_0) (fun _ h9 => h9) rfl dX6_turn_35 ?_
  refine lv_iconst (v := 0) hx hb dX6_turn_38 (by decide) ?_
  refine z_iald (k := 0) hx hb hK.1 hP 2 rfl (by decide) vi_0_16 dX6_turn_39 ?_
  refine lv_irem hx hb dX6_turn_40 h.1 ?_
  have h := h.2
  refine lv_topi (fun v_4 ev_4 => ?_)
  have h := h v_4 ev_4
  refine lv_istore (lv' := [(5, .int v_4), (4, .int v_3), (3, .int v_2), (2, .int v_1), (0, .ref h6), (1, .int x1)]) hx hb dX6_turn_41 hl (by decide) rfl (fun ls hl => ?_)
  refine lv_bipush (v := 14) hx hb dX6_turn_43 (by decide) ?_
  refine lv_bipush (v := 7) hx hb dX6_turn_45 (by decide) ?_
  refine lv_iload hx hb dX6_turn_47 (lv_at hl 1 rfl) ?_
  refine lv_imul hx hb dX6_turn_49 ?_
  refine lv_iadd hx hb dX6_turn_50 ?_
  refine lv_iload_n hx hb dX6_turn_51 rfl (lv_at hl 2 rfl) ?_
  refine lv_iadd hx hb dX6_turn_52 ?_
  refine lv_topi (fun v_5 ev_5 => ?_)
  have h := h v_5 ev_5
  refine lv_istore (lv' := [(6, .int v_5), (5, .int v_4), (4, .int v_3), (3, .int v_2), (2, .int v_1), (0, .ref h6), (1, .int x1)]) hx hb dX6_turn_53 hl (by decide) rfl (fun ls hl => ?_)
  refine lv_iload_n hx hb dX6_turn_55 rfl (lv_at hl 4 rfl) ?_
  refine lv_iconst (v := 2) hx hb dX6_turn_56 (by decide) ?_
  refine lv_icmp_ge (tgt := 91) hx hb dX6_turn_57 (by decide) (fun c_6 => ?_) (fun c_6 => ?_)
  · have h := h.1 c_6
    refine lv_iload_n hx hb dX6_turn_91 rfl (lv_at hl 4 rfl) ?_
    refine lv_iconst (v := 2) hx hb dX6_turn_92 (by decide) ?_
    refine lv_icmp_ne (tgt := 125) hx hb dX6_turn_93 (by decide) (fun c_7 => ?_) (fun c_7 => ?_)
    · have h := h.2 c_7
      refine lv_iload_n hx hb dX6_turn_125 rfl (lv_at hl 4 rfl) ?_
      refine lv_iconst (v := 3) hx hb dX6_turn_126 (by decide) ?_
      refine lv_icmp_ne (tgt := 143) hx hb dX6_turn_127 (by decide) (fun c_8 => ?_) (fun c_8 => ?_)
      · have h := h.2 c_8
        exact hret ms _ _ _ ls h hP hD hS dX6_turn_143
      · have h := h.1 c_8
        refine lv_iload_n hx hb dX6_turn_130 rfl (lv_at hl 3 rfl) ?_
        refine lv_iload hx hb dX6_turn_131 (lv_at hl 1 rfl) ?_
        refine lv_icmp_eq (tgt := 143) hx hb dX6_turn_133 (by decide) (fun c_9 => ?_) (fun c_9 => ?_)
        · have h := h.1 c_9
          exact hret ms _ _ _ ls h hP hD hS dX6_turn_143
        · have h := h.2 c_9
          refine lv_aload_n hx hb dX6_turn_136 rfl (lv_at hl 5 rfl) ?_
          refine lv_iload_n hx hb dX6_turn_137 rfl (lv_at hl 3 rfl) ?_
          refine lv_iload hx hb dX6_turn_138 (lv_at hl 1 rfl) ?_
          refine k0V_v (As := [.int v_2, .int v_4]) (n := 2) ⟨hx, hb, hml, hown, hts⟩ hK hP hD hS hA (c_X6_changes l D cI cC cQ h6 a_mt a_mo a_md a_mb a_ms a_mp a_mi a_mn a_mh a_mg a_mr a_mx mt my mo md mb ms mp mk mi mq mn mz ma mh mg mr mx v_2 v_4 _ h) gX6_turn_X6_changes rfl rfl ⟨rfl, rfl⟩ yoX6_changes ⟨Nat.le_of_ble_eq_true rfl, Nat.le_of_ble_eq_true rfl⟩ (q0 := 0) (ci := 6) rfl rfl rfl rfl hl.1 rfl (Nat.le_of_ble_eq_true rfl) dX6_turn_140 ⟨Nat.zero_le _, Nat.zero_le _⟩ (fun ms_10 H locs h hP hD hS => ?_)
          have hP : va_P D vwCl [(h6, .inr (6, [.ref a_mt, .int my, .ref a_mo, .ref a_md, .ref a_mb, .ref a_ms, .ref a_mp, .int mk, .ref a_mi, .int mq, .ref a_mn, .int mz, .int ma, .ref a_mh, .ref a_mg, .ref a_mr, .ref a_mx])), (a_mt, .inl (cI, 200, .inl mt)), (a_mo, .inl (cI, 16, .inl mo)), (a_md, .inl (cI, 16, .inl md)), (a_mb, .inl (cI, 56, .inl mb)), (a_ms, .inl (cI, 56, .inl ms_10)), (a_mp, .inl (cI, 448, .inl mp)), (a_mi, .inl (cI, 112, .inl mi)), (a_mn, .inl (cI, 12, .inl mn)), (a_mh, .inl (cI, 42, .inl mh)), (a_mg, .inl (cI, 56, .inl mg)), (a_mr, .inl (cI, 6, .inl mr)), (a_mx, .inl (cI, 6, .inl mx))] H := hP
          have hD : va_D A [(h6, .inr (6, [.ref a_mt, .int my, .ref a_mo, .ref a_md, .ref a_mb, .ref a_ms, .ref a_mp, .int mk, .ref a_mi, .int mq, .ref a_mn, .int mz, .int ma, .ref a_mh, .ref a_mg, .ref a_mr, .ref a_mx])), (a_mt, .inl (cI, 200, .inl mt)), (a_mo, .inl (cI, 16, .inl mo)), (a_md, .inl (cI, 16, .inl md)), (a_mb, .inl (cI, 56, .inl mb)), (a_ms, .inl (cI, 56, .inl ms_10)), (a_mp, .inl (cI, 448, .inl mp)), (a_mi, .inl (cI, 112, .inl mi)), (a_mn, .inl (cI, 12, .inl mn)), (a_mh, .inl (cI, 42, .inl mh)), (a_mg, .inl (cI, 56, .inl mg)), (a_mr, .inl (cI, 6, .inl mr)), (a_mx, .inl (cI, 6, .inl mx))] := hD
          exact hret ms_10 _ _ _ ls h hP hD hS dX6_turn_143
    · have h := h.1 c_7
      refine lv_aload_n hx hb dX6_turn_96 rfl (lv_at hl 5 rfl) ?_
      refine va_get (D := D) (ci := 6) (v := .ref a_ms) (C := RX6) (T := TX6) (N := 17) hx hb hts hin6 hown hK.1 hP 0 rfl rfl 5 (by decide) (k_1) (fun _ h9 => h9) rfl dX6_turn_97 ?_
      refine lv_bipush (v := 8) hx hb dX6_turn_100 (by decide) ?_
      refine lv_iload hx hb dX6_turn_102 (lv_at hl 2 rfl) ?_
      refine lv_iadd hx hb dX6_turn_104 ?_
      refine z_iald (k := ((8 : Int32) + v_3).toNatClampNeg) hx hb hK.1 hP 5 rfl rfl h.1 dX6_turn_105 ?_
      have h := h.2
      refine lv_bipush (v := 9) hx hb dX6_turn_106 (by decide) ?_
      refine lv_icmp_eq (tgt := 125) hx hb dX6_turn_108 (by decide) (fun c_11 => ?_) (fun c_11 => ?_)
      · have h := h.1 c_11
        refine lv_iload_n hx hb dX6_turn_125 rfl (lv_at hl 4 rfl) ?_
        refine lv_iconst (v := 3) hx hb dX6_turn_126 (by decide) ?_
        refine lv_icmp_ne (tgt := 143) hx hb dX6_turn_127 (by decide) (fun c_12 => ?_) (fun c_12 => ?_)
        · have h := h.2 c_12
          exact hret ms _ _ _ ls h hP hD hS dX6_turn_143
        · have h := h.1 c_12
          refine lv_iload_n hx hb dX6_turn_130 rfl (lv_at hl 3 rfl) ?_
          refine lv_iload hx hb dX6_turn_131 (lv_at hl 1 rfl) ?_
          refine lv_icmp_eq (tgt := 143) hx hb dX6_turn_133 (by decide) (fun c_13 => ?_) (fun c_13 => ?_)
          · have h := h.1 c_13
            exact hret ms _ _ _ ls h hP hD hS dX6_turn_143
          · have h := h.2 c_13
            refine lv_aload_n hx hb dX6_turn_136 rfl (lv_at hl 5 rfl) ?_
            refine lv_iload_n hx hb dX6_turn_137 rfl (lv_at hl 3 rfl) ?_
            refine lv_iload hx hb dX6_turn_138 (lv_at hl 1 rfl) ?_
            refine k0V_v (As := [.int v_2, .int v_4]) (n := 2) ⟨hx, hb, hml, hown, hts⟩ hK hP hD hS hA (c_X6_changes l D cI cC cQ h6 a_mt a_mo a_md a_mb a_ms a_mp a_mi a_mn a_mh a_mg a_mr a_mx mt my mo md mb ms mp mk mi mq mn mz ma mh mg mr mx v_2 v_4 _ h) gX6_turn_X6_changes rfl rfl ⟨rfl, rfl⟩ yoX6_changes ⟨Nat.le_of_ble_eq_true rfl, Nat.le_of_ble_eq_true rfl⟩ (q0 := 0) (ci := 6) rfl rfl rfl rfl hl.1 rfl (Nat.le_of_ble_eq_true rfl) dX6_turn_140 ⟨Nat.zero_le _, Nat.zero_le _⟩ (fun ms_14 H locs h hP hD hS => ?_)
            have hP : va_P D vwCl [(h6, .inr (6, [.ref a_mt, .int my, .ref a_mo, .ref a_md, .ref a_mb, .ref a_ms, .ref a_mp, .int mk, .ref a_mi, .int mq, .ref a_mn, .int mz, .int ma, .ref a_mh, .ref a_mg, .ref a_mr, .ref a_mx])), (a_mt, .inl (cI, 200, .inl mt)), (a_mo, .inl (cI, 16, .inl mo)), (a_md, .inl (cI, 16, .inl md)), (a_mb, .inl (cI, 56, .inl mb)), (a_ms, .inl (cI, 56, .inl ms_14)), (a_mp, .inl (cI, 448, .inl mp)), (a_mi, .inl (cI, 112, .inl mi)), (a_mn, .inl (cI, 12, .inl mn)), (a_mh, .inl (cI, 42, .inl mh)), (a_mg, .inl (cI, 56, .inl mg)), (a_mr, .inl (cI, 6, .inl mr)), (a_mx, .inl (cI, 6, .inl mx))] H := hP
            have hD : va_D A [(h6, .inr (6, [.ref a_mt, .int my, .ref a_mo, .ref a_md, .ref a_mb, .ref a_ms, .ref a_mp, .int mk, .ref a_mi, .int mq, .ref a_mn, .int mz, .int ma, .ref a_mh, .ref a_mg, .ref a_mr, .ref a_mx])), (a_mt, .inl (cI, 200, .inl mt)), (a_mo, .inl (cI, 16, .inl mo)), (a_md, .inl (cI, 16, .inl md)), (a_mb, .inl (cI, 56, .inl mb)), (a_ms, .inl (cI, 56, .inl ms_14)), (a_mp, .inl (cI, 448, .inl mp)), (a_mi, .inl (cI, 112, .inl mi)), (a_mn, .inl (cI, 12, .inl mn)), (a_mh, .inl (cI, 42, .inl mh)), (a_mg, .inl (cI, 56, .inl mg)), (a_mr, .inl (cI, 6, .inl mr)), (a_mx, .inl (cI, 6, .inl mx))] := hD
            exact hret ms_14 _ _ _ ls h hP hD hS dX6_turn_143
      · have h := h.2 c_11
        refine lv_aload_n hx hb dX6_turn_111 rfl (lv_at hl 5 rfl) ?_
        refine va_get (D := D) (ci := 6) (v := .ref a_ms) (C := RX6) (T := TX6) (N := 17) hx hb hts hin6 hown hK.1 hP 0 rfl rfl 5 (by decide) (k_1) (fun _ h9 => h9) rfl dX6_turn_112 ?_
        refine lv_bipush (v := 8) hx hb dX6_turn_115 (by decide) ?_
        refine lv_iload hx hb dX6_turn_117 (lv_at hl 2 rfl) ?_
        refine lv_iadd hx hb dX6_turn_119 ?_
        refine lv_iload_n hx hb dX6_turn_120 rfl (lv_at hl 3 rfl) ?_
        refine z_iast (k := ((8 : Int32) + v_3).toNatClampNeg) hx hb hK.1 hP hD hS 5 rfl rfl h.1 dX6_turn_121 (fun H locs hP hD hS => ?_)
        have h := h.2
        have hP : va_P D vwCl [(h6, .inr (6, [.ref a_mt, .int my, .ref a_mo, .ref a_md, .ref a_mb, .ref a_ms, .ref a_mp, .int mk, .ref a_mi, .int mq, .ref a_mn, .int mz, .int ma, .ref a_mh, .ref a_mg, .ref a_mr, .ref a_mx])), (a_mt, .inl (cI, 200, .inl mt)), (a_mo, .inl (cI, 16, .inl mo)), (a_md, .inl (cI, 16, .inl md)), (a_mb, .inl (cI, 56, .inl mb)), (a_ms, .inl (cI, 56, .inl (upd ms (((8 : Int32) + v_3).toNatClampNeg) v_2))), (a_mp, .inl (cI, 448, .inl mp)), (a_mi, .inl (cI, 112, .inl mi)), (a_mn, .inl (cI, 12, .inl mn)), (a_mh, .inl (cI, 42, .inl mh)), (a_mg, .inl (cI, 56, .inl mg)), (a_mr, .inl (cI, 6, .inl mr)), (a_mx, .inl (cI, 6, .inl mx))] H := hP
        have hD : va_D A [(h6, .inr (6, [.ref a_mt, .int my, .ref a_mo, .ref a_md, .ref a_mb, .ref a_ms, .ref a_mp, .int mk, .ref a_mi, .int mq, .ref a_mn, .int mz, .int ma, .ref a_mh, .ref a_mg, .ref a_mr, .ref a_mx])), (a_mt, .inl (cI, 200, .inl mt)), (a_mo, .inl (cI, 16, .inl mo)), (a_md, .inl (cI, 16, .inl md)), (a_mb, .inl (cI, 56, .inl mb)), (a_ms, .inl (cI, 56, .inl (upd ms (((8 : Int32) + v_3).toNatClampNeg) v_2))), (a_mp, .inl (cI, 448, .inl mp)), (a_mi, .inl (cI, 112, .inl mi)), (a_mn, .inl (cI, 12, .inl mn)), (a_mh, .inl (cI, 42, .inl mh)), (a_mg, .inl (cI, 56, .inl mg)), (a_mr, .inl (cI, 6, .inl mr)), (a_mx, .inl (cI, 6, .inl mx))] := hD
        refine lv_goto (tgt := 143) hx hb dX6_turn_122 (by decide) ?_
        exact hret (upd ms (((8 : Int32) + v_3).toNatClampNeg) v_2) _ _ _ ls h hP hD hS dX6_turn_143
  · have h := h.2 c_6
    refine lv_aload_n hx hb dX6_turn_60 rfl (lv_at hl 5 rfl) ?_
    refine va_get (D := D) (ci := 6) (v := .ref a_ms) (C := RX6) (T := TX6) (N := 17) hx hb hts hin6 hown hK.1 hP 0 rfl rfl 5 (by decide) (k_1) (fun _ h9 => h9) rfl dX6_turn_61 ?_
    refine lv_iload hx hb dX6_turn_64 (lv_at hl 0 rfl) ?_
    refine lv_aload_n hx hb dX6_turn_66 rfl (lv_at hl 5 rfl) ?_
    refine va_get (D := D) (ci := 6) (v := .ref a_ms) (C := RX6) (T := TX6) (N := 17) hx hb hts hin6 hown hK.1 hP 0 rfl rfl 5 (by decide) (k_1) (fun _ h9 => h9) rfl dX6_turn_67 ?_
    refine lv_iload hx hb dX6_turn_70 (lv_at hl 0 rfl) ?_
    refine z_iald (k := v_5.toNatClampNeg) hx hb hK.1 hP 5 rfl rfl h.1 dX6_turn_72 ?_
    have h := h.2
    refine lv_iload_n hx hb dX6_turn_73 rfl (lv_at hl 4 rfl) ?_
    refine lv_if_ne (tgt := 81) hx hb dX6_turn_74 (by decide) (fun c_15 => ?_) (fun c_15 => ?_)
    · have h := h.2 c_15
      refine lv_bipush (v := -3) hx hb dX6_turn_81 (by decide) ?_
      refine lv_iadd hx hb dX6_turn_83 ?_
      refine kS_i (wr := [(h6, .inr (6, [.ref a_mt, .int my, .ref a_mo, .ref a_md, .ref a_mb, .ref a_ms, .ref a_mp, .int mk, .ref a_mi, .int mq, .ref a_mn, .int mz, .int ma, .ref a_mh, .ref a_mg, .ref a_mr, .ref a_mx])), (a_mt, .inl (cI, 200, .inl mt)), (a_mo, .inl (cI, 16, .inl mo)), (a_md, .inl (cI, 16, .inl md)), (a_mb, .inl (cI, 56, .inl mb)), (a_ms, .inl (cI, 56, .inl ms)), (a_mp, .inl (cI, 448, .inl mp)), (a_mi, .inl (cI, 112, .inl mi)), (a_mn, .inl (cI, 12, .inl mn)), (a_mh, .inl (cI, 42, .inl mh)), (a_mg, .inl (cI, 56, .inl mg)), (a_mr, .inl (cI, 6, .inl mr)), (a_mx, .inl (cI, 6, .inl mx))]) (As := [.int ((ms v_5.toNatClampNeg) + (-3 : Int32))]) (n := 1) ⟨hx, hb, hml, hown, hts⟩ hK hP hD hS hA (c_X6_within l D cI cC cQ   ((ms v_5.toNatClampNeg) + (-3 : Int32)) _ h) gX6_turn_X6_within rfl ⟨rfl, rfl⟩ yoX6_within ⟨Nat.le_of_ble_eq_true rfl, Nat.le_of_ble_eq_true rfl⟩ rfl hl.1 rfl (Nat.le_of_ble_eq_true rfl) dX6_turn_84 ⟨Nat.zero_le _, Nat.zero_le _⟩ [] [0, 1, 2, 3, 4, 5, 6, 7, 8, 9, 10, 11, 12] rfl (by decide) rfl (by decide) (by decide) (fun r_16 u H locs h hP hD hS => ?_)
      have hP : va_P D vwCl [(h6, .inr (6, [.ref a_mt, .int my, .ref a_mo, .ref a_md, .ref a_mb, .ref a_ms, .ref a_mp, .int mk, .ref a_mi, .int mq, .ref a_mn, .int mz, .int ma, .ref a_mh, .ref a_mg, .ref a_mr, .ref a_mx])), (a_mt, .inl (cI, 200, .inl mt)), (a_mo, .inl (cI, 16, .inl mo)), (a_md, .inl (cI, 16, .inl md)), (a_mb, .inl (cI, 56, .inl mb)), (a_ms, .inl (cI, 56, .inl ms)), (a_mp, .inl (cI, 448, .inl mp)), (a_mi, .inl (cI, 112, .inl mi)), (a_mn, .inl (cI, 12, .inl mn)), (a_mh, .inl (cI, 42, .inl mh)), (a_mg, .inl (cI, 56, .inl mg)), (a_mr, .inl (cI, 6, .inl mr)), (a_mx, .inl (cI, 6, .inl mx))] H := hP
      have hD : va_D A [(h6, .inr (6, [.ref a_mt, .int my, .ref a_mo, .ref a_md, .ref a_mb, .ref a_ms, .ref a_mp, .int mk, .ref a_mi, .int mq, .ref a_mn, .int mz, .int ma, .ref a_mh, .ref a_mg, .ref a_mr, .ref a_mx])), (a_mt, .inl (cI, 200, .inl mt)), (a_mo, .inl (cI, 16, .inl mo)), (a_md, .inl (cI, 16, .inl md)), (a_mb, .inl (cI, 56, .inl mb)), (a_ms, .inl (cI, 56, .inl ms)), (a_mp, .inl (cI, 448, .inl mp)), (a_mi, .inl (cI, 112, .inl mi)), (a_mn, .inl (cI, 12, .inl mn)), (a_mh, .inl (cI, 42, .inl mh)), (a_mg, .inl (cI, 56, .inl mg)), (a_mr, .inl (cI, 6, .inl mr)), (a_mx, .inl (cI, 6, .inl mx))] := hD
      refine z_iast (k := v_5.toNatClampNeg) hx hb hK.1 hP hD hS 5 rfl rfl h.1 dX6_turn_87 (fun H locs hP hD hS => ?_)
      have h := h.2
      have hP : va_P D vwCl [(h6, .inr (6, [.ref a_mt, .int my, .ref a_mo, .ref a_md, .ref a_mb, .ref a_ms, .ref a_mp, .int mk, .ref a_mi, .int mq, .ref a_mn, .int mz, .int ma, .ref a_mh, .ref a_mg, .ref a_mr, .ref a_mx])), (a_mt, .inl (cI, 200, .inl mt)), (a_mo, .inl (cI, 16, .inl mo)), (a_md, .inl (cI, 16, .inl md)), (a_mb, .inl (cI, 56, .inl mb)), (a_ms, .inl (cI, 56, .inl (upd ms v_5.toNatClampNeg r_16))), (a_mp, .inl (cI, 448, .inl mp)), (a_mi, .inl (cI, 112, .inl mi)), (a_mn, .inl (cI, 12, .inl mn)), (a_mh, .inl (cI, 42, .inl mh)), (a_mg, .inl (cI, 56, .inl mg)), (a_mr, .inl (cI, 6, .inl mr)), (a_mx, .inl (cI, 6, .inl mx))] H := hP
      have hD : va_D A [(h6, .inr (6, [.ref a_mt, .int my, .ref a_mo, .ref a_md, .ref a_mb, .ref a_ms, .ref a_mp, .int mk, .ref a_mi, .int mq, .ref a_mn, .int mz, .int ma, .ref a_mh, .ref a_mg, .ref a_mr, .ref a_mx])), (a_mt, .inl (cI, 200, .inl mt)), (a_mo, .inl (cI, 16, .inl mo)), (a_md, .inl (cI, 16, .inl md)), (a_mb, .inl (cI, 56, .inl mb)), (a_ms, .inl (cI, 56, .inl (upd ms v_5.toNatClampNeg r_16))), (a_mp, .inl (cI, 448, .inl mp)), (a_mi, .inl (cI, 112, .inl mi)), (a_mn, .inl (cI, 12, .inl mn)), (a_mh, .inl (cI, 42, .inl mh)), (a_mg, .inl (cI, 56, .inl mg)), (a_mr, .inl (cI, 6, .inl mr)), (a_mx, .inl (cI, 6, .inl mx))] := hD
      refine lv_goto (tgt := 143) hx hb dX6_turn_88 (by decide) ?_
      exact hret (upd ms v_5.toNatClampNeg r_16) _ _ _ ls h hP hD hS dX6_turn_143
    · have h := h.1 c_15
      refine lv_iconst (v := 3) hx hb dX6_turn_77 (by decide) ?_
      refine lv_goto (tgt := 83) hx hb dX6_turn_78 (by decide) ?_
      refine lv_iadd hx hb dX6_turn_83 ?_
      refine kS_i (wr := [(h6, .inr (6, [.ref a_mt, .int my, .ref a_mo, .ref a_md, .ref a_mb, .ref a_ms, .ref a_mp, .int mk, .ref a_mi, .int mq, .ref a_mn, .int mz, .int ma, .ref a_mh, .ref a_mg, .ref a_mr, .ref a_mx])), (a_mt, .inl (cI, 200, .inl mt)), (a_mo, .inl (cI, 16, .inl mo)), (a_md, .inl (cI, 16, .inl md)), (a_mb, .inl (cI, 56, .inl mb)), (a_ms, .inl (cI, 56, .inl ms)), (a_mp, .inl (cI, 448, .inl mp)), (a_mi, .inl (cI, 112, .inl mi)), (a_mn, .inl (cI, 12, .inl mn)), (a_mh, .inl (cI, 42, .inl mh)), (a_mg, .inl (cI, 56, .inl mg)), (a_mr, .inl (cI, 6, .inl mr)), (a_mx, .inl (cI, 6, .inl mx))]) (As := [.int ((ms v_5.toNatClampNeg) + (3 : Int32))]) (n := 1) ⟨hx, hb, hml, hown, hts⟩ hK hP hD hS hA (c_X6_within l D cI cC cQ   ((ms v_5.toNatClampNeg) + (3 : Int32)) _ h) gX6_turn_X6_within rfl ⟨rfl, rfl⟩ yoX6_within ⟨Nat.le_of_ble_eq_true rfl, Nat.le_of_ble_eq_true rfl⟩ rfl hl.1 rfl (Nat.le_of_ble_eq_true rfl) dX6_turn_84 ⟨Nat.zero_le _, Nat.zero_le _⟩ [] [0, 1, 2, 3, 4, 5, 6, 7, 8, 9, 10, 11, 12] rfl (by decide) rfl (by decide) (by decide) (fun r_17 u H locs h hP hD hS => ?_)
      have hP : va_P D vwCl [(h6, .inr (6, [.ref a_mt, .int my, .ref a_mo, .ref a_md, .ref a_mb, .ref a_ms, .ref a_mp, .int mk, .ref a_mi, .int mq, .ref a_mn, .int mz, .int ma, .ref a_mh, .ref a_mg, .ref a_mr, .ref a_mx])), (a_mt, .inl (cI, 200, .inl mt)), (a_mo, .inl (cI, 16, .inl mo)), (a_md, .inl (cI, 16, .inl md)), (a_mb, .inl (cI, 56, .inl mb)), (a_ms, .inl (cI, 56, .inl ms)), (a_mp, .inl (cI, 448, .inl mp)), (a_mi, .inl (cI, 112, .inl mi)), (a_mn, .inl (cI, 12, .inl mn)), (a_mh, .inl (cI, 42, .inl mh)), (a_mg, .inl (cI, 56, .inl mg)), (a_mr, .inl (cI, 6, .inl mr)), (a_mx, .inl (cI, 6, .inl mx))] H := hP
      have hD : va_D A [(h6, .inr (6, [.ref a_mt, .int my, .ref a_mo, .ref a_md, .ref a_mb, .ref a_ms, .ref a_mp, .int mk, .ref a_mi, .int mq, .ref a_mn, .int mz, .int ma, .ref a_mh, .ref a_mg, .ref a_mr, .ref a_mx])), (a_mt, .inl (cI, 200, .inl mt)), (a_mo, .inl (cI, 16, .inl mo)), (a_md, .inl (cI, 16, .inl md)), (a_mb, .inl (cI, 56, .inl mb)), (a_ms, .inl (cI, 56, .inl ms)), (a_mp, .inl (cI, 448, .inl mp)), (a_mi, .inl (cI, 112, .inl mi)), (a_mn, .inl (cI, 12, .inl mn)), (a_mh, .inl (cI, 42, .inl mh)), (a_mg, .inl (cI, 56, .inl mg)), (a_mr, .inl (cI, 6, .inl mr)), (a_mx, .inl (cI, 6, .inl mx))] := hD
      refine z_iast (k := v_5.toNatClampNeg) hx hb hK.1 hP hD hS 5 rfl rfl h.1 dX6_turn_87 (fun H locs hP hD hS => ?_)
      have h := h.2
      have hP : va_P D vwCl [(h6, .inr (6, [.ref a_mt, .int my, .ref a_mo, .ref a_md, .ref a_mb, .ref a_ms, .ref a_mp, .int mk, .ref a_mi, .int mq, .ref a_mn, .int mz, .int ma, .ref a_mh, .ref a_mg, .ref a_mr, .ref a_mx])), (a_mt, .inl (cI, 200, .inl mt)), (a_mo, .inl (cI, 16, .inl mo)), (a_md, .inl (cI, 16, .inl md)), (a_mb, .inl (cI, 56, .inl mb)), (a_ms, .inl (cI, 56, .inl (upd ms v_5.toNatClampNeg r_17))), (a_mp, .inl (cI, 448, .inl mp)), (a_mi, .inl (cI, 112, .inl mi)), (a_mn, .inl (cI, 12, .inl mn)), (a_mh, .inl (cI, 42, .inl mh)), (a_mg, .inl (cI, 56, .inl mg)), (a_mr, .inl (cI, 6, .inl mr)), (a_mx, .inl (cI, 6, .inl mx))] H := hP
      have hD : va_D A [(h6, .inr (6, [.ref a_mt, .int my, .ref a_mo, .ref a_md, .ref a_mb, .ref a_ms, .ref a_mp, .int mk, .ref a_mi, .int mq, .ref a_mn, .int mz, .int ma, .ref a_mh, .ref a_mg, .ref a_mr, .ref a_mx])), (a_mt, .inl (cI, 200, .inl mt)), (a_mo, .inl (cI, 16, .inl mo)), (a_md, .inl (cI, 16, .inl md)), (a_mb, .inl (cI, 56, .inl mb)), (a_ms, .inl (cI, 56, .inl (upd ms v_5.toNatClampNeg r_17))), (a_mp, .inl (cI, 448, .inl mp)), (a_mi, .inl (cI, 112, .inl mi)), (a_mn, .inl (cI, 12, .inl mn)), (a_mh, .inl (cI, 42, .inl mh)), (a_mg, .inl (cI, 56, .inl mg)), (a_mr, .inl (cI, 6, .inl mr)), (a_mx, .inl (cI, 6, .inl mx))] := hD
      refine lv_goto (tgt := 143) hx hb dX6_turn_88 (by decide) ?_
      exact hret (upd ms v_5.toNatClampNeg r_17) _ _ _ ls h hP hD hS dX6_turn_143

/-! DoubtCourtModel.beliefs -/
abbrev rmX6_beliefs : Room := { frames := 0, cells := 0, slots := 0, locals := 0 }
theorem yoX6_beliefs : yX6_beliefs.cls ≠ "java/lang/invoke/MethodHandle" ∧ yX6_beliefs.cls ≠ "java/lang/invoke/VarHandle" ∧ (parseMethodDescriptor yX6_beliefs.desc).map (fun d => d.parameters.length) = some 0 := by decide +kernel
set_option maxHeartbeats 4000000 in
set_option maxRecDepth 100000 in
theorem c_X6_beliefs (l : Launch) (D : va_G) (cI cC cQ : ClassId) (h6 : Nat) (a_mt : Nat) (a_mo : Nat) (a_md : Nat) (a_mb : Nat) (a_ms : Nat) (a_mp : Nat) (a_mi : Nat) (a_mn : Nat) (a_mh : Nat) (a_mg : Nat) (a_mr : Nat) (a_mx : Nat) (mt : Nat → Int32) (my : Int32) (mo : Nat → Int32) (md : Nat → Int32) (mb : Nat → Int32) (ms : Nat → Int32) (mp : Nat → Int32) (mk : Int32) (mi : Nat → Int32) (mq : Int32) (mn : Nat → Int32) (mz : Int32) (ma : Int32) (mh : Nat → Int32) (mg : Nat → Int32) (mr : Nat → Int32) (mx : Nat → Int32) (Q : Int32 → Prop) (h : wX6_beliefs ms Q) : Ci (S := Unit) l D cI cC cQ yX6_beliefs wsX6_beliefs rmX6_beliefs [.ref h6] [(h6, .inr (6, [.ref a_mt, .int my, .ref a_mo, .ref a_md, .ref a_mb, .ref a_ms, .ref a_mp, .int mk, .ref a_mi, .int mq, .ref a_mn, .int mz, .int ma, .ref a_mh, .ref a_mg, .ref a_mr, .ref a_mx])), (a_mt, .inl (cI, 200, .inl mt)), (a_mo, .inl (cI, 16, .inl mo)), (a_md, .inl (cI, 16, .inl md)), (a_mb, .inl (cI, 56, .inl mb)), (a_ms, .inl (cI, 56, .inl ms)), (a_mp, .inl (cI, 448, .inl mp)), (a_mi, .inl (cI, 112, .inl mi)), (a_mn, .inl (cI, 12, .inl mn)), (a_mh, .inl (cI, 42, .inl mh)), (a_mg, .inl (cI, 56, .inl mg)), (a_mr, .inl (cI, 6, .inl mr)), (a_mx, .inl (cI, 6, .inl mx))] (fun _ => [(h6, .inr (6, [.ref a_mt, .int my, .ref a_mo, .ref a_md, .ref a_mb, .ref a_ms, .ref a_mp, .int mk, .ref a_mi, .int mq, .ref a_mn, .int mz, .int ma, .ref a_mh, .ref a_mg, .ref a_mr, .ref a_mx])), (a_mt, .inl (cI, 200, .inl mt)), (a_mo, .inl (cI, 16, .inl mo)), (a_md, .inl (cI, 16, .inl md)), (a_mb, .inl (cI, 56, .inl mb)), (a_ms, .inl (cI, 56, .inl ms)), (a_mp, .inl (cI, 448, .inl mp)), (a_mi, .inl (cI, 112, .inl mi)), (a_mn, .inl (cI, 12, .inl mn)), (a_mh, .inl (cI, 42, .inl mh)), (a_mg, .inl (cI, 56, .inl mg)), (a_mr, .inl (cI, 6, .inl mr)), (a_mx, .inl (cI, 6, .inl mx))]) (fun r _ => Q r) := by
  refine Ci_mk (cc := cX6_beliefs) (maxL := 3) (by decide) rfl (Nat.le_of_ble_eq_true rfl) ?_
  intro p e s m args below meth c A Z ls hx hb hml hown hts hK hA hP hD hret hl
  have hS : va_S A s.heap s.heap [] := va_S.rf
  have hin6 : ∀ w ∈ u_ws RX6 TX6 17, w ∈ wsX6_beliefs := by decide +kernel
  have k_0 := hts (.fieldLink RX6 22 "DoubtCourtModel" "s" "[I") (by decide +kernel)
  have hl : lv_has ls 3 [(0, .ref h6)] := hl
  have L5 : ∀ (n : Nat) {x1 : Int32} {x2 : Int32} {H : Heap} {locs : List Loc} {ls : Array Slot}, wX6_beliefs_L5 ms Q n x1 x2 → va_P D vwCl [(h6, .inr (6, [.ref a_mt, .int my, .ref a_mo, .ref a_md, .ref a_mb, .ref a_ms, .ref a_mp, .int mk, .ref a_mi, .int mq, .ref a_mn, .int mz, .int ma, .ref a_mh, .ref a_mg, .ref a_mr, .ref a_mx])), (a_mt, .inl (cI, 200, .inl mt)), (a_mo, .inl (cI, 16, .inl mo)), (a_md, .inl (cI, 16, .inl md)), (a_mb, .inl (cI, 56, .inl mb)), (a_ms, .inl (cI, 56, .inl ms)), (a_mp, .inl (cI, 448, .inl mp)), (a_mi, .inl (cI, 112, .inl mi)), (a_mn, .inl (cI, 12, .inl mn)), (a_mh, .inl (cI, 42, .inl mh)), (a_mg, .inl (cI, 56, .inl mg)), (a_mr, .inl (cI, 6, .inl mr)), (a_mx, .inl (cI, 6, .inl mx))] H → va_D A [(h6, .inr (6, [.ref a_mt, .int my, .ref a_mo, .ref a_md, .ref a_mb, .ref a_ms, .ref a_mp, .int mk, .ref a_mi, .int mq, .ref a_mn, .int mz, .int ma, .ref a_mh, .ref a_mg, .ref a_mr, .ref a_mx])), (a_mt, .inl (cI, 200, .inl mt)), (a_mo, .inl (cI, 16, .inl mo)), (a_md, .inl (cI, 16, .inl md)), (a_mb, .inl (cI, 56, .inl mb)), (a_ms, .inl (cI, 56, .inl ms)), (a_mp, .inl (cI, 448, .inl mp)), (a_mi, .inl (cI, 112, .inl mi)), (a_mn, .inl (cI, 12, .inl mn)), (a_mh, .inl (cI, 42, .inl mh)), (a_mg, .inl (cI, 56, .inl mg)), (a_mr, .inl (cI, 6, .inl mr)), (a_mx, .inl (cI, 6, .inl mx))] → va_S A s.heap H locs → lv_has ls 3 [(0, .ref h6), (1, .int x1), (2, .int x2)] → W p l e rmX6_beliefs s m args below meth c H locs 0 0 Z (F0 m 5 ls []) := by
    intro n
    induction n with
    | zero =>
      intro x1 x2 H locs ls h hP hD hS hl
      exact (show False from h).elim
    | succ n ih =>
      intro x1 x2 H locs ls h hP hD hS hl
      refine lv_iload_n hx hb dX6_beliefs_5 rfl (lv_at hl 2 rfl) ?_
      refine lv_bipush (v := 56) hx hb dX6_beliefs_6 (by decide) ?_
      refine lv_icmp_ge (tgt := 26) hx hb dX6_beliefs_8 (by decide) (fun c_3 => ?_) (fun c_3 => ?_)
      · have h := h.1 c_3
        refine lv_iload_n hx hb dX6_beliefs_26 rfl (lv_at hl 1 rfl) ?_
        exact hret x1 () _ _ _ ls h hP hD hS dX6_beliefs_27
      · have h := h.2 c_3
        refine lv_iload_n hx hb dX6_beliefs_11 rfl (lv_at hl 1 rfl) ?_
        refine lv_aload_n hx hb dX6_beliefs_12 rfl (lv_at hl 0 rfl) ?_
        refine va_get (D := D) (ci := 6) (v := .ref a_ms) (C := RX6) (T := TX6) (N := 17) hx hb hts hin6 hown hK.1 hP 0 rfl rfl 5 (by decide) (k_0) (fun _ h9 => h9) rfl dX6_beliefs_13 ?_
        refine lv_iload_n hx hb dX6_beliefs_16 rfl (lv_at hl 2 rfl) ?_
        refine z_iald (k := x2.toNatClampNeg) hx hb hK.1 hP 5 rfl rfl h.1 dX6_beliefs_17 ?_
        have h := h.2
        refine lv_iadd hx hb dX6_beliefs_18 ?_
        refine lv_topi (fun v_4 ev_4 => ?_)
        have h := h v_4 ev_4
        refine lv_istore_n (lv' := [(1, .int v_4), (0, .ref h6), (2, .int x2)]) hx hb dX6_beliefs_19 rfl hl (by decide) rfl (fun ls hl => ?_)
        refine lv_iinc (v := (x2 + (1 : Int32))) (lv' := [(2, .int (x2 + (1 : Int32))), (1, .int v_4), (0, .ref h6)]) hx hb dX6_beliefs_20 hl (k := 2) rfl rfl (by decide) rfl (fun ls hl => ?_)
        refine lv_goto (tgt := 5) hx hb dX6_beliefs_23 (by decide) ?_
        exact ih h hP hD hS (lv_sub hl [2, 1, 0] rfl)
  refine lv_iconst (v := 0) hx hb dX6_beliefs_0 (by decide) ?_
  refine lv_istore_n (lv' := [(1, .int (0 : Int32)), (0, .ref h6)]) hx hb dX6_beliefs_1 rfl hl (by decide) rfl (fun ls hl => ?_)
  refine lv_bipush (v := 14) hx hb dX6_beliefs_2 (by decide) ?_
  refine lv_istore_n (lv' := [(2, .int (14 : Int32)), (1, .int (0 : Int32)), (0, .ref h6)]) hx hb dX6_beliefs_4 rfl hl (by decide) rfl (fun ls hl => ?_)
  obtain ⟨n_5, h⟩ := h
  exact L5 n_5 h hP hD hS (lv_sub hl [2, 1, 0] rfl)

/-! DoubtCourtModel.reign -/
abbrev rmX6_reign : Room := { frames := 3, cells := 0, slots := 0, locals := 73 }
theorem yoX6_reign : yX6_reign.cls ≠ "java/lang/invoke/MethodHandle" ∧ yX6_reign.cls ≠ "java/lang/invoke/VarHandle" ∧ (parseMethodDescriptor yX6_reign.desc).map (fun d => d.parameters.length) = some 3 := by decide +kernel
set_option maxHeartbeats 4000000 in
set_option maxRecDepth 100000 in
theorem c_X6_reign (l : Launch) (D : va_G) (cI cC cQ : ClassId) (h6 : Nat) (a_mt : Nat) (a_mo : Nat) (a_md : Nat) (a_mb : Nat) (a_ms : Nat) (a_mp : Nat) (a_mi : Nat) (a_mn : Nat) (a_mh : Nat) (a_mg : Nat) (a_mr : Nat) (a_mx : Nat) (mt : Nat → Int32) (my : Int32) (mo : Nat → Int32) (md : Nat → Int32) (mb : Nat → Int32) (ms : Nat → Int32) (mp : Nat → Int32) (mk : Int32) (mi : Nat → Int32) (mq : Int32) (mn : Nat → Int32) (mz : Int32) (ma : Int32) (mh : Nat → Int32) (mg : Nat → Int32) (mr : Nat → Int32) (mx : Nat → Int32) (x1 : Int32) (x2 : Int32) (x3 : Int32) (Q : Int32 → (Nat → Int32) → (Nat → Int32) → (Nat → Int32) → Prop) (h : wX6_reign x1 x2 x3 mo ms mh mg Q) : Ci (S := (Nat → Int32) × (Nat → Int32) × (Nat → Int32)) l D cI cC cQ yX6_reign wsX6_reign rmX6_reign [.ref h6, .int x1, .int x2, .int x3] [(h6, .inr (6, [.ref a_mt, .int my, .ref a_mo, .ref a_md, .ref a_mb, .ref a_ms, .ref a_mp, .int mk, .ref a_mi, .int mq, .ref a_mn, .int mz, .int ma, .ref a_mh, .ref a_mg, .ref a_mr, .ref a_mx])), (a_mt, .inl (cI, 200, .inl mt)), (a_mo, .inl (cI, 16, .inl mo)), (a_md, .inl (cI, 16, .inl md)), (a_mb, .inl (cI, 56, .inl mb)), (a_ms, .inl (cI, 56, .inl ms)), (a_mp, .inl (cI, 448, .inl mp)), (a_mi, .inl (cI, 112, .inl mi)), (a_mn, .inl (cI, 12, .inl mn)), (a_mh, .inl (cI, 42, .inl mh)), (a_mg, .inl (cI, 56, .inl mg)), (a_mr, .inl (cI, 6, .inl mr)), (a_mx, .inl (cI, 6, .inl mx))] (fun u => [(h6, .inr (6, [.ref a_mt, .int my, .ref a_mo, .ref a_md, .ref a_mb, .ref a_ms, .ref a_mp, .int mk, .ref a_mi, .int mq, .ref a_mn, .int mz, .int ma, .ref a_mh, .ref a_mg, .ref a_mr, .ref a_mx])), (a_mt, .inl (cI, 200, .inl mt)), (a_mo, .inl (cI, 16, .inl mo)), (a_md, .inl (cI, 16, .inl md)), (a_mb, .inl (cI, 56, .inl mb)), (a_ms, .inl (cI, 56, .inl u.1)), (a_mp, .inl (cI, 448, .inl mp)), (a_mi, .inl (cI, 112, .inl mi)), (a_mn, .inl (cI, 12, .inl mn)), (a_mh, .inl (cI, 42, .inl u.2.1)), (a_mg, .inl (cI, 56, .inl u.2.2)), (a_mr, .inl (cI, 6, .inl mr)), (a_mx, .inl (cI, 6, .inl mx))]) (fun r u => Q r u.1 u.2.1 u.2.2) := by
  refine Ci_mk (cc := cX6_reign) (maxL := 7) (by decide) rfl (Nat.le_of_ble_eq_true rfl) ?_
  intro p e s m args below meth c A Z ls hx hb hml hown hts hK hA hP hD hret hl
  have hS : va_S A s.heap s.heap [] := va_S.rf
  have k_0 := hts (.constantLong RX6 182 (7919)) (by decide +kernel)
  have k_1 := hts (.constantLong RX6 184 (6151)) (by decide +kernel)
  have k_2 := hts (.constantLong RX6 186 (65521)) (by decide +kernel)
  have hl : lv_has ls 7 [(0, .ref h6), (1, .int x1), (2, .int x2), (3, .int x3)] := hl
  have L39 : ∀ {K87 : (Nat → Int32) → (Nat → Int32) → Prop} (n : Nat) {x1 : Int32} {x2 : Int32} {x3 : Int32} {x4 : Int32} {ms : Nat → Int32} {mh : Nat → Int32} {mg : Nat → Int32} {H : Heap} {locs : List Loc} {ls : Array Slot}, wX6_reign_L39 x1 x2 mo K87 n x4 ms mh → va_P D vwCl [(h6, .inr (6, [.ref a_mt, .int my, .ref a_mo, .ref a_md, .ref a_mb, .ref a_ms, .ref a_mp, .int mk, .ref a_mi, .int mq, .ref a_mn, .int mz, .int ma, .ref a_mh, .ref a_mg, .ref a_mr, .ref a_mx])), (a_mt, .inl (cI, 200, .inl mt)), (a_mo, .inl (cI, 16, .inl mo)), (a_md, .inl (cI, 16, .inl md)), (a_mb, .inl (cI, 56, .inl mb)), (a_ms, .inl (cI, 56, .inl ms)), (a_mp, .inl (cI, 448, .inl mp)), (a_mi, .inl (cI, 112, .inl mi)), (a_mn, .inl (cI, 12, .inl mn)), (a_mh, .inl (cI, 42, .inl mh)), (a_mg, .inl (cI, 56, .inl mg)), (a_mr, .inl (cI, 6, .inl mr)), (a_mx, .inl (cI, 6, .inl mx))] H → va_D A [(h6, .inr (6, [.ref a_mt, .int my, .ref a_mo, .ref a_md, .ref a_mb, .ref a_ms, .ref a_mp, .int mk, .ref a_mi, .int mq, .ref a_mn, .int mz, .int ma, .ref a_mh, .ref a_mg, .ref a_mr, .ref a_mx])), (a_mt, .inl (cI, 200, .inl mt)), (a_mo, .inl (cI, 16, .inl mo)), (a_md, .inl (cI, 16, .inl md)), (a_mb, .inl (cI, 56, .inl mb)), (a_ms, .inl (cI, 56, .inl ms)), (a_mp, .inl (cI, 448, .inl mp)), (a_mi, .inl (cI, 112, .inl mi)), (a_mn, .inl (cI, 12, .inl mn)), (a_mh, .inl (cI, 42, .inl mh)), (a_mg, .inl (cI, 56, .inl mg)), (a_mr, .inl (cI, 6, .inl mr)), (a_mx, .inl (cI, 6, .inl mx))] → va_S A s.heap H locs → lv_has ls 7 [(0, .ref h6), (1, .int x1), (2, .int x2), (3, .int x3), (4, .int x4)] → (∀ (ms : Nat → Int32) (mh : Nat → Int32) (H : Heap) (locs : List Loc) (ls : Array Slot), K87 ms mh → va_P D vwCl [(h6, .inr (6, [.ref a_mt, .int my, .ref a_mo, .ref a_md, .ref a_mb, .ref a_ms, .ref a_mp, .int mk, .ref a_mi, .int mq, .ref a_mn, .int mz, .int ma, .ref a_mh, .ref a_mg, .ref a_mr, .ref a_mx])), (a_mt, .inl (cI, 200, .inl mt)), (a_mo, .inl (cI, 16, .inl mo)), (a_md, .inl (cI, 16, .inl md)), (a_mb, .inl (cI, 56, .inl mb)), (a_ms, .inl (cI, 56, .inl ms)), (a_mp, .inl (cI, 448, .inl mp)), (a_mi, .inl (cI, 112, .inl mi)), (a_mn, .inl (cI, 12, .inl mn)), (a_mh, .inl (cI, 42, .inl mh)), (a_mg, .inl (cI, 56, .inl mg)), (a_mr, .inl (cI, 6, .inl mr)), (a_mx, .inl (cI, 6, .inl mx))] H → va_D A [(h6, .inr (6, [.ref a_mt, .int my, .ref a_mo, .ref a_md, .ref a_mb, .ref a_ms, .ref a_mp, .int mk, .ref a_mi, .int mq, .ref a_mn, .int mz, .int ma, .ref a_mh, .ref a_mg, .ref a_mr, .ref a_mx])), (a_mt, .inl (cI, 200, .inl mt)), (a_mo, .inl (cI, 16, .inl mo)), (a_md, .inl (cI, 16, .inl md)), (a_mb, .inl (cI, 56, .inl mb)), (a_ms, .inl (cI, 56, .inl ms)), (a_mp, .inl (cI, 448, .inl mp)), (a_mi, .inl (cI, 112, .inl mi)), (a_mn, .inl (cI, 12, .inl mn)), (a_mh, .inl (cI, 42, .inl mh)), (a_mg, .inl (cI, 56, .inl mg)), (a_mr, .inl (cI, 6, .inl mr)), (a_mx, .inl (cI, 6, .inl mx))] → va_S A s.heap H locs → lv_has ls 7 [(0, .ref h6), (3, .int x3)] → W p l e rmX6_reign s m args below meth c H locs 0 0 Z (F0 m 87 ls [])) → W p l e rmX6_reign s m args below meth c H locs 0 0 Z (F0 m 39 ls []) := by
    intro K87
    intro n
    induction n with
    | zero =>
      intro x1 x2 x3 x4 ms mh mg H locs ls h hP hD hS hl hk87
      exact (show False from h).elim
    | succ n ih =>
      intro x1 x2 x3 x4 ms mh mg H locs ls h hP hD hS hl hk87
      refine lv_iload hx hb dX6_reign_39 (lv_at hl 4 rfl) ?_
      refine lv_iload_n hx hb dX6_reign_41 rfl (lv_at hl 2 rfl) ?_
      refine lv_icmp_ge (tgt := 87) hx hb dX6_reign_42 (by decide) (fun c_16 => ?_) (fun c_16 => ?_)
      · have h := h.1 c_16
        exact hk87 ms mh _ _ _ h hP hD hS (lv_sub hl [0, 3] rfl)
      · have h := h.2 c_16
        refine lv_ldc2 (v := 7919) hx hb hown (k_0) dX6_reign_45 ?_
        refine lv_iload_n hx hb dX6_reign_48 rfl (lv_at hl 1 rfl) ?_
        refine lv_i2l (v := (x1).toInt64) hx hb dX6_reign_49 rfl ?_
        refine lv_lmul hx hb dX6_reign_50 ?_
        refine lv_ldc2 (v := 6151) hx hb hown (k_1) dX6_reign_51 ?_
        refine lv_iload hx hb dX6_reign_54 (lv_at hl 4 rfl) ?_
        refine lv_i2l (v := (x4).toInt64) hx hb dX6_reign_56 rfl ?_
        refine lv_lmul hx hb dX6_reign_57 ?_
        refine lv_ladd hx hb dX6_reign_58 ?_
        refine lv_lconst (v := 1) hx hb dX6_reign_59 (by decide) ?_
        refine lv_ladd hx hb dX6_reign_60 ?_
        refine lv_topl (fun v_17 ev_17 => ?_)
        have h := h v_17 ev_17
        refine lv_lstore (lv' := [(5, .long v_17), (0, .ref h6), (1, .int x1), (2, .int x2), (3, .int x3), (4, .int x4)]) hx hb dX6_reign_61 hl (by decide) rfl (fun ls hl => ?_)
        refine lv_aload_n hx hb dX6_reign_63 rfl (lv_at hl 1 rfl) ?_
        refine lv_lload hx hb dX6_reign_64 (lv_at hl 0 rfl) ?_
        refine lv_lload hx hb dX6_reign_66 (lv_at hl 0 rfl) ?_
        refine lv_lmul hx hb dX6_reign_68 ?_
        refine lv_ldc2 (v := 65521) hx hb hown (k_2) dX6_reign_69 ?_
        refine lv_lrem hx hb dX6_reign_72 (by decide) ?_
        refine lv_l2i (v := (((v_17 * v_17) - (v_17 * v_17) / (65521 : Int64) * (65521 : Int64))).toInt32) hx hb dX6_reign_73 rfl ?_
        refine k0V_v (As := [.int ((((v_17 * v_17) - (v_17 * v_17) / (65521 : Int64) * (65521 : Int64))).toInt32)]) (n := 1) ⟨hx, hb, hml, hown, hts⟩ hK hP hD hS hA (c_X6_turn l D cI cC cQ h6 a_mt a_mo a_md a_mb a_ms a_mp a_mi a_mn a_mh a_mg a_mr a_mx mt my mo md mb ms mp mk mi mq mn mz ma mh mg mr mx ((((v_17 * v_17) - (v_17 * v_17) / (65521 : Int64) * (65521 : Int64))).toInt32) _ h) gX6_reign_X6_turn rfl rfl ⟨rfl, rfl⟩ yoX6_turn ⟨Nat.le_of_ble_eq_true rfl, Nat.le_of_ble_eq_true rfl⟩ (q0 := 0) (ci := 6) rfl rfl rfl rfl hl.1 rfl (Nat.le_of_ble_eq_true rfl) dX6_reign_74 ⟨Nat.zero_le _, Nat.zero_le _⟩ (fun ms_18 H locs h hP hD hS => ?_)
        have hP : va_P D vwCl [(h6, .inr (6, [.ref a_mt, .int my, .ref a_mo, .ref a_md, .ref a_mb, .ref a_ms, .ref a_mp, .int mk, .ref a_mi, .int mq, .ref a_mn, .int mz, .int ma, .ref a_mh, .ref a_mg, .ref a_mr, .ref a_mx])), (a_mt, .inl (cI, 200, .inl mt)), (a_mo, .inl (cI, 16, .inl mo)), (a_md, .inl (cI, 16, .inl md)), (a_mb, .inl (cI, 56, .inl mb)), (a_ms, .inl (cI, 56, .inl ms_18)), (a_mp, .inl (cI, 448, .inl mp)), (a_mi, .inl (cI, 112, .inl mi)), (a_mn, .inl (cI, 12, .inl mn)), (a_mh, .inl (cI, 42, .inl mh)), (a_mg, .inl (cI, 56, .inl mg)), (a_mr, .inl (cI, 6, .inl mr)), (a_mx, .inl (cI, 6, .inl mx))] H := hP
        have hD : va_D A [(h6, .inr (6, [.ref a_mt, .int my, .ref a_mo, .ref a_md, .ref a_mb, .ref a_ms, .ref a_mp, .int mk, .ref a_mi, .int mq, .ref a_mn, .int mz, .int ma, .ref a_mh, .ref a_mg, .ref a_mr, .ref a_mx])), (a_mt, .inl (cI, 200, .inl mt)), (a_mo, .inl (cI, 16, .inl mo)), (a_md, .inl (cI, 16, .inl md)), (a_mb, .inl (cI, 56, .inl mb)), (a_ms, .inl (cI, 56, .inl ms_18)), (a_mp, .inl (cI, 448, .inl mp)), (a_mi, .inl (cI, 112, .inl mi)), (a_mn, .inl (cI, 12, .inl mn)), (a_mh, .inl (cI, 42, .inl mh)), (a_mg, .inl (cI, 56, .inl mg)), (a_mr, .inl (cI, 6, .inl mr)), (a_mx, .inl (cI, 6, .inl mx))] := hD
        refine lv_aload_n hx hb dX6_reign_77 rfl (lv_at hl 1 rfl) ?_
        refine k0V_v (As := []) (n := 0) ⟨hx, hb, hml, hown, hts⟩ hK hP hD hS hA (c_X6_passes l D cI cC cQ h6 a_mt a_mo a_md a_mb a_ms a_mp a_mi a_mn a_mh a_mg a_mr a_mx mt my mo md mb ms_18 mp mk mi mq mn mz ma mh mg mr mx  _ h) gX6_reign_X6_passes rfl rfl ⟨rfl, rfl⟩ yoX6_passes ⟨Nat.le_of_ble_eq_true rfl, Nat.le_of_ble_eq_true rfl⟩ (q0 := 0) (ci := 6) rfl rfl rfl rfl hl.1 rfl (Nat.le_of_ble_eq_true rfl) dX6_reign_78 ⟨Nat.zero_le _, Nat.zero_le _⟩ (fun u H locs h hP hD hS => ?_)
        obtain ⟨ms_19, mh_20⟩ := u
        have hP : va_P D vwCl [(h6, .inr (6, [.ref a_mt, .int my, .ref a_mo, .ref a_md, .ref a_mb, .ref a_ms, .ref a_mp, .int mk, .ref a_mi, .int mq, .ref a_mn, .int mz, .int ma, .ref a_mh, .ref a_mg, .ref a_mr, .ref a_mx])), (a_mt, .inl (cI, 200, .inl mt)), (a_mo, .inl (cI, 16, .inl mo)), (a_md, .inl (cI, 16, .inl md)), (a_mb, .inl (cI, 56, .inl mb)), (a_ms, .inl (cI, 56, .inl ms_19)), (a_mp, .inl (cI, 448, .inl mp)), (a_mi, .inl (cI, 112, .inl mi)), (a_mn, .inl (cI, 12, .inl mn)), (a_mh, .inl (cI, 42, .inl mh_20)), (a_mg, .inl (cI, 56, .inl mg)), (a_mr, .inl (cI, 6, .inl mr)), (a_mx, .inl (cI, 6, .inl mx))] H := hP
        have hD : va_D A [(h6, .inr (6, [.ref a_mt, .int my, .ref a_mo, .ref a_md, .ref a_mb, .ref a_ms, .ref a_mp, .int mk, .ref a_mi, .int mq, .ref a_mn, .int mz, .int ma, .ref a_mh, .ref a_mg, .ref a_mr, .ref a_mx])), (a_mt, .inl (cI, 200, .inl mt)), (a_mo, .inl (cI, 16, .inl mo)), (a_md, .inl (cI, 16, .inl md)), (a_mb, .inl (cI, 56, .inl mb)), (a_ms, .inl (cI, 56, .inl ms_19)), (a_mp, .inl (cI, 448, .inl mp)), (a_mi, .inl (cI, 112, .inl mi)), (a_mn, .inl (cI, 12, .inl mn)), (a_mh, .inl (cI, 42, .inl mh_20)), (a_mg, .inl (cI, 56, .inl mg)), (a_mr, .inl (cI, 6, .inl mr)), (a_mx, .inl (cI, 6, .inl mx))] := hD
        refine lv_iinc (v := (x4 + (1 : Int32))) (lv' := [(4, .int (x4 + (1 : Int32))), (5, .long v_17), (0, .ref h6), (1, .int x1), (2, .int x2), (3, .int x3)]) hx hb dX6_reign_81 hl (k := 5) rfl rfl (by decide) rfl (fun ls hl => ?_)
        refine lv_goto (tgt := 39) hx hb dX6_reign_84 (by decide) ?_
        exact ih h hP hD hS (lv_sub hl [2, 3, 4, 5, 0] rfl) hk87
  refine lv_iload_n hx hb dX6_reign_0 rfl (lv_at hl 1 rfl) ?_
  refine lv_iconst (v := 0) hx hb dX6_reign_1 (by decide) ?_
  refine lv_sipush (v := 9999) hx hb dX6_reign_2 (by decide) ?_
  refine kS_i (wr := [(h6, .inr (6, [.ref a_mt, .int my, .ref a_mo, .ref a_md, .ref a_mb, .ref a_ms, .ref a_mp, .int mk, .ref a_mi, .int mq, .ref a_mn, .int mz, .int ma, .ref a_mh, .ref a_mg, .ref a_mr, .ref a_mx])), (a_mt, .inl (cI, 200, .inl mt)), (a_mo, .inl (cI, 16, .inl mo)), (a_md, .inl (cI, 16, .inl md)), (a_mb, .inl (cI, 56, .inl mb)), (a_ms, .inl (cI, 56, .inl ms)), (a_mp, .inl (cI, 448, .inl mp)), (a_mi, .inl (cI, 112, .inl mi)), (a_mn, .inl (cI, 12, .inl mn)), (a_mh, .inl (cI, 42, .inl mh)), (a_mg, .inl (cI, 56, .inl mg)), (a_mr, .inl (cI, 6, .inl mr)), (a_mx, .inl (cI, 6, .inl mx))]) (As := [.int x1, .int (0 : Int32), .int (9999 : Int32)]) (n := 3) ⟨hx, hb, hml, hown, hts⟩ hK hP hD hS hA (c_X6_in l D cI cC cQ   x1 (0 : Int32) (9999 : Int32) _ h) gX6_reign_X6_in rfl ⟨rfl, rfl⟩ yoX6_in ⟨Nat.le_of_ble_eq_true rfl, Nat.le_of_ble_eq_true rfl⟩ rfl hl.1 rfl (Nat.le_of_ble_eq_true rfl) dX6_reign_5 ⟨Nat.zero_le _, Nat.zero_le _⟩ [] [0, 1, 2, 3, 4, 5, 6, 7, 8, 9, 10, 11, 12] rfl (by decide) rfl (by decide) (by decide) (fun r_1 u H locs h hP hD hS => ?_)
  have hP : va_P D vwCl [(h6, .inr (6, [.ref a_mt, .int my, .ref a_mo, .ref a_md, .ref a_mb, .ref a_ms, .ref a_mp, .int mk, .ref a_mi, .int mq, .ref a_mn, .int mz, .int ma, .ref a_mh, .ref a_mg, .ref a_mr, .ref a_mx])), (a_mt, .inl (cI, 200, .inl mt)), (a_mo, .inl (cI, 16, .inl mo)), (a_md, .inl (cI, 16, .inl md)), (a_mb, .inl (cI, 56, .inl mb)), (a_ms, .inl (cI, 56, .inl ms)), (a_mp, .inl (cI, 448, .inl mp)), (a_mi, .inl (cI, 112, .inl mi)), (a_mn, .inl (cI, 12, .inl mn)), (a_mh, .inl (cI, 42, .inl mh)), (a_mg, .inl (cI, 56, .inl mg)), (a_mr, .inl (cI, 6, .inl mr)), (a_mx, .inl (cI, 6, .inl mx))] H := hP
  have hD : va_D A [(h6, .inr (6, [.ref a_mt, .int my, .ref a_mo, .ref a_md, .ref a_mb, .ref a_ms, .ref a_mp, .int mk, .ref a_mi, .int mq, .ref a_mn, .int mz, .int ma, .ref a_mh, .ref a_mg, .ref a_mr, .ref a_mx])), (a_mt, .inl (cI, 200, .inl mt)), (a_mo, .inl (cI, 16, .inl mo)), (a_md, .inl (cI, 16, .inl md)), (a_mb, .inl (cI, 56, .inl mb)), (a_ms, .inl (cI, 56, .inl ms)), (a_mp, .inl (cI, 448, .inl mp)), (a_mi, .inl (cI, 112, .inl mi)), (a_mn, .inl (cI, 12, .inl mn)), (a_mh, .inl (cI, 42, .inl mh)), (a_mg, .inl (cI, 56, .inl mg)), (a_mr, .inl (cI, 6, .inl mr)), (a_mx, .inl (cI, 6, .inl mx))] := hD
  obtain ⟨b_2, h⟩ := h
  refine lv_if_eq (tgt := 30) hx hb dX6_reign_8 (by decide) (fun c_3 => ?_) (fun c_3 => ?_)
  · have h := h.1 c_3
    refine lv_iconst (v := -1) hx hb dX6_reign_30 (by decide) ?_
    exact hret (-1 : Int32) (ms, mh, mg) _ _ _ ls h hP hD hS dX6_reign_31
  · have h := h.2 c_3
    refine lv_iload_n hx hb dX6_reign_11 rfl (lv_at hl 2 rfl) ?_
    refine lv_iconst (v := 1) hx hb dX6_reign_12 (by decide) ?_
    refine lv_bipush (v := 60) hx hb dX6_reign_13 (by decide) ?_
    refine kS_i (wr := [(h6, .inr (6, [.ref a_mt, .int my, .ref a_mo, .ref a_md, .ref a_mb, .ref a_ms, .ref a_mp, .int mk, .ref a_mi, .int mq, .ref a_mn, .int mz, .int ma, .ref a_mh, .ref a_mg, .ref a_mr, .ref a_mx])), (a_mt, .inl (cI, 200, .inl mt)), (a_mo, .inl (cI, 16, .inl mo)), (a_md, .inl (cI, 16, .inl md)), (a_mb, .inl (cI, 56, .inl mb)), (a_ms, .inl (cI, 56, .inl ms)), (a_mp, .inl (cI, 448, .inl mp)), (a_mi, .inl (cI, 112, .inl mi)), (a_mn, .inl (cI, 12, .inl mn)), (a_mh, .inl (cI, 42, .inl mh)), (a_mg, .inl (cI, 56, .inl mg)), (a_mr, .inl (cI, 6, .inl mr)), (a_mx, .inl (cI, 6, .inl mx))]) (As := [.int x2, .int (1 : Int32), .int (60 : Int32)]) (n := 3) ⟨hx, hb, hml, hown, hts⟩ hK hP hD hS hA (c_X6_in l D cI cC cQ   x2 (1 : Int32) (60 : Int32) _ h) gX6_reign_X6_in rfl ⟨rfl, rfl⟩ yoX6_in ⟨Nat.le_of_ble_eq_true rfl, Nat.le_of_ble_eq_true rfl⟩ rfl hl.1 rfl (Nat.le_of_ble_eq_true rfl) dX6_reign_15 ⟨Nat.zero_le _, Nat.zero_le _⟩ [] [0, 1, 2, 3, 4, 5, 6, 7, 8, 9, 10, 11, 12] rfl (by decide) rfl (by decide) (by decide) (fun r_4 u H locs h hP hD hS => ?_)
    have hP : va_P D vwCl [(h6, .inr (6, [.ref a_mt, .int my, .ref a_mo, .ref a_md, .ref a_mb, .ref a_ms, .ref a_mp, .int mk, .ref a_mi, .int mq, .ref a_mn, .int mz, .int ma, .ref a_mh, .ref a_mg, .ref a_mr, .ref a_mx])), (a_mt, .inl (cI, 200, .inl mt)), (a_mo, .inl (cI, 16, .inl mo)), (a_md, .inl (cI, 16, .inl md)), (a_mb, .inl (cI, 56, .inl mb)), (a_ms, .inl (cI, 56, .inl ms)), (a_mp, .inl (cI, 448, .inl mp)), (a_mi, .inl (cI, 112, .inl mi)), (a_mn, .inl (cI, 12, .inl mn)), (a_mh, .inl (cI, 42, .inl mh)), (a_mg, .inl (cI, 56, .inl mg)), (a_mr, .inl (cI, 6, .inl mr)), (a_mx, .inl (cI, 6, .inl mx))] H := hP
    have hD : va_D A [(h6, .inr (6, [.ref a_mt, .int my, .ref a_mo, .ref a_md, .ref a_mb, .ref a_ms, .ref a_mp, .int mk, .ref a_mi, .int mq, .ref a_mn, .int mz, .int ma, .ref a_mh, .ref a_mg, .ref a_mr, .ref a_mx])), (a_mt, .inl (cI, 200, .inl mt)), (a_mo, .inl (cI, 16, .inl mo)), (a_md, .inl (cI, 16, .inl md)), (a_mb, .inl (cI, 56, .inl mb)), (a_ms, .inl (cI, 56, .inl ms)), (a_mp, .inl (cI, 448, .inl mp)), (a_mi, .inl (cI, 112, .inl mi)), (a_mn, .inl (cI, 12, .inl mn)), (a_mh, .inl (cI, 42, .inl mh)), (a_mg, .inl (cI, 56, .inl mg)), (a_mr, .inl (cI, 6, .inl mr)), (a_mx, .inl (cI, 6, .inl mx))] := hD
    obtain ⟨b_5, h⟩ := h
    refine lv_if_eq (tgt := 30) hx hb dX6_reign_18 (by decide) (fun c_6 => ?_) (fun c_6 => ?_)
    · have h := h.1 c_6
      refine lv_iconst (v := -1) hx hb dX6_reign_30 (by decide) ?_
      exact hret (-1 : Int32) (ms, mh, mg) _ _ _ ls h hP hD hS dX6_reign_31
    · have h := h.2 c_6
      refine lv_iload_n hx hb dX6_reign_21 rfl (lv_at hl 3 rfl) ?_
      refine lv_iconst (v := 0) hx hb dX6_reign_22 (by decide) ?_
      refine lv_iconst (v := 1) hx hb dX6_reign_23 (by decide) ?_
      refine kS_i (wr := [(h6, .inr (6, [.ref a_mt, .int my, .ref a_mo, .ref a_md, .ref a_mb, .ref a_ms, .ref a_mp, .int mk, .ref a_mi, .int mq, .ref a_mn, .int mz, .int ma, .ref a_mh, .ref a_mg, .ref a_mr, .ref a_mx])), (a_mt, .inl (cI, 200, .inl mt)), (a_mo, .inl (cI, 16, .inl mo)), (a_md, .inl (cI, 16, .inl md)), (a_mb, .inl (cI, 56, .inl mb)), (a_ms, .inl (cI, 56, .inl ms)), (a_mp, .inl (cI, 448, .inl mp)), (a_mi, .inl (cI, 112, .inl mi)), (a_mn, .inl (cI, 12, .inl mn)), (a_mh, .inl (cI, 42, .inl mh)), (a_mg, .inl (cI, 56, .inl mg)), (a_mr, .inl (cI, 6, .inl mr)), (a_mx, .inl (cI, 6, .inl mx))]) (As := [.int x3, .int (0 : Int32), .int (1 : Int32)]) (n := 3) ⟨hx, hb, hml, hown, hts⟩ hK hP hD hS hA (c_X6_in l D cI cC cQ   x3 (0 : Int32) (1 : Int32) _ h) gX6_reign_X6_in rfl ⟨rfl, rfl⟩ yoX6_in ⟨Nat.le_of_ble_eq_true rfl, Nat.le_of_ble_eq_true rfl⟩ rfl hl.1 rfl (Nat.le_of_ble_eq_true rfl) dX6_reign_24 ⟨Nat.zero_le _, Nat.zero_le _⟩ [] [0, 1, 2, 3, 4, 5, 6, 7, 8, 9, 10, 11, 12] rfl (by decide) rfl (by decide) (by decide) (fun r_7 u H locs h hP hD hS => ?_)
      have hP : va_P D vwCl [(h6, .inr (6, [.ref a_mt, .int my, .ref a_mo, .ref a_md, .ref a_mb, .ref a_ms, .ref a_mp, .int mk, .ref a_mi, .int mq, .ref a_mn, .int mz, .int ma, .ref a_mh, .ref a_mg, .ref a_mr, .ref a_mx])), (a_mt, .inl (cI, 200, .inl mt)), (a_mo, .inl (cI, 16, .inl mo)), (a_md, .inl (cI, 16, .inl md)), (a_mb, .inl (cI, 56, .inl mb)), (a_ms, .inl (cI, 56, .inl ms)), (a_mp, .inl (cI, 448, .inl mp)), (a_mi, .inl (cI, 112, .inl mi)), (a_mn, .inl (cI, 12, .inl mn)), (a_mh, .inl (cI, 42, .inl mh)), (a_mg, .inl (cI, 56, .inl mg)), (a_mr, .inl (cI, 6, .inl mr)), (a_mx, .inl (cI, 6, .inl mx))] H := hP
      have hD : va_D A [(h6, .inr (6, [.ref a_mt, .int my, .ref a_mo, .ref a_md, .ref a_mb, .ref a_ms, .ref a_mp, .int mk, .ref a_mi, .int mq, .ref a_mn, .int mz, .int ma, .ref a_mh, .ref a_mg, .ref a_mr, .ref a_mx])), (a_mt, .inl (cI, 200, .inl mt)), (a_mo, .inl (cI, 16, .inl mo)), (a_md, .inl (cI, 16, .inl md)), (a_mb, .inl (cI, 56, .inl mb)), (a_ms, .inl (cI, 56, .inl ms)), (a_mp, .inl (cI, 448, .inl mp)), (a_mi, .inl (cI, 112, .inl mi)), (a_mn, .inl (cI, 12, .inl mn)), (a_mh, .inl (cI, 42, .inl mh)), (a_mg, .inl (cI, 56, .inl mg)), (a_mr, .inl (cI, 6, .inl mr)), (a_mx, .inl (cI, 6, .inl mx))] := hD
      obtain ⟨b_8, h⟩ := h
      refine lv_if_ne (tgt := 32) hx hb dX6_reign_27 (by decide) (fun c_9 => ?_) (fun c_9 => ?_)
      · have h := h.2 c_9
        refine lv_aload_n hx hb dX6_reign_32 rfl (lv_at hl 0 rfl) ?_
        refine k0V_v (As := []) (n := 0) ⟨hx, hb, hml, hown, hts⟩ hK hP hD hS hA (c_X6_holds l D cI cC cQ h6 a_mt a_mo a_md a_mb a_ms a_mp a_mi a_mn a_mh a_mg a_mr a_mx mt my mo md mb ms mp mk mi mq mn mz ma mh mg mr mx  _ h) gX6_reign_X6_holds rfl rfl ⟨rfl, rfl⟩ yoX6_holds ⟨Nat.le_of_ble_eq_true rfl, Nat.le_of_ble_eq_true rfl⟩ (q0 := 0) (ci := 6) rfl rfl rfl rfl hl.1 rfl (Nat.le_of_ble_eq_true rfl) dX6_reign_33 ⟨Nat.zero_le _, Nat.zero_le _⟩ (fun mg_10 H locs h hP hD hS => ?_)
        have hP : va_P D vwCl [(h6, .inr (6, [.ref a_mt, .int my, .ref a_mo, .ref a_md, .ref a_mb, .ref a_ms, .ref a_mp, .int mk, .ref a_mi, .int mq, .ref a_mn, .int mz, .int ma, .ref a_mh, .ref a_mg, .ref a_mr, .ref a_mx])), (a_mt, .inl (cI, 200, .inl mt)), (a_mo, .inl (cI, 16, .inl mo)), (a_md, .inl (cI, 16, .inl md)), (a_mb, .inl (cI, 56, .inl mb)), (a_ms, .inl (cI, 56, .inl ms)), (a_mp, .inl (cI, 448, .inl mp)), (a_mi, .inl (cI, 112, .inl mi)), (a_mn, .inl (cI, 12, .inl mn)), (a_mh, .inl (cI, 42, .inl mh)), (a_mg, .inl (cI, 56, .inl mg_10)), (a_mr, .inl (cI, 6, .inl mr)), (a_mx, .inl (cI, 6, .inl mx))] H := hP
        have hD : va_D A [(h6, .inr (6, [.ref a_mt, .int my, .ref a_mo, .ref a_md, .ref a_mb, .ref a_ms, .ref a_mp, .int mk, .ref a_mi, .int mq, .ref a_mn, .int mz, .int ma, .ref a_mh, .ref a_mg, .ref a_mr, .ref a_mx])), (a_mt, .inl (cI, 200, .inl mt)), (a_mo, .inl (cI, 16, .inl mo)), (a_md, .inl (cI, 16, .inl md)), (a_mb, .inl (cI, 56, .inl mb)), (a_ms, .inl (cI, 56, .inl ms)), (a_mp, .inl (cI, 448, .inl mp)), (a_mi, .inl (cI, 112, .inl mi)), (a_mn, .inl (cI, 12, .inl mn)), (a_mh, .inl (cI, 42, .inl mh)), (a_mg, .inl (cI, 56, .inl mg_10)), (a_mr, .inl (cI, 6, .inl mr)), (a_mx, .inl (cI, 6, .inl mx))] := hD
        refine lv_iconst (v := 0) hx hb dX6_reign_36 (by decide) ?_
        refine lv_istore (lv' := [(4, .int (0 : Int32)), (0, .ref h6), (1, .int x1), (2, .int x2), (3, .int x3)]) hx hb dX6_reign_37 hl (by decide) rfl (fun ls hl => ?_)
        obtain ⟨n_28, h⟩ := h
        refine L39 n_28 h hP hD hS (lv_sub hl [1, 2, 3, 4, 0] rfl) (fun ms_21 mh_22 H locs ls h hP hD hS hl => ?_)
        refine lv_iload_n hx hb dX6_reign_87 rfl (lv_at hl 1 rfl) ?_
        refine lv_if_ne (tgt := 98) hx hb dX6_reign_88 (by decide) (fun c_23 => ?_) (fun c_23 => ?_)
        · have h := h.2 c_23
          refine lv_aload_n hx hb dX6_reign_98 rfl (lv_at hl 0 rfl) ?_
          refine k0V_i (As := []) (n := 0) ⟨hx, hb, hml, hown, hts⟩ hK hP hD hS hA (c_X6_beliefs l D cI cC cQ h6 a_mt a_mo a_md a_mb a_ms a_mp a_mi a_mn a_mh a_mg a_mr a_mx mt my mo md mb ms_21 mp mk mi mq mn mz ma mh_22 mg_10 mr mx  _ h) gX6_reign_X6_beliefs rfl rfl ⟨rfl, rfl⟩ yoX6_beliefs ⟨Nat.le_of_ble_eq_true rfl, Nat.le_of_ble_eq_true rfl⟩ (q0 := 0) (ci := 6) rfl rfl rfl rfl hl.1 rfl (Nat.le_of_ble_eq_true rfl) dX6_reign_99 ⟨Nat.zero_le _, Nat.zero_le _⟩ (fun r_24 u H locs h hP hD hS => ?_)
          refine lv_istore (lv' := [(4, .int r_24), (0, .ref h6), (3, .int x3)]) hx hb dX6_reign_102 hl (by decide) rfl (fun ls hl => ?_)
          refine lv_aload_n hx hb dX6_reign_104 rfl (lv_at hl 1 rfl) ?_
          refine k0V_v (As := []) (n := 0) ⟨hx, hb, hml, hown, hts⟩ hK hP hD hS hA (c_X6_lets l D cI cC cQ h6 a_mt a_mo a_md a_mb a_ms a_mp a_mi a_mn a_mh a_mg a_mr a_mx mt my mo md mb ms_21 mp mk mi mq mn mz ma mh_22 mg_10 mr mx  _ h) gX6_reign_X6_lets rfl rfl ⟨rfl, rfl⟩ yoX6_lets ⟨Nat.le_of_ble_eq_true rfl, Nat.le_of_ble_eq_true rfl⟩ (q0 := 0) (ci := 6) rfl rfl rfl rfl hl.1 rfl (Nat.le_of_ble_eq_true rfl) dX6_reign_105 ⟨Nat.zero_le _, Nat.zero_le _⟩ (fun ms_25 H locs h hP hD hS => ?_)
          have hP : va_P D vwCl [(h6, .inr (6, [.ref a_mt, .int my, .ref a_mo, .ref a_md, .ref a_mb, .ref a_ms, .ref a_mp, .int mk, .ref a_mi, .int mq, .ref a_mn, .int mz, .int ma, .ref a_mh, .ref a_mg, .ref a_mr, .ref a_mx])), (a_mt, .inl (cI, 200, .inl mt)), (a_mo, .inl (cI, 16, .inl mo)), (a_md, .inl (cI, 16, .inl md)), (a_mb, .inl (cI, 56, .inl mb)), (a_ms, .inl (cI, 56, .inl ms_25)), (a_mp, .inl (cI, 448, .inl mp)), (a_mi, .inl (cI, 112, .inl mi)), (a_mn, .inl (cI, 12, .inl mn)), (a_mh, .inl (cI, 42, .inl mh_22)), (a_mg, .inl (cI, 56, .inl mg_10)), (a_mr, .inl (cI, 6, .inl mr)), (a_mx, .inl (cI, 6, .inl mx))] H := hP
          have hD : va_D A [(h6, .inr (6, [.ref a_mt, .int my, .ref a_mo, .ref a_md, .ref a_mb, .ref a_ms, .ref a_mp, .int mk, .ref a_mi, .int mq, .ref a_mn, .int mz, .int ma, .ref a_mh, .ref a_mg, .ref a_mr, .ref a_mx])), (a_mt, .inl (cI, 200, .inl mt)), (a_mo, .inl (cI, 16, .inl mo)), (a_md, .inl (cI, 16, .inl md)), (a_mb, .inl (cI, 56, .inl mb)), (a_ms, .inl (cI, 56, .inl ms_25)), (a_mp, .inl (cI, 448, .inl mp)), (a_mi, .inl (cI, 112, .inl mi)), (a_mn, .inl (cI, 12, .inl mn)), (a_mh, .inl (cI, 42, .inl mh_22)), (a_mg, .inl (cI, 56, .inl mg_10)), (a_mr, .inl (cI, 6, .inl mr)), (a_mx, .inl (cI, 6, .inl mx))] := hD
          refine lv_iload hx hb dX6_reign_108 (lv_at hl 0 rfl) ?_
          exact hret r_24 (ms_25, mh_22, mg_10) _ _ _ ls h hP hD hS dX6_reign_110
        · have h := h.1 c_23
          refine lv_aload_n hx hb dX6_reign_91 rfl (lv_at hl 0 rfl) ?_
          refine k0V_i (As := []) (n := 0) ⟨hx, hb, hml, hown, hts⟩ hK hP hD hS hA (c_X6_manyKnown l D cI cC cQ h6 a_mt a_mo a_md a_mb a_ms a_mp a_mi a_mn a_mh a_mg a_mr a_mx mt my mo md mb ms_21 mp mk mi mq mn mz ma mh_22 mg_10 mr mx  _ h) gX6_reign_X6_manyKnown rfl rfl ⟨rfl, rfl⟩ yoX6_manyKnown ⟨Nat.le_of_ble_eq_true rfl, Nat.le_of_ble_eq_true rfl⟩ (q0 := 0) (ci := 6) rfl rfl rfl rfl hl.1 rfl (Nat.le_of_ble_eq_true rfl) dX6_reign_92 ⟨Nat.zero_le _, Nat.zero_le _⟩ (fun r_26 u H locs h hP hD hS => ?_)
          refine lv_goto (tgt := 102) hx hb dX6_reign_95 (by decide) ?_
          refine lv_istore (lv' := [(4, .int r_26), (0, .ref h6), (3, .int x3)]) hx hb dX6_reign_102 hl (by decide) rfl (fun ls hl => ?_)
          refine lv_aload_n hx hb dX6_reign_104 rfl (lv_at hl 1 rfl) ?_
          refine k0V_v (As := []) (n := 0) ⟨hx, hb, hml, hown, hts⟩ hK hP hD hS hA (c_X6_lets l D cI cC cQ h6 a_mt a_mo a_md a_mb a_ms a_mp a_mi a_mn a_mh a_mg a_mr a_mx mt my mo md mb ms_21 mp mk mi mq mn mz ma mh_22 mg_10 mr mx  _ h) gX6_reign_X6_lets rfl rfl ⟨rfl, rfl⟩ yoX6_lets ⟨Nat.le_of_ble_eq_true rfl, Nat.le_of_ble_eq_true rfl⟩ (q0 := 0) (ci := 6) rfl rfl rfl rfl hl.1 rfl (Nat.le_of_ble_eq_true rfl) dX6_reign_105 ⟨Nat.zero_le _, Nat.zero_le _⟩ (fun ms_27 H locs h hP hD hS => ?_)
          have hP : va_P D vwCl [(h6, .inr (6, [.ref a_mt, .int my, .ref a_mo, .ref a_md, .ref a_mb, .ref a_ms, .ref a_mp, .int mk, .ref a_mi, .int mq, .ref a_mn, .int mz, .int ma, .ref a_mh, .ref a_mg, .ref a_mr, .ref a_mx])), (a_mt, .inl (cI, 200, .inl mt)), (a_mo, .inl (cI, 16, .inl mo)), (a_md, .inl (cI, 16, .inl md)), (a_mb, .inl (cI, 56, .inl mb)), (a_ms, .inl (cI, 56, .inl ms_27)), (a_mp, .inl (cI, 448, .inl mp)), (a_mi, .inl (cI, 112, .inl mi)), (a_mn, .inl (cI, 12, .inl mn)), (a_mh, .inl (cI, 42, .inl mh_22)), (a_mg, .inl (cI, 56, .inl mg_10)), (a_mr, .inl (cI, 6, .inl mr)), (a_mx, .inl (cI, 6, .inl mx))] H := hP
          have hD : va_D A [(h6, .inr (6, [.ref a_mt, .int my, .ref a_mo, .ref a_md, .ref a_mb, .ref a_ms, .ref a_mp, .int mk, .ref a_mi, .int mq, .ref a_mn, .int mz, .int ma, .ref a_mh, .ref a_mg, .ref a_mr, .ref a_mx])), (a_mt, .inl (cI, 200, .inl mt)), (a_mo, .inl (cI, 16, .inl mo)), (a_md, .inl (cI, 16, .inl md)), (a_mb, .inl (cI, 56, .inl mb)), (a_ms, .inl (cI, 56, .inl ms_27)), (a_mp, .inl (cI, 448, .inl mp)), (a_mi, .inl (cI, 112, .inl mi)), (a_mn, .inl (cI, 12, .inl mn)), (a_mh, .inl (cI, 42, .inl mh_22)), (a_mg, .inl (cI, 56, .inl mg_10)), (a_mr, .inl (cI, 6, .inl mr)), (a_mx, .inl (cI, 6, .inl mx))] := hD
          refine lv_iload hx hb dX6_reign_108 (lv_at hl 0 rfl) ?_
          exact hret r_26 (ms_27, mh_22, mg_10) _ _ _ ls h hP hD hS dX6_reign_110
      · have h := h.1 c_9
        refine lv_iconst (v := -1) hx hb dX6_reign_30 (by decide) ?_
        exact hret (-1 : Int32) (ms, mh, mg) _ _ _ ls h hP hD hS dX6_reign_31

/-! DoubtCourtModel.keep -/
abbrev rmX6_keep : Room := { frames := 0, cells := 0, slots := 0, locals := 0 }
theorem yoX6_keep : yX6_keep.cls ≠ "java/lang/invoke/MethodHandle" ∧ yX6_keep.cls ≠ "java/lang/invoke/VarHandle" ∧ (parseMethodDescriptor yX6_keep.desc).map (fun d => d.parameters.length) = some 0 := by decide +kernel
set_option maxHeartbeats 4000000 in
set_option maxRecDepth 100000 in
theorem c_X6_keep (l : Launch) (D : va_G) (cI cC cQ : ClassId) (h6 : Nat) (a_mt : Nat) (a_mo : Nat) (a_md : Nat) (a_mb : Nat) (a_ms : Nat) (a_mp : Nat) (a_mi : Nat) (a_mn : Nat) (a_mh : Nat) (a_mg : Nat) (a_mr : Nat) (a_mx : Nat) (mt : Nat → Int32) (my : Int32) (mo : Nat → Int32) (md : Nat → Int32) (mb : Nat → Int32) (ms : Nat → Int32) (mp : Nat → Int32) (mk : Int32) (mi : Nat → Int32) (mq : Int32) (mn : Nat → Int32) (mz : Int32) (ma : Int32) (mh : Nat → Int32) (mg : Nat → Int32) (mr : Nat → Int32) (mx : Nat → Int32) (Q : Int32 → (Nat → Int32) → Int32 → Prop) (h : wX6_keep ms mi mq Q) : Ci (S := (Nat → Int32) × (Int32)) l D cI cC cQ yX6_keep wsX6_keep rmX6_keep [.ref h6] [(h6, .inr (6, [.ref a_mt, .int my, .ref a_mo, .ref a_md, .ref a_mb, .ref a_ms, .ref a_mp, .int mk, .ref a_mi, .int mq, .ref a_mn, .int mz, .int ma, .ref a_mh, .ref a_mg, .ref a_mr, .ref a_mx])), (a_mt, .inl (cI, 200, .inl mt)), (a_mo, .inl (cI, 16, .inl mo)), (a_md, .inl (cI, 16, .inl md)), (a_mb, .inl (cI, 56, .inl mb)), (a_ms, .inl (cI, 56, .inl ms)), (a_mp, .inl (cI, 448, .inl mp)), (a_mi, .inl (cI, 112, .inl mi)), (a_mn, .inl (cI, 12, .inl mn)), (a_mh, .inl (cI, 42, .inl mh)), (a_mg, .inl (cI, 56, .inl mg)), (a_mr, .inl (cI, 6, .inl mr)), (a_mx, .inl (cI, 6, .inl mx))] (fun u => [(h6, .inr (6, [.ref a_mt, .int my, .ref a_mo, .ref a_md, .ref a_mb, .ref a_ms, .ref a_mp, .int mk, .ref a_mi, .int u.2, .ref a_mn, .int mz, .int ma, .ref a_mh, .ref a_mg, .ref a_mr, .ref a_mx])), (a_mt, .inl (cI, 200, .inl mt)), (a_mo, .inl (cI, 16, .inl mo)), (a_md, .inl (cI, 16, .inl md)), (a_mb, .inl (cI, 56, .inl mb)), (a_ms, .inl (cI, 56, .inl ms)), (a_mp, .inl (cI, 448, .inl mp)), (a_mi, .inl (cI, 112, .inl u.1)), (a_mn, .inl (cI, 12, .inl mn)), (a_mh, .inl (cI, 42, .inl mh)), (a_mg, .inl (cI, 56, .inl mg)), (a_mr, .inl (cI, 6, .inl mr)), (a_mx, .inl (cI, 6, .inl mx))]) (fun r u => Q r u.1 u.2) := by
  refine Ci_mk (cc := cX6_keep) (maxL := 2) (by decide) rfl (Nat.le_of_ble_eq_true rfl) ?_
  intro p e s m args below meth c A Z ls hx hb hml hown hts hK hA hP hD hret hl
  have hS : va_S A s.heap s.heap [] := va_S.rf
  have hin6 : ∀ w ∈ u_ws RX6 TX6 17, w ∈ wsX6_keep := by decide +kernel
  have k_0 := hts (.fieldLink RX6 100 "DoubtCourtModel" "kept" "I") (by decide +kernel)
  have k_1 := hts (.fieldLink RX6 28 "DoubtCourtModel" "images" "[I") (by decide +kernel)
  have k_2 := hts (.fieldLink RX6 22 "DoubtCourtModel" "s" "[I") (by decide +kernel)
  have hl : lv_has ls 2 [(0, .ref h6)] := hl
  have L13 : ∀ (n : Nat) {x1 : Int32} {mi : Nat → Int32} {mq : Int32} {H : Heap} {locs : List Loc} {ls : Array Slot}, wX6_keep_L13 ms mq Q n x1 mi → va_P D vwCl [(h6, .inr (6, [.ref a_mt, .int my, .ref a_mo, .ref a_md, .ref a_mb, .ref a_ms, .ref a_mp, .int mk, .ref a_mi, .int mq, .ref a_mn, .int mz, .int ma, .ref a_mh, .ref a_mg, .ref a_mr, .ref a_mx])), (a_mt, .inl (cI, 200, .inl mt)), (a_mo, .inl (cI, 16, .inl mo)), (a_md, .inl (cI, 16, .inl md)), (a_mb, .inl (cI, 56, .inl mb)), (a_ms, .inl (cI, 56, .inl ms)), (a_mp, .inl (cI, 448, .inl mp)), (a_mi, .inl (cI, 112, .inl mi)), (a_mn, .inl (cI, 12, .inl mn)), (a_mh, .inl (cI, 42, .inl mh)), (a_mg, .inl (cI, 56, .inl mg)), (a_mr, .inl (cI, 6, .inl mr)), (a_mx, .inl (cI, 6, .inl mx))] H → va_D A [(h6, .inr (6, [.ref a_mt, .int my, .ref a_mo, .ref a_md, .ref a_mb, .ref a_ms, .ref a_mp, .int mk, .ref a_mi, .int mq, .ref a_mn, .int mz, .int ma, .ref a_mh, .ref a_mg, .ref a_mr, .ref a_mx])), (a_mt, .inl (cI, 200, .inl mt)), (a_mo, .inl (cI, 16, .inl mo)), (a_md, .inl (cI, 16, .inl md)), (a_mb, .inl (cI, 56, .inl mb)), (a_ms, .inl (cI, 56, .inl ms)), (a_mp, .inl (cI, 448, .inl mp)), (a_mi, .inl (cI, 112, .inl mi)), (a_mn, .inl (cI, 12, .inl mn)), (a_mh, .inl (cI, 42, .inl mh)), (a_mg, .inl (cI, 56, .inl mg)), (a_mr, .inl (cI, 6, .inl mr)), (a_mx, .inl (cI, 6, .inl mx))] → va_S A s.heap H locs → lv_has ls 2 [(0, .ref h6), (1, .int x1)] → W p l e rmX6_keep s m args below meth c H locs 0 0 Z (F0 m 13 ls []) := by
    intro n
    induction n with
    | zero =>
      intro x1 mi mq H locs ls h hP hD hS hl
      exact (show False from h).elim
    | succ n ih =>
      intro x1 mi mq H locs ls h hP hD hS hl
      refine lv_iload_n hx hb dX6_keep_13 rfl (lv_at hl 1 rfl) ?_
      refine lv_bipush (v := 56) hx hb dX6_keep_14 (by decide) ?_
      refine lv_icmp_ge (tgt := 45) hx hb dX6_keep_16 (by decide) (fun c_3 => ?_) (fun c_3 => ?_)
      · have h := h.1 c_3
        refine lv_aload_n hx hb dX6_keep_45 rfl (lv_at hl 0 rfl) ?_
        refine lv_dup hx hb dX6_keep_46 rfl ?_
        refine va_get (D := D) (ci := 6) (v := .int mq) (C := RX6) (T := TX6) (N := 17) hx hb hts hin6 hown hK.1 hP 0 rfl rfl 9 (by decide) (k_0) (fun _ h9 => h9) rfl dX6_keep_47 ?_
        refine lv_iconst (v := 1) hx hb dX6_keep_50 (by decide) ?_
        refine lv_iadd hx hb dX6_keep_51 ?_
        refine va_put (D := D) (ci := 6) (v := .int (mq + (1 : Int32))) (ty := .int) (C := RX6) (T := TX6) (N := 17) hx hb hts hin6 tyX6 tyX6_ok nmX6 hown hK.1 hP hD hS 0 rfl rfl 9 (by decide) (k_0) (fun _ h9 => h9) rfl (by decide +kernel) rfl rfl (Nat.le_of_ble_eq_true rfl) dX6_keep_52 (fun H locs hP hD hS => ?_)
        have hP : va_P D vwCl [(h6, .inr (6, [.ref a_mt, .int my, .ref a_mo, .ref a_md, .ref a_mb, .ref a_ms, .ref a_mp, .int mk, .ref a_mi, .int (mq + (1 : Int32)), .ref a_mn, .int mz, .int ma, .ref a_mh, .ref a_mg, .ref a_mr, .ref a_mx])), (a_mt, .inl (cI, 200, .inl mt)), (a_mo, .inl (cI, 16, .inl mo)), (a_md, .inl (cI, 16, .inl md)), (a_mb, .inl (cI, 56, .inl mb)), (a_ms, .inl (cI, 56, .inl ms)), (a_mp, .inl (cI, 448, .inl mp)), (a_mi, .inl (cI, 112, .inl mi)), (a_mn, .inl (cI, 12, .inl mn)), (a_mh, .inl (cI, 42, .inl mh)), (a_mg, .inl (cI, 56, .inl mg)), (a_mr, .inl (cI, 6, .inl mr)), (a_mx, .inl (cI, 6, .inl mx))] H := hP
        have hD : va_D A [(h6, .inr (6, [.ref a_mt, .int my, .ref a_mo, .ref a_md, .ref a_mb, .ref a_ms, .ref a_mp, .int mk, .ref a_mi, .int (mq + (1 : Int32)), .ref a_mn, .int mz, .int ma, .ref a_mh, .ref a_mg, .ref a_mr, .ref a_mx])), (a_mt, .inl (cI, 200, .inl mt)), (a_mo, .inl (cI, 16, .inl mo)), (a_md, .inl (cI, 16, .inl md)), (a_mb, .inl (cI, 56, .inl mb)), (a_ms, .inl (cI, 56, .inl ms)), (a_mp, .inl (cI, 448, .inl mp)), (a_mi, .inl (cI, 112, .inl mi)), (a_mn, .inl (cI, 12, .inl mn)), (a_mh, .inl (cI, 42, .inl mh)), (a_mg, .inl (cI, 56, .inl mg)), (a_mr, .inl (cI, 6, .inl mr)), (a_mx, .inl (cI, 6, .inl mx))] := hD
        refine lv_aload_n hx hb dX6_keep_55 rfl (lv_at hl 0 rfl) ?_
        refine va_get (D := D) (ci := 6) (v := .int (mq + (1 : Int32))) (C := RX6) (T := TX6) (N := 17) hx hb hts hin6 hown hK.1 hP 0 rfl rfl 9 (by decide) (k_0) (fun _ h9 => h9) rfl dX6_keep_56 ?_
        exact hret (mq + (1 : Int32)) (mi, (mq + (1 : Int32))) _ _ _ ls h hP hD hS dX6_keep_59
      · have h := h.2 c_3
        refine lv_aload_n hx hb dX6_keep_19 rfl (lv_at hl 0 rfl) ?_
        refine va_get (D := D) (ci := 6) (v := .ref a_mi) (C := RX6) (T := TX6) (N := 17) hx hb hts hin6 hown hK.1 hP 0 rfl rfl 8 (by decide) (k_1) (fun _ h9 => h9) rfl dX6_keep_20 ?_
        refine lv_bipush (v := 56) hx hb dX6_keep_23 (by decide) ?_
        refine lv_aload_n hx hb dX6_keep_25 rfl (lv_at hl 0 rfl) ?_
        refine va_get (D := D) (ci := 6) (v := .int mq) (C := RX6) (T := TX6) (N := 17) hx hb hts hin6 hown hK.1 hP 0 rfl rfl 9 (by decide) (k_0) (fun _ h9 => h9) rfl dX6_keep_26 ?_
        refine lv_imul hx hb dX6_keep_29 ?_
        refine lv_iload_n hx hb dX6_keep_30 rfl (lv_at hl 1 rfl) ?_
        refine lv_iadd hx hb dX6_keep_31 ?_
        refine lv_aload_n hx hb dX6_keep_32 rfl (lv_at hl 0 rfl) ?_
        refine va_get (D := D) (ci := 6) (v := .ref a_ms) (C := RX6) (T := TX6) (N := 17) hx hb hts hin6 hown hK.1 hP 0 rfl rfl 5 (by decide) (k_2) (fun _ h9 => h9) rfl dX6_keep_33 ?_
        refine lv_iload_n hx hb dX6_keep_36 rfl (lv_at hl 1 rfl) ?_
        refine z_iald (k := x1.toNatClampNeg) hx hb hK.1 hP 5 rfl rfl h.1 dX6_keep_37 ?_
        have h := h.2
        refine z_iast (k := (((56 : Int32) * mq) + x1).toNatClampNeg) hx hb hK.1 hP hD hS 7 rfl rfl h.1 dX6_keep_38 (fun H locs hP hD hS => ?_)
        have h := h.2
        have hP : va_P D vwCl [(h6, .inr (6, [.ref a_mt, .int my, .ref a_mo, .ref a_md, .ref a_mb, .ref a_ms, .ref a_mp, .int mk, .ref a_mi, .int mq, .ref a_mn, .int mz, .int ma, .ref a_mh, .ref a_mg, .ref a_mr, .ref a_mx])), (a_mt, .inl (cI, 200, .inl mt)), (a_mo, .inl (cI, 16, .inl mo)), (a_md, .inl (cI, 16, .inl md)), (a_mb, .inl (cI, 56, .inl mb)), (a_ms, .inl (cI, 56, .inl ms)), (a_mp, .inl (cI, 448, .inl mp)), (a_mi, .inl (cI, 112, .inl (upd mi ((((56 : Int32) * mq) + x1).toNatClampNeg) (ms x1.toNatClampNeg)))), (a_mn, .inl (cI, 12, .inl mn)), (a_mh, .inl (cI, 42, .inl mh)), (a_mg, .inl (cI, 56, .inl mg)), (a_mr, .inl (cI, 6, .inl mr)), (a_mx, .inl (cI, 6, .inl mx))] H := hP
        have hD : va_D A [(h6, .inr (6, [.ref a_mt, .int my, .ref a_mo, .ref a_md, .ref a_mb, .ref a_ms, .ref a_mp, .int mk, .ref a_mi, .int mq, .ref a_mn, .int mz, .int ma, .ref a_mh, .ref a_mg, .ref a_mr, .ref a_mx])), (a_mt, .inl (cI, 200, .inl mt)), (a_mo, .inl (cI, 16, .inl mo)), (a_md, .inl (cI, 16, .inl md)), (a_mb, .inl (cI, 56, .inl mb)), (a_ms, .inl (cI, 56, .inl ms)), (a_mp, .inl (cI, 448, .inl mp)), (a_mi, .inl (cI, 112, .inl (upd mi ((((56 : Int32) * mq) + x1).toNatClampNeg) (ms x1.toNatClampNeg)))), (a_mn, .inl (cI, 12, .inl mn)), (a_mh, .inl (cI, 42, .inl mh)), (a_mg, .inl (cI, 56, .inl mg)), (a_mr, .inl (cI, 6, .inl mr)), (a_mx, .inl (cI, 6, .inl mx))] := hD
        refine lv_iinc (v := (x1 + (1 : Int32))) (lv' := [(1, .int (x1 + (1 : Int32))), (0, .ref h6)]) hx hb dX6_keep_39 hl (k := 1) rfl rfl (by decide) rfl (fun ls hl => ?_)
        refine lv_goto (tgt := 13) hx hb dX6_keep_42 (by decide) ?_
        exact ih h hP hD hS (lv_sub hl [1, 0] rfl)
  refine lv_aload_n hx hb dX6_keep_0 rfl (lv_at hl 0 rfl) ?_
  refine va_get (D := D) (ci := 6) (v := .int mq) (C := RX6) (T := TX6) (N := 17) hx hb hts hin6 hown hK.1 hP 0 rfl rfl 9 (by decide) (k_0) (fun _ h9 => h9) rfl dX6_keep_1 ?_
  refine lv_iconst (v := 2) hx hb dX6_keep_4 (by decide) ?_
  refine lv_icmp_ne (tgt := 11) hx hb dX6_keep_5 (by decide) (fun c_1 => ?_) (fun c_1 => ?_)
  · have h := h.2 c_1
    refine lv_iconst (v := 0) hx hb dX6_keep_11 (by decide) ?_
    refine lv_istore_n (lv' := [(1, .int (0 : Int32)), (0, .ref h6)]) hx hb dX6_keep_12 rfl hl (by decide) rfl (fun ls hl => ?_)
    obtain ⟨n_4, h⟩ := h
    exact L13 n_4 h hP hD hS (lv_sub hl [1, 0] rfl)
  · have h := h.1 c_1
    refine lv_bipush (v := -3) hx hb dX6_keep_8 (by decide) ?_
    exact hret (-3 : Int32) (mi, mq) _ _ _ ls h hP hD hS dX6_keep_10

/-! DoubtCourtModel.back -/
abbrev rmX6_back : Room := { frames := 0, cells := 0, slots := 0, locals := 0 }
theorem yoX6_back : yX6_back.cls ≠ "java/lang/invoke/MethodHandle" ∧ yX6_back.cls ≠ "java/lang/invoke/VarHandle" ∧ (parseMethodDescriptor yX6_back.desc).map (fun d => d.parameters.length) = some 0 := by decide +kernel
set_option maxHeartbeats 4000000 in
set_option maxRecDepth 100000 in
theorem c_X6_back (l : Launch) (D : va_G) (cI cC cQ : ClassId) (h6 : Nat) (a_mt : Nat) (a_mo : Nat) (a_md : Nat) (a_mb : Nat) (a_ms : Nat) (a_mp : Nat) (a_mi : Nat) (a_mn : Nat) (a_mh : Nat) (a_mg : Nat) (a_mr : Nat) (a_mx : Nat) (mt : Nat → Int32) (my : Int32) (mo : Nat → Int32) (md : Nat → Int32) (mb : Nat → Int32) (ms : Nat → Int32) (mp : Nat → Int32) (mk : Int32) (mi : Nat → Int32) (mq : Int32) (mn : Nat → Int32) (mz : Int32) (ma : Int32) (mh : Nat → Int32) (mg : Nat → Int32) (mr : Nat → Int32) (mx : Nat → Int32) (Q : Int32 → (Nat → Int32) → Int32 → Int32 → Prop) (h : wX6_back ms mk mi mq Q) : Ci (S := (Nat → Int32) × (Int32) × (Int32)) l D cI cC cQ yX6_back wsX6_back rmX6_back [.ref h6] [(h6, .inr (6, [.ref a_mt, .int my, .ref a_mo, .ref a_md, .ref a_mb, .ref a_ms, .ref a_mp, .int mk, .ref a_mi, .int mq, .ref a_mn, .int mz, .int ma, .ref a_mh, .ref a_mg, .ref a_mr, .ref a_mx])), (a_mt, .inl (cI, 200, .inl mt)), (a_mo, .inl (cI, 16, .inl mo)), (a_md, .inl (cI, 16, .inl md)), (a_mb, .inl (cI, 56, .inl mb)), (a_ms, .inl (cI, 56, .inl ms)), (a_mp, .inl (cI, 448, .inl mp)), (a_mi, .inl (cI, 112, .inl mi)), (a_mn, .inl (cI, 12, .inl mn)), (a_mh, .inl (cI, 42, .inl mh)), (a_mg, .inl (cI, 56, .inl mg)), (a_mr, .inl (cI, 6, .inl mr)), (a_mx, .inl (cI, 6, .inl mx))] (fun u => [(h6, .inr (6, [.ref a_mt, .int my, .ref a_mo, .ref a_md, .ref a_mb, .ref a_ms, .ref a_mp, .int u.2.1, .ref a_mi, .int u.2.2, .ref a_mn, .int mz, .int ma, .ref a_mh, .ref a_mg, .ref a_mr, .ref a_mx])), (a_mt, .inl (cI, 200, .inl mt)), (a_mo, .inl (cI, 16, .inl mo)), (a_md, .inl (cI, 16, .inl md)), (a_mb, .inl (cI, 56, .inl mb)), (a_ms, .inl (cI, 56, .inl u.1)), (a_mp, .inl (cI, 448, .inl mp)), (a_mi, .inl (cI, 112, .inl mi)), (a_mn, .inl (cI, 12, .inl mn)), (a_mh, .inl (cI, 42, .inl mh)), (a_mg, .inl (cI, 56, .inl mg)), (a_mr, .inl (cI, 6, .inl mr)), (a_mx, .inl (cI, 6, .inl mx))]) (fun r u => Q r u.1 u.2.1 u.2.2) := by
  refine Ci_mk (cc := cX6_back) (maxL := 2) (by decide) rfl (Nat.le_of_ble_eq_true rfl) ?_
  intro p e s m args below meth c A Z ls hx hb hml hown hts hK hA hP hD hret hl
  have hS : va_S A s.heap s.heap [] := va_S.rf
  have hin6 : ∀ w ∈ u_ws RX6 TX6 17, w ∈ wsX6_back := by decide +kernel
  have k_0 := hts (.fieldLink RX6 100 "DoubtCourtModel" "kept" "I") (by decide +kernel)
  have k_1 := hts (.fieldLink RX6 97 "DoubtCourtModel" "known" "I") (by decide +kernel)
  have k_2 := hts (.fieldLink RX6 22 "DoubtCourtModel" "s" "[I") (by decide +kernel)
  have k_3 := hts (.fieldLink RX6 28 "DoubtCourtModel" "images" "[I") (by decide +kernel)
  have hl : lv_has ls 2 [(0, .ref h6)] := hl
  have L22 : ∀ (n : Nat) {x1 : Int32} {ms : Nat → Int32} {mk : Int32} {mq : Int32} {H : Heap} {locs : List Loc} {ls : Array Slot}, wX6_back_L22 mi mq Q n x1 ms → va_P D vwCl [(h6, .inr (6, [.ref a_mt, .int my, .ref a_mo, .ref a_md, .ref a_mb, .ref a_ms, .ref a_mp, .int mk, .ref a_mi, .int mq, .ref a_mn, .int mz, .int ma, .ref a_mh, .ref a_mg, .ref a_mr, .ref a_mx])), (a_mt, .inl (cI, 200, .inl mt)), (a_mo, .inl (cI, 16, .inl mo)), (a_md, .inl (cI, 16, .inl md)), (a_mb, .inl (cI, 56, .inl mb)), (a_ms, .inl (cI, 56, .inl ms)), (a_mp, .inl (cI, 448, .inl mp)), (a_mi, .inl (cI, 112, .inl mi)), (a_mn, .inl (cI, 12, .inl mn)), (a_mh, .inl (cI, 42, .inl mh)), (a_mg, .inl (cI, 56, .inl mg)), (a_mr, .inl (cI, 6, .inl mr)), (a_mx, .inl (cI, 6, .inl mx))] H → va_D A [(h6, .inr (6, [.ref a_mt, .int my, .ref a_mo, .ref a_md, .ref a_mb, .ref a_ms, .ref a_mp, .int mk, .ref a_mi, .int mq, .ref a_mn, .int mz, .int ma, .ref a_mh, .ref a_mg, .ref a_mr, .ref a_mx])), (a_mt, .inl (cI, 200, .inl mt)), (a_mo, .inl (cI, 16, .inl mo)), (a_md, .inl (cI, 16, .inl md)), (a_mb, .inl (cI, 56, .inl mb)), (a_ms, .inl (cI, 56, .inl ms)), (a_mp, .inl (cI, 448, .inl mp)), (a_mi, .inl (cI, 112, .inl mi)), (a_mn, .inl (cI, 12, .inl mn)), (a_mh, .inl (cI, 42, .inl mh)), (a_mg, .inl (cI, 56, .inl mg)), (a_mr, .inl (cI, 6, .inl mr)), (a_mx, .inl (cI, 6, .inl mx))] → va_S A s.heap H locs → lv_has ls 2 [(0, .ref h6), (1, .int x1)] → W p l e rmX6_back s m args below meth c H locs 0 0 Z (F0 m 22 ls []) := by
    intro n
    induction n with
    | zero =>
      intro x1 ms mk mq H locs ls h hP hD hS hl
      exact (show False from h).elim
    | succ n ih =>
      intro x1 ms mk mq H locs ls h hP hD hS hl
      refine lv_iload_n hx hb dX6_back_22 rfl (lv_at hl 1 rfl) ?_
      refine lv_bipush (v := 56) hx hb dX6_back_23 (by decide) ?_
      refine lv_icmp_ge (tgt := 54) hx hb dX6_back_25 (by decide) (fun c_3 => ?_) (fun c_3 => ?_)
      · have h := h.1 c_3
        refine lv_aload_n hx hb dX6_back_54 rfl (lv_at hl 0 rfl) ?_
        refine lv_iconst (v := 0) hx hb dX6_back_55 (by decide) ?_
        refine va_put (D := D) (ci := 6) (v := .int (0 : Int32)) (ty := .int) (C := RX6) (T := TX6) (N := 17) hx hb hts hin6 tyX6 tyX6_ok nmX6 hown hK.1 hP hD hS 0 rfl rfl 7 (by decide) (k_1) (fun _ h9 => h9) rfl (by decide +kernel) rfl rfl (Nat.le_of_ble_eq_true rfl) dX6_back_56 (fun H locs hP hD hS => ?_)
        have hP : va_P D vwCl [(h6, .inr (6, [.ref a_mt, .int my, .ref a_mo, .ref a_md, .ref a_mb, .ref a_ms, .ref a_mp, .int (0 : Int32), .ref a_mi, .int mq, .ref a_mn, .int mz, .int ma, .ref a_mh, .ref a_mg, .ref a_mr, .ref a_mx])), (a_mt, .inl (cI, 200, .inl mt)), (a_mo, .inl (cI, 16, .inl mo)), (a_md, .inl (cI, 16, .inl md)), (a_mb, .inl (cI, 56, .inl mb)), (a_ms, .inl (cI, 56, .inl ms)), (a_mp, .inl (cI, 448, .inl mp)), (a_mi, .inl (cI, 112, .inl mi)), (a_mn, .inl (cI, 12, .inl mn)), (a_mh, .inl (cI, 42, .inl mh)), (a_mg, .inl (cI, 56, .inl mg)), (a_mr, .inl (cI, 6, .inl mr)), (a_mx, .inl (cI, 6, .inl mx))] H := hP
        have hD : va_D A [(h6, .inr (6, [.ref a_mt, .int my, .ref a_mo, .ref a_md, .ref a_mb, .ref a_ms, .ref a_mp, .int (0 : Int32), .ref a_mi, .int mq, .ref a_mn, .int mz, .int ma, .ref a_mh, .ref a_mg, .ref a_mr, .ref a_mx])), (a_mt, .inl (cI, 200, .inl mt)), (a_mo, .inl (cI, 16, .inl mo)), (a_md, .inl (cI, 16, .inl md)), (a_mb, .inl (cI, 56, .inl mb)), (a_ms, .inl (cI, 56, .inl ms)), (a_mp, .inl (cI, 448, .inl mp)), (a_mi, .inl (cI, 112, .inl mi)), (a_mn, .inl (cI, 12, .inl mn)), (a_mh, .inl (cI, 42, .inl mh)), (a_mg, .inl (cI, 56, .inl mg)), (a_mr, .inl (cI, 6, .inl mr)), (a_mx, .inl (cI, 6, .inl mx))] := hD
        refine lv_aload_n hx hb dX6_back_59 rfl (lv_at hl 0 rfl) ?_
        refine va_get (D := D) (ci := 6) (v := .int mq) (C := RX6) (T := TX6) (N := 17) hx hb hts hin6 hown hK.1 hP 0 rfl rfl 9 (by decide) (k_0) (fun _ h9 => h9) rfl dX6_back_60 ?_
        exact hret mq (ms, (0 : Int32), mq) _ _ _ ls h hP hD hS dX6_back_63
      · have h := h.2 c_3
        refine lv_aload_n hx hb dX6_back_28 rfl (lv_at hl 0 rfl) ?_
        refine va_get (D := D) (ci := 6) (v := .ref a_ms) (C := RX6) (T := TX6) (N := 17) hx hb hts hin6 hown hK.1 hP 0 rfl rfl 5 (by decide) (k_2) (fun _ h9 => h9) rfl dX6_back_29 ?_
        refine lv_iload_n hx hb dX6_back_32 rfl (lv_at hl 1 rfl) ?_
        refine lv_aload_n hx hb dX6_back_33 rfl (lv_at hl 0 rfl) ?_
        refine va_get (D := D) (ci := 6) (v := .ref a_mi) (C := RX6) (T := TX6) (N := 17) hx hb hts hin6 hown hK.1 hP 0 rfl rfl 8 (by decide) (k_3) (fun _ h9 => h9) rfl dX6_back_34 ?_
        refine lv_bipush (v := 56) hx hb dX6_back_37 (by decide) ?_
        refine lv_aload_n hx hb dX6_back_39 rfl (lv_at hl 0 rfl) ?_
        refine va_get (D := D) (ci := 6) (v := .int mq) (C := RX6) (T := TX6) (N := 17) hx hb hts hin6 hown hK.1 hP 0 rfl rfl 9 (by decide) (k_0) (fun _ h9 => h9) rfl dX6_back_40 ?_
        refine lv_imul hx hb dX6_back_43 ?_
        refine lv_iload_n hx hb dX6_back_44 rfl (lv_at hl 1 rfl) ?_
        refine lv_iadd hx hb dX6_back_45 ?_
        refine z_iald (k := (((56 : Int32) * mq) + x1).toNatClampNeg) hx hb hK.1 hP 7 rfl rfl h.1 dX6_back_46 ?_
        have h := h.2
        refine z_iast (k := x1.toNatClampNeg) hx hb hK.1 hP hD hS 5 rfl rfl h.1 dX6_back_47 (fun H locs hP hD hS => ?_)
        have h := h.2
        have hP : va_P D vwCl [(h6, .inr (6, [.ref a_mt, .int my, .ref a_mo, .ref a_md, .ref a_mb, .ref a_ms, .ref a_mp, .int mk, .ref a_mi, .int mq, .ref a_mn, .int mz, .int ma, .ref a_mh, .ref a_mg, .ref a_mr, .ref a_mx])), (a_mt, .inl (cI, 200, .inl mt)), (a_mo, .inl (cI, 16, .inl mo)), (a_md, .inl (cI, 16, .inl md)), (a_mb, .inl (cI, 56, .inl mb)), (a_ms, .inl (cI, 56, .inl (upd ms x1.toNatClampNeg (mi ((((56 : Int32) * mq) + x1).toNatClampNeg))))), (a_mp, .inl (cI, 448, .inl mp)), (a_mi, .inl (cI, 112, .inl mi)), (a_mn, .inl (cI, 12, .inl mn)), (a_mh, .inl (cI, 42, .inl mh)), (a_mg, .inl (cI, 56, .inl mg)), (a_mr, .inl (cI, 6, .inl mr)), (a_mx, .inl (cI, 6, .inl mx))] H := hP
        have hD : va_D A [(h6, .inr (6, [.ref a_mt, .int my, .ref a_mo, .ref a_md, .ref a_mb, .ref a_ms, .ref a_mp, .int mk, .ref a_mi, .int mq, .ref a_mn, .int mz, .int ma, .ref a_mh, .ref a_mg, .ref a_mr, .ref a_mx])), (a_mt, .inl (cI, 200, .inl mt)), (a_mo, .inl (cI, 16, .inl mo)), (a_md, .inl (cI, 16, .inl md)), (a_mb, .inl (cI, 56, .inl mb)), (a_ms, .inl (cI, 56, .inl (upd ms x1.toNatClampNeg (mi ((((56 : Int32) * mq) + x1).toNatClampNeg))))), (a_mp, .inl (cI, 448, .inl mp)), (a_mi, .inl (cI, 112, .inl mi)), (a_mn, .inl (cI, 12, .inl mn)), (a_mh, .inl (cI, 42, .inl mh)), (a_mg, .inl (cI, 56, .inl mg)), (a_mr, .inl (cI, 6, .inl mr)), (a_mx, .inl (cI, 6, .inl mx))] := hD
        refine lv_iinc (v := (x1 + (1 : Int32))) (lv' := [(1, .int (x1 + (1 : Int32))), (0, .ref h6)]) hx hb dX6_back_48 hl (k := 1) rfl rfl (by decide) rfl (fun ls hl => ?_)
        refine lv_goto (tgt := 22) hx hb dX6_back_51 (by decide) ?_
        exact ih h hP hD hS (lv_sub hl [1, 0] rfl)
  refine lv_aload_n hx hb dX6_back_0 rfl (lv_at hl 0 rfl) ?_
  refine va_get (D := D) (ci := 6) (v := .int mq) (C := RX6) (T := TX6) (N := 17) hx hb hts hin6 hown hK.1 hP 0 rfl rfl 9 (by decide) (k_0) (fun _ h9 => h9) rfl dX6_back_1 ?_
  refine lv_if_ne (tgt := 10) hx hb dX6_back_4 (by decide) (fun c_1 => ?_) (fun c_1 => ?_)
  · have h := h.2 c_1
    refine lv_aload_n hx hb dX6_back_10 rfl (lv_at hl 0 rfl) ?_
    refine lv_dup hx hb dX6_back_11 rfl ?_
    refine va_get (D := D) (ci := 6) (v := .int mq) (C := RX6) (T := TX6) (N := 17) hx hb hts hin6 hown hK.1 hP 0 rfl rfl 9 (by decide) (k_0) (fun _ h9 => h9) rfl dX6_back_12 ?_
    refine lv_iconst (v := 1) hx hb dX6_back_15 (by decide) ?_
    refine lv_isub hx hb dX6_back_16 ?_
    refine va_put (D := D) (ci := 6) (v := .int (mq - (1 : Int32))) (ty := .int) (C := RX6) (T := TX6) (N := 17) hx hb hts hin6 tyX6 tyX6_ok nmX6 hown hK.1 hP hD hS 0 rfl rfl 9 (by decide) (k_0) (fun _ h9 => h9) rfl (by decide +kernel) rfl rfl (Nat.le_of_ble_eq_true rfl) dX6_back_17 (fun H locs hP hD hS => ?_)
    have hP : va_P D vwCl [(h6, .inr (6, [.ref a_mt, .int my, .ref a_mo, .ref a_md, .ref a_mb, .ref a_ms, .ref a_mp, .int mk, .ref a_mi, .int (mq - (1 : Int32)), .ref a_mn, .int mz, .int ma, .ref a_mh, .ref a_mg, .ref a_mr, .ref a_mx])), (a_mt, .inl (cI, 200, .inl mt)), (a_mo, .inl (cI, 16, .inl mo)), (a_md, .inl (cI, 16, .inl md)), (a_mb, .inl (cI, 56, .inl mb)), (a_ms, .inl (cI, 56, .inl ms)), (a_mp, .inl (cI, 448, .inl mp)), (a_mi, .inl (cI, 112, .inl mi)), (a_mn, .inl (cI, 12, .inl mn)), (a_mh, .inl (cI, 42, .inl mh)), (a_mg, .inl (cI, 56, .inl mg)), (a_mr, .inl (cI, 6, .inl mr)), (a_mx, .inl (cI, 6, .inl mx))] H := hP
    have hD : va_D A [(h6, .inr (6, [.ref a_mt, .int my, .ref a_mo, .ref a_md, .ref a_mb, .ref a_ms, .ref a_mp, .int mk, .ref a_mi, .int (mq - (1 : Int32)), .ref a_mn, .int mz, .int ma, .ref a_mh, .ref a_mg, .ref a_mr, .ref a_mx])), (a_mt, .inl (cI, 200, .inl mt)), (a_mo, .inl (cI, 16, .inl mo)), (a_md, .inl (cI, 16, .inl md)), (a_mb, .inl (cI, 56, .inl mb)), (a_ms, .inl (cI, 56, .inl ms)), (a_mp, .inl (cI, 448, .inl mp)), (a_mi, .inl (cI, 112, .inl mi)), (a_mn, .inl (cI, 12, .inl mn)), (a_mh, .inl (cI, 42, .inl mh)), (a_mg, .inl (cI, 56, .inl mg)), (a_mr, .inl (cI, 6, .inl mr)), (a_mx, .inl (cI, 6, .inl mx))] := hD
    refine lv_iconst (v := 0) hx hb dX6_back_20 (by decide) ?_
    refine lv_istore_n (lv' := [(1, .int (0 : Int32)), (0, .ref h6)]) hx hb dX6_back_21 rfl hl (by decide) rfl (fun ls hl => ?_)
    obtain ⟨n_4, h⟩ := h
    exact L22 n_4 h hP hD hS (lv_sub hl [1, 0] rfl)
  · have h := h.1 c_1
    refine lv_bipush (v := -2) hx hb dX6_back_7 (by decide) ?_
    exact hret (-2 : Int32) (ms, mk, mq) _ _ _ ls h hP hD hS dX6_back_9

/-! DoubtCourtModel.count -/
abbrev rmX6_count : Room := { frames := 1, cells := 0, slots := 0, locals := 22 }
theorem yoX6_count : yX6_count.cls ≠ "java/lang/invoke/MethodHandle" ∧ yX6_count.cls ≠ "java/lang/invoke/VarHandle" ∧ (parseMethodDescriptor yX6_count.desc).map (fun d => d.parameters.length) = some 1 := by decide +kernel
set_option maxHeartbeats 4000000 in
set_option maxRecDepth 100000 in
theorem c_X6_count (l : Launch) (D : va_G) (cI cC cQ : ClassId) (h6 : Nat) (a_mt : Nat) (a_mo : Nat) (a_md : Nat) (a_mb : Nat) (a_ms : Nat) (a_mp : Nat) (a_mi : Nat) (a_mn : Nat) (a_mh : Nat) (a_mg : Nat) (a_mr : Nat) (a_mx : Nat) (mt : Nat → Int32) (my : Int32) (mo : Nat → Int32) (md : Nat → Int32) (mb : Nat → Int32) (ms : Nat → Int32) (mp : Nat → Int32) (mk : Int32) (mi : Nat → Int32) (mq : Int32) (mn : Nat → Int32) (mz : Int32) (ma : Int32) (mh : Nat → Int32) (mg : Nat → Int32) (mr : Nat → Int32) (mx : Nat → Int32) (x1 : Int32) (Q : Int32 → Prop) (h : wX6_count x1 my mo ms mk mq mz Q) : Ci (S := Unit) l D cI cC cQ yX6_count wsX6_count rmX6_count [.ref h6, .int x1] [(h6, .inr (6, [.ref a_mt, .int my, .ref a_mo, .ref a_md, .ref a_mb, .ref a_ms, .ref a_mp, .int mk, .ref a_mi, .int mq, .ref a_mn, .int mz, .int ma, .ref a_mh, .ref a_mg, .ref a_mr, .ref a_mx])), (a_mt, .inl (cI, 200, .inl mt)), (a_mo, .inl (cI, 16, .inl mo)), (a_md, .inl (cI, 16, .inl md)), (a_mb, .inl (cI, 56, .inl mb)), (a_ms, .inl (cI, 56, .inl ms)), (a_mp, .inl (cI, 448, .inl mp)), (a_mi, .inl (cI, 112, .inl mi)), (a_mn, .inl (cI, 12, .inl mn)), (a_mh, .inl (cI, 42, .inl mh)), (a_mg, .inl (cI, 56, .inl mg)), (a_mr, .inl (cI, 6, .inl mr)), (a_mx, .inl (cI, 6, .inl mx))] (fun _ => [(h6, .inr (6, [.ref a_mt, .int my, .ref a_mo, .ref a_md, .ref a_mb, .ref a_ms, .ref a_mp, .int mk, .ref a_mi, .int mq, .ref a_mn, .int mz, .int ma, .ref a_mh, .ref a_mg, .ref a_mr, .ref a_mx])), (a_mt, .inl (cI, 200, .inl mt)), (a_mo, .inl (cI, 16, .inl mo)), (a_md, .inl (cI, 16, .inl md)), (a_mb, .inl (cI, 56, .inl mb)), (a_ms, .inl (cI, 56, .inl ms)), (a_mp, .inl (cI, 448, .inl mp)), (a_mi, .inl (cI, 112, .inl mi)), (a_mn, .inl (cI, 12, .inl mn)), (a_mh, .inl (cI, 42, .inl mh)), (a_mg, .inl (cI, 56, .inl mg)), (a_mr, .inl (cI, 6, .inl mr)), (a_mx, .inl (cI, 6, .inl mx))]) (fun r _ => Q r) := by
  refine Ci_mk (cc := cX6_count) (maxL := 2) (by decide) rfl (Nat.le_of_ble_eq_true rfl) ?_
  intro p e s m args below meth c A Z ls hx hb hml hown hts hK hA hP hD hret hl
  have hS : va_S A s.heap s.heap [] := va_S.rf
  have hin6 : ∀ w ∈ u_ws RX6 TX6 17, w ∈ wsX6_count := by decide +kernel
  have k_0 := hts (.fieldLink RX6 13 "DoubtCourtModel" "told" "[I") (by decide +kernel)
  have k_1 := hts (.fieldLink RX6 22 "DoubtCourtModel" "s" "[I") (by decide +kernel)
  have k_2 := hts (.fieldLink RX6 103 "DoubtCourtModel" "noted" "I") (by decide +kernel)
  have k_3 := hts (.fieldLink RX6 97 "DoubtCourtModel" "known" "I") (by decide +kernel)
  have k_4 := hts (.fieldLink RX6 100 "DoubtCourtModel" "kept" "I") (by decide +kernel)
  have k_5 := hts (.fieldLink RX6 67 "DoubtCourtModel" "typed" "I") (by decide +kernel)
  have hl : lv_has ls 2 [(0, .ref h6), (1, .int x1)] := hl
  refine lv_iload_n hx hb dX6_count_0 rfl (lv_at hl 1 rfl) ?_
  rcases sw_8 x1 with c_1 | c_1 | c_1 | c_1 | c_1 | c_1 | c_1 | c_1 | c_1 | c_1
  · have h := h.1 c_1
    refine lv_tableOut (tgt := 103) hx hb dX6_count_1 c_1 (by decide) ?_
    refine lv_iconst (v := -1) hx hb dX6_count_103 (by decide) ?_
    exact hret (-1 : Int32) () _ _ _ ls h hP hD hS dX6_count_104
  · have h := h.2.1 c_1
    refine lv_tableIn (tgt := 52) (off := 51) hx hb dX6_count_1 (by rw [c_1]; decide) (by rw [c_1]; decide) (by rw [c_1]; rfl) (by decide) ?_
    refine lv_aload_n hx hb dX6_count_52 rfl (lv_at hl 0 rfl) ?_
    refine va_get (D := D) (ci := 6) (v := .ref a_mo) (C := RX6) (T := TX6) (N := 17) hx hb hts hin6 hown hK.1 hP 0 rfl rfl 2 (by decide) (k_0) (fun _ h9 => h9) rfl dX6_count_53 ?_
    refine lv_iconst (v := 0) hx hb dX6_count_56 (by decide) ?_
    refine z_iald (k := 0) hx hb hK.1 hP 2 rfl (by decide) vi_0_16 dX6_count_57 ?_
    exact hret (mo 0) () _ _ _ ls h hP hD hS dX6_count_58
  · have h := h.2.2.1 c_1
    refine lv_tableIn (tgt := 59) (off := 58) hx hb dX6_count_1 (by rw [c_1]; decide) (by rw [c_1]; decide) (by rw [c_1]; rfl) (by decide) ?_
    refine lv_aload_n hx hb dX6_count_59 rfl (lv_at hl 0 rfl) ?_
    refine va_get (D := D) (ci := 6) (v := .ref a_mo) (C := RX6) (T := TX6) (N := 17) hx hb hts hin6 hown hK.1 hP 0 rfl rfl 2 (by decide) (k_0) (fun _ h9 => h9) rfl dX6_count_60 ?_
    refine lv_iconst (v := 1) hx hb dX6_count_63 (by decide) ?_
    refine z_iald (k := 1) hx hb hK.1 hP 2 rfl (by decide) vi_1_16 dX6_count_64 ?_
    exact hret (mo 1) () _ _ _ ls h hP hD hS dX6_count_65
  · have h := h.2.2.2.1 c_1
    refine lv_tableIn (tgt := 66) (off := 65) hx hb dX6_count_1 (by rw [c_1]; decide) (by rw [c_1]; decide) (by rw [c_1]; rfl) (by decide) ?_
    refine lv_aload_n hx hb dX6_count_66 rfl (lv_at hl 0 rfl) ?_
    refine va_get (D := D) (ci := 6) (v := .ref a_ms) (C := RX6) (T := TX6) (N := 17) hx hb hts hin6 hown hK.1 hP 0 rfl rfl 5 (by decide) (k_1) (fun _ h9 => h9) rfl dX6_count_67 ?_
    refine lv_iconst (v := 0) hx hb dX6_count_70 (by decide) ?_
    refine z_iald (k := 0) hx hb hK.1 hP 5 rfl (by decide) vi_0_56 dX6_count_71 ?_
    exact hret (ms 0) () _ _ _ ls h hP hD hS dX6_count_72
  · have h := h.2.2.2.2.1 c_1
    refine lv_tableIn (tgt := 73) (off := 72) hx hb dX6_count_1 (by rw [c_1]; decide) (by rw [c_1]; decide) (by rw [c_1]; rfl) (by decide) ?_
    refine lv_aload_n hx hb dX6_count_73 rfl (lv_at hl 0 rfl) ?_
    refine k0V_i (As := []) (n := 0) ⟨hx, hb, hml, hown, hts⟩ hK hP hD hS hA (c_X6_manyKnown l D cI cC cQ h6 a_mt a_mo a_md a_mb a_ms a_mp a_mi a_mn a_mh a_mg a_mr a_mx mt my mo md mb ms mp mk mi mq mn mz ma mh mg mr mx  _ h) gX6_count_X6_manyKnown rfl rfl ⟨rfl, rfl⟩ yoX6_manyKnown ⟨Nat.le_of_ble_eq_true rfl, Nat.le_of_ble_eq_true rfl⟩ (q0 := 0) (ci := 6) rfl rfl rfl rfl hl.1 rfl (Nat.le_of_ble_eq_true rfl) dX6_count_74 ⟨Nat.zero_le _, Nat.zero_le _⟩ (fun r_2 u H locs h hP hD hS => ?_)
    exact hret r_2 () _ _ _ ls h hP hD hS dX6_count_77
  · have h := h.2.2.2.2.2.1 c_1
    refine lv_tableIn (tgt := 78) (off := 77) hx hb dX6_count_1 (by rw [c_1]; decide) (by rw [c_1]; decide) (by rw [c_1]; rfl) (by decide) ?_
    refine lv_aload_n hx hb dX6_count_78 rfl (lv_at hl 0 rfl) ?_
    refine k0V_i (As := []) (n := 0) ⟨hx, hb, hml, hown, hts⟩ hK hP hD hS hA (c_X6_beliefs l D cI cC cQ h6 a_mt a_mo a_md a_mb a_ms a_mp a_mi a_mn a_mh a_mg a_mr a_mx mt my mo md mb ms mp mk mi mq mn mz ma mh mg mr mx  _ h) gX6_count_X6_beliefs rfl rfl ⟨rfl, rfl⟩ yoX6_beliefs ⟨Nat.le_of_ble_eq_true rfl, Nat.le_of_ble_eq_true rfl⟩ (q0 := 0) (ci := 6) rfl rfl rfl rfl hl.1 rfl (Nat.le_of_ble_eq_true rfl) dX6_count_79 ⟨Nat.zero_le _, Nat.zero_le _⟩ (fun r_3 u H locs h hP hD hS => ?_)
    exact hret r_3 () _ _ _ ls h hP hD hS dX6_count_82
  · have h := h.2.2.2.2.2.2.1 c_1
    refine lv_tableIn (tgt := 83) (off := 82) hx hb dX6_count_1 (by rw [c_1]; decide) (by rw [c_1]; decide) (by rw [c_1]; rfl) (by decide) ?_
    refine lv_aload_n hx hb dX6_count_83 rfl (lv_at hl 0 rfl) ?_
    refine va_get (D := D) (ci := 6) (v := .int mz) (C := RX6) (T := TX6) (N := 17) hx hb hts hin6 hown hK.1 hP 0 rfl rfl 11 (by decide) (k_2) (fun _ h9 => h9) rfl dX6_count_84 ?_
    exact hret mz () _ _ _ ls h hP hD hS dX6_count_87
  · have h := h.2.2.2.2.2.2.2.1 c_1
    refine lv_tableIn (tgt := 88) (off := 87) hx hb dX6_count_1 (by rw [c_1]; decide) (by rw [c_1]; decide) (by rw [c_1]; rfl) (by decide) ?_
    refine lv_aload_n hx hb dX6_count_88 rfl (lv_at hl 0 rfl) ?_
    refine va_get (D := D) (ci := 6) (v := .int mk) (C := RX6) (T := TX6) (N := 17) hx hb hts hin6 hown hK.1 hP 0 rfl rfl 7 (by decide) (k_3) (fun _ h9 => h9) rfl dX6_count_89 ?_
    exact hret mk () _ _ _ ls h hP hD hS dX6_count_92
  · have h := h.2.2.2.2.2.2.2.2.1 c_1
    refine lv_tableIn (tgt := 93) (off := 92) hx hb dX6_count_1 (by rw [c_1]; decide) (by rw [c_1]; decide) (by rw [c_1]; rfl) (by decide) ?_
    refine lv_aload_n hx hb dX6_count_93 rfl (lv_at hl 0 rfl) ?_
    refine va_get (D := D) (ci := 6) (v := .int mq) (C := RX6) (T := TX6) (N := 17) hx hb hts hin6 hown hK.1 hP 0 rfl rfl 9 (by decide) (k_4) (fun _ h9 => h9) rfl dX6_count_94 ?_
    exact hret mq () _ _ _ ls h hP hD hS dX6_count_97
  · have h := h.2.2.2.2.2.2.2.2.2 c_1
    refine lv_tableIn (tgt := 98) (off := 97) hx hb dX6_count_1 (by rw [c_1]; decide) (by rw [c_1]; decide) (by rw [c_1]; rfl) (by decide) ?_
    refine lv_aload_n hx hb dX6_count_98 rfl (lv_at hl 0 rfl) ?_
    refine va_get (D := D) (ci := 6) (v := .int my) (C := RX6) (T := TX6) (N := 17) hx hb hts hin6 hown hK.1 hP 0 rfl rfl 1 (by decide) (k_5) (fun _ h9 => h9) rfl dX6_count_99 ?_
    exact hret my () _ _ _ ls h hP hD hS dX6_count_102
