/-! DoubtCourtModel.in -/
abbrev rmX6_in : Room := { frames := 0, cells := 0, slots := 0, locals := 0 }
theorem yoX6_in : yX6_in.cls ≠ "java/lang/invoke/MethodHandle" ∧ yX6_in.cls ≠ "java/lang/invoke/VarHandle" ∧ (parseMethodDescriptor yX6_in.desc).map (fun d => d.parameters.length) = some 3 := by decide +kernel
set_option maxHeartbeats 4000000 in
set_option maxRecDepth 100000 in
theorem c_X6_in (l : Launch) (D : va_G) (cI cC cQ : ClassId) (x0 : Int32) (x1 : Int32) (x2 : Int32) (Q : Int32 → Prop) (h : wX6_in x0 x1 x2 Q) : Ci (S := Unit) l D cI cC cQ yX6_in wsX6_in rmX6_in [.int x0, .int x1, .int x2] [] (fun _ => []) (fun r _ => (r = 0 ∨ r = 1) ∧ Q r) := by
  refine Cz_mk (cc := cX6_in) (maxL := 3) (by decide) rfl (Nat.le_of_ble_eq_true rfl) ?_
  intro p e s m args below meth c A Z ls hx hb hml hown hts hK hA hP hD hret hl
  have hS : va_S A s.heap s.heap [] := va_S.rf
  have hl : lv_has ls 3 [(0, .int x0), (1, .int x1), (2, .int x2)] := hl
  refine lv_iload_n hx hb dX6_in_0 rfl (lv_at hl 0 rfl) ?_
  refine lv_iload_n hx hb dX6_in_1 rfl (lv_at hl 1 rfl) ?_
  refine lv_icmp_lt (tgt := 14) hx hb dX6_in_2 (by decide) (fun c_1 => ?_) (fun c_1 => ?_)
  · have h := h.1 c_1
    refine lv_iconst (v := 0) hx hb dX6_in_14 (by decide) ?_
    exact hret (0 : Int32) () _ _ _ ls (by decide) h hP hD hS dX6_in_15
  · have h := h.2 c_1
    refine lv_iload_n hx hb dX6_in_5 rfl (lv_at hl 0 rfl) ?_
    refine lv_iload_n hx hb dX6_in_6 rfl (lv_at hl 2 rfl) ?_
    refine lv_icmp_gt (tgt := 14) hx hb dX6_in_7 (by decide) (fun c_2 => ?_) (fun c_2 => ?_)
    · have h := h.1 c_2
      refine lv_iconst (v := 0) hx hb dX6_in_14 (by decide) ?_
      exact hret (0 : Int32) () _ _ _ ls (by decide) h hP hD hS dX6_in_15
    · have h := h.2 c_2
      refine lv_iconst (v := 1) hx hb dX6_in_10 (by decide) ?_
      refine lv_goto (tgt := 15) hx hb dX6_in_11 (by decide) ?_
      exact hret (1 : Int32) () _ _ _ ls (by decide) h hP hD hS dX6_in_15

/-! DoubtCourtModel.isCourtier -/
abbrev rmX6_isCourtier : Room := { frames := 1, cells := 0, slots := 0, locals := 22 }
theorem yoX6_isCourtier : yX6_isCourtier.cls ≠ "java/lang/invoke/MethodHandle" ∧ yX6_isCourtier.cls ≠ "java/lang/invoke/VarHandle" ∧ (parseMethodDescriptor yX6_isCourtier.desc).map (fun d => d.parameters.length) = some 1 := by decide +kernel
set_option maxHeartbeats 4000000 in
set_option maxRecDepth 100000 in
theorem c_X6_isCourtier (l : Launch) (D : va_G) (cI cC cQ : ClassId) (h6 : Nat) (a_mt : Nat) (a_mo : Nat) (a_md : Nat) (a_mb : Nat) (a_ms : Nat) (a_mp : Nat) (a_mi : Nat) (a_mn : Nat) (a_mh : Nat) (a_mg : Nat) (a_mr : Nat) (a_mx : Nat) (mt : Nat → Int32) (my : Int32) (mo : Nat → Int32) (md : Nat → Int32) (mb : Nat → Int32) (ms : Nat → Int32) (mp : Nat → Int32) (mk : Int32) (mi : Nat → Int32) (mq : Int32) (mn : Nat → Int32) (mz : Int32) (ma : Int32) (mh : Nat → Int32) (mg : Nat → Int32) (mr : Nat → Int32) (mx : Nat → Int32) (x1 : Int32) (Q : Int32 → Prop) (h : wX6_isCourtier x1 mo Q) : Ci (S := Unit) l D cI cC cQ yX6_isCourtier wsX6_isCourtier rmX6_isCourtier [.ref h6, .int x1] [(h6, .inr (6, [.ref a_mt, .int my, .ref a_mo, .ref a_md, .ref a_mb, .ref a_ms, .ref a_mp, .int mk, .ref a_mi, .int mq, .ref a_mn, .int mz, .int ma, .ref a_mh, .ref a_mg, .ref a_mr, .ref a_mx])), (a_mt, .inl (cI, 200, .inl mt)), (a_mo, .inl (cI, 16, .inl mo)), (a_md, .inl (cI, 16, .inl md)), (a_mb, .inl (cI, 56, .inl mb)), (a_ms, .inl (cI, 56, .inl ms)), (a_mp, .inl (cI, 448, .inl mp)), (a_mi, .inl (cI, 112, .inl mi)), (a_mn, .inl (cI, 12, .inl mn)), (a_mh, .inl (cI, 42, .inl mh)), (a_mg, .inl (cI, 56, .inl mg)), (a_mr, .inl (cI, 6, .inl mr)), (a_mx, .inl (cI, 6, .inl mx))] (fun _ => [(h6, .inr (6, [.ref a_mt, .int my, .ref a_mo, .ref a_md, .ref a_mb, .ref a_ms, .ref a_mp, .int mk, .ref a_mi, .int mq, .ref a_mn, .int mz, .int ma, .ref a_mh, .ref a_mg, .ref a_mr, .ref a_mx])), (a_mt, .inl (cI, 200, .inl mt)), (a_mo, .inl (cI, 16, .inl mo)), (a_md, .inl (cI, 16, .inl md)), (a_mb, .inl (cI, 56, .inl mb)), (a_ms, .inl (cI, 56, .inl ms)), (a_mp, .inl (cI, 448, .inl mp)), (a_mi, .inl (cI, 112, .inl mi)), (a_mn, .inl (cI, 12, .inl mn)), (a_mh, .inl (cI, 42, .inl mh)), (a_mg, .inl (cI, 56, .inl mg)), (a_mr, .inl (cI, 6, .inl mr)), (a_mx, .inl (cI, 6, .inl mx))]) (fun r _ => (r = 0 ∨ r = 1) ∧ Q r) := by
  refine Cz_mk (cc := cX6_isCourtier) (maxL := 2) (by decide) rfl (Nat.le_of_ble_eq_true rfl) ?_
  intro p e s m args below meth c A Z ls hx hb hml hown hts hK hA hP hD hret hl
  have hS : va_S A s.heap s.heap [] := va_S.rf
  have hin6 : ∀ w ∈ u_ws RX6 TX6 17, w ∈ wsX6_isCourtier := by decide +kernel
  have k_0 := hts (.fieldLink RX6 13 "DoubtCourtModel" "told" "[I") (by decide +kernel)
  have hl : lv_has ls 2 [(0, .ref h6), (1, .int x1)] := hl
  refine lv_iload_n hx hb dX6_isCourtier_0 rfl (lv_at hl 1 rfl) ?_
  refine lv_iconst (v := 0) hx hb dX6_isCourtier_1 (by decide) ?_
  refine lv_aload_n hx hb dX6_isCourtier_2 rfl (lv_at hl 0 rfl) ?_
  refine va_get (D := D) (ci := 6) (v := .ref a_mo) (C := RX6) (T := TX6) (N := 17) hx hb hts hin6 hown hK.1 hP 0 rfl rfl 2 (by decide) (k_0) (fun _ h9 => h9) rfl dX6_isCourtier_3 ?_
  refine lv_iconst (v := 0) hx hb dX6_isCourtier_6 (by decide) ?_
  refine z_iald (k := 0) hx hb hK.1 hP 2 rfl (by decide) vi_0_16 dX6_isCourtier_7 ?_
  refine lv_iconst (v := 1) hx hb dX6_isCourtier_8 (by decide) ?_
  refine lv_isub hx hb dX6_isCourtier_9 ?_
  refine kS_i (wr := [(h6, .inr (6, [.ref a_mt, .int my, .ref a_mo, .ref a_md, .ref a_mb, .ref a_ms, .ref a_mp, .int mk, .ref a_mi, .int mq, .ref a_mn, .int mz, .int ma, .ref a_mh, .ref a_mg, .ref a_mr, .ref a_mx])), (a_mt, .inl (cI, 200, .inl mt)), (a_mo, .inl (cI, 16, .inl mo)), (a_md, .inl (cI, 16, .inl md)), (a_mb, .inl (cI, 56, .inl mb)), (a_ms, .inl (cI, 56, .inl ms)), (a_mp, .inl (cI, 448, .inl mp)), (a_mi, .inl (cI, 112, .inl mi)), (a_mn, .inl (cI, 12, .inl mn)), (a_mh, .inl (cI, 42, .inl mh)), (a_mg, .inl (cI, 56, .inl mg)), (a_mr, .inl (cI, 6, .inl mr)), (a_mx, .inl (cI, 6, .inl mx))]) (As := [.int x1, .int (0 : Int32), .int ((mo 0) - (1 : Int32))]) (n := 3) ⟨hx, hb, hml, hown, hts⟩ hK hP hD hS hA (c_X6_in l D cI cC cQ   x1 (0 : Int32) ((mo 0) - (1 : Int32)) _ h) gX6_isCourtier_X6_in rfl ⟨rfl, rfl⟩ yoX6_in ⟨Nat.le_of_ble_eq_true rfl, Nat.le_of_ble_eq_true rfl⟩ rfl hl.1 rfl (Nat.le_of_ble_eq_true rfl) dX6_isCourtier_10 ⟨Nat.zero_le _, Nat.zero_le _⟩ [] [0, 1, 2, 3, 4, 5, 6, 7, 8, 9, 10, 11, 12] rfl (by decide) rfl (by decide) (by decide) (fun r_1 u H locs h hP hD hS => ?_)
  have hP : va_P D vwCl [(h6, .inr (6, [.ref a_mt, .int my, .ref a_mo, .ref a_md, .ref a_mb, .ref a_ms, .ref a_mp, .int mk, .ref a_mi, .int mq, .ref a_mn, .int mz, .int ma, .ref a_mh, .ref a_mg, .ref a_mr, .ref a_mx])), (a_mt, .inl (cI, 200, .inl mt)), (a_mo, .inl (cI, 16, .inl mo)), (a_md, .inl (cI, 16, .inl md)), (a_mb, .inl (cI, 56, .inl mb)), (a_ms, .inl (cI, 56, .inl ms)), (a_mp, .inl (cI, 448, .inl mp)), (a_mi, .inl (cI, 112, .inl mi)), (a_mn, .inl (cI, 12, .inl mn)), (a_mh, .inl (cI, 42, .inl mh)), (a_mg, .inl (cI, 56, .inl mg)), (a_mr, .inl (cI, 6, .inl mr)), (a_mx, .inl (cI, 6, .inl mx))] H := hP
  have hD : va_D A [(h6, .inr (6, [.ref a_mt, .int my, .ref a_mo, .ref a_md, .ref a_mb, .ref a_ms, .ref a_mp, .int mk, .ref a_mi, .int mq, .ref a_mn, .int mz, .int ma, .ref a_mh, .ref a_mg, .ref a_mr, .ref a_mx])), (a_mt, .inl (cI, 200, .inl mt)), (a_mo, .inl (cI, 16, .inl mo)), (a_md, .inl (cI, 16, .inl md)), (a_mb, .inl (cI, 56, .inl mb)), (a_ms, .inl (cI, 56, .inl ms)), (a_mp, .inl (cI, 448, .inl mp)), (a_mi, .inl (cI, 112, .inl mi)), (a_mn, .inl (cI, 12, .inl mn)), (a_mh, .inl (cI, 42, .inl mh)), (a_mg, .inl (cI, 56, .inl mg)), (a_mr, .inl (cI, 6, .inl mr)), (a_mx, .inl (cI, 6, .inl mx))] := hD
  obtain ⟨b_2, h⟩ := h
  exact hret r_1 () _ _ _ ls b_2 h hP hD hS dX6_isCourtier_13

/-! DoubtCourtModel.isNews -/
abbrev rmX6_isNews : Room := { frames := 1, cells := 0, slots := 0, locals := 22 }
theorem yoX6_isNews : yX6_isNews.cls ≠ "java/lang/invoke/MethodHandle" ∧ yX6_isNews.cls ≠ "java/lang/invoke/VarHandle" ∧ (parseMethodDescriptor yX6_isNews.desc).map (fun d => d.parameters.length) = some 1 := by decide +kernel
set_option maxHeartbeats 4000000 in
set_option maxRecDepth 100000 in
theorem c_X6_isNews (l : Launch) (D : va_G) (cI cC cQ : ClassId) (h6 : Nat) (a_mt : Nat) (a_mo : Nat) (a_md : Nat) (a_mb : Nat) (a_ms : Nat) (a_mp : Nat) (a_mi : Nat) (a_mn : Nat) (a_mh : Nat) (a_mg : Nat) (a_mr : Nat) (a_mx : Nat) (mt : Nat → Int32) (my : Int32) (mo : Nat → Int32) (md : Nat → Int32) (mb : Nat → Int32) (ms : Nat → Int32) (mp : Nat → Int32) (mk : Int32) (mi : Nat → Int32) (mq : Int32) (mn : Nat → Int32) (mz : Int32) (ma : Int32) (mh : Nat → Int32) (mg : Nat → Int32) (mr : Nat → Int32) (mx : Nat → Int32) (x1 : Int32) (Q : Int32 → Prop) (h : wX6_isNews x1 mo Q) : Ci (S := Unit) l D cI cC cQ yX6_isNews wsX6_isNews rmX6_isNews [.ref h6, .int x1] [(h6, .inr (6, [.ref a_mt, .int my, .ref a_mo, .ref a_md, .ref a_mb, .ref a_ms, .ref a_mp, .int mk, .ref a_mi, .int mq, .ref a_mn, .int mz, .int ma, .ref a_mh, .ref a_mg, .ref a_mr, .ref a_mx])), (a_mt, .inl (cI, 200, .inl mt)), (a_mo, .inl (cI, 16, .inl mo)), (a_md, .inl (cI, 16, .inl md)), (a_mb, .inl (cI, 56, .inl mb)), (a_ms, .inl (cI, 56, .inl ms)), (a_mp, .inl (cI, 448, .inl mp)), (a_mi, .inl (cI, 112, .inl mi)), (a_mn, .inl (cI, 12, .inl mn)), (a_mh, .inl (cI, 42, .inl mh)), (a_mg, .inl (cI, 56, .inl mg)), (a_mr, .inl (cI, 6, .inl mr)), (a_mx, .inl (cI, 6, .inl mx))] (fun _ => [(h6, .inr (6, [.ref a_mt, .int my, .ref a_mo, .ref a_md, .ref a_mb, .ref a_ms, .ref a_mp, .int mk, .ref a_mi, .int mq, .ref a_mn, .int mz, .int ma, .ref a_mh, .ref a_mg, .ref a_mr, .ref a_mx])), (a_mt, .inl (cI, 200, .inl mt)), (a_mo, .inl (cI, 16, .inl mo)), (a_md, .inl (cI, 16, .inl md)), (a_mb, .inl (cI, 56, .inl mb)), (a_ms, .inl (cI, 56, .inl ms)), (a_mp, .inl (cI, 448, .inl mp)), (a_mi, .inl (cI, 112, .inl mi)), (a_mn, .inl (cI, 12, .inl mn)), (a_mh, .inl (cI, 42, .inl mh)), (a_mg, .inl (cI, 56, .inl mg)), (a_mr, .inl (cI, 6, .inl mr)), (a_mx, .inl (cI, 6, .inl mx))]) (fun r _ => (r = 0 ∨ r = 1) ∧ Q r) := by
  refine Cz_mk (cc := cX6_isNews) (maxL := 2) (by decide) rfl (Nat.le_of_ble_eq_true rfl) ?_
  intro p e s m args below meth c A Z ls hx hb hml hown hts hK hA hP hD hret hl
  have hS : va_S A s.heap s.heap [] := va_S.rf
  have hin6 : ∀ w ∈ u_ws RX6 TX6 17, w ∈ wsX6_isNews := by decide +kernel
  have k_0 := hts (.fieldLink RX6 13 "DoubtCourtModel" "told" "[I") (by decide +kernel)
  have hl : lv_has ls 2 [(0, .ref h6), (1, .int x1)] := hl
  refine lv_iload_n hx hb dX6_isNews_0 rfl (lv_at hl 1 rfl) ?_
  refine lv_iconst (v := 0) hx hb dX6_isNews_1 (by decide) ?_
  refine lv_aload_n hx hb dX6_isNews_2 rfl (lv_at hl 0 rfl) ?_
  refine va_get (D := D) (ci := 6) (v := .ref a_mo) (C := RX6) (T := TX6) (N := 17) hx hb hts hin6 hown hK.1 hP 0 rfl rfl 2 (by decide) (k_0) (fun _ h9 => h9) rfl dX6_isNews_3 ?_
  refine lv_iconst (v := 1) hx hb dX6_isNews_6 (by decide) ?_
  refine z_iald (k := 1) hx hb hK.1 hP 2 rfl (by decide) vi_1_16 dX6_isNews_7 ?_
  refine lv_iconst (v := 1) hx hb dX6_isNews_8 (by decide) ?_
  refine lv_isub hx hb dX6_isNews_9 ?_
  refine kS_i (wr := [(h6, .inr (6, [.ref a_mt, .int my, .ref a_mo, .ref a_md, .ref a_mb, .ref a_ms, .ref a_mp, .int mk, .ref a_mi, .int mq, .ref a_mn, .int mz, .int ma, .ref a_mh, .ref a_mg, .ref a_mr, .ref a_mx])), (a_mt, .inl (cI, 200, .inl mt)), (a_mo, .inl (cI, 16, .inl mo)), (a_md, .inl (cI, 16, .inl md)), (a_mb, .inl (cI, 56, .inl mb)), (a_ms, .inl (cI, 56, .inl ms)), (a_mp, .inl (cI, 448, .inl mp)), (a_mi, .inl (cI, 112, .inl mi)), (a_mn, .inl (cI, 12, .inl mn)), (a_mh, .inl (cI, 42, .inl mh)), (a_mg, .inl (cI, 56, .inl mg)), (a_mr, .inl (cI, 6, .inl mr)), (a_mx, .inl (cI, 6, .inl mx))]) (As := [.int x1, .int (0 : Int32), .int ((mo 1) - (1 : Int32))]) (n := 3) ⟨hx, hb, hml, hown, hts⟩ hK hP hD hS hA (c_X6_in l D cI cC cQ   x1 (0 : Int32) ((mo 1) - (1 : Int32)) _ h) gX6_isNews_X6_in rfl ⟨rfl, rfl⟩ yoX6_in ⟨Nat.le_of_ble_eq_true rfl, Nat.le_of_ble_eq_true rfl⟩ rfl hl.1 rfl (Nat.le_of_ble_eq_true rfl) dX6_isNews_10 ⟨Nat.zero_le _, Nat.zero_le _⟩ [] [0, 1, 2, 3, 4, 5, 6, 7, 8, 9, 10, 11, 12] rfl (by decide) rfl (by decide) (by decide) (fun r_1 u H locs h hP hD hS => ?_)
  have hP : va_P D vwCl [(h6, .inr (6, [.ref a_mt, .int my, .ref a_mo, .ref a_md, .ref a_mb, .ref a_ms, .ref a_mp, .int mk, .ref a_mi, .int mq, .ref a_mn, .int mz, .int ma, .ref a_mh, .ref a_mg, .ref a_mr, .ref a_mx])), (a_mt, .inl (cI, 200, .inl mt)), (a_mo, .inl (cI, 16, .inl mo)), (a_md, .inl (cI, 16, .inl md)), (a_mb, .inl (cI, 56, .inl mb)), (a_ms, .inl (cI, 56, .inl ms)), (a_mp, .inl (cI, 448, .inl mp)), (a_mi, .inl (cI, 112, .inl mi)), (a_mn, .inl (cI, 12, .inl mn)), (a_mh, .inl (cI, 42, .inl mh)), (a_mg, .inl (cI, 56, .inl mg)), (a_mr, .inl (cI, 6, .inl mr)), (a_mx, .inl (cI, 6, .inl mx))] H := hP
  have hD : va_D A [(h6, .inr (6, [.ref a_mt, .int my, .ref a_mo, .ref a_md, .ref a_mb, .ref a_ms, .ref a_mp, .int mk, .ref a_mi, .int mq, .ref a_mn, .int mz, .int ma, .ref a_mh, .ref a_mg, .ref a_mr, .ref a_mx])), (a_mt, .inl (cI, 200, .inl mt)), (a_mo, .inl (cI, 16, .inl mo)), (a_md, .inl (cI, 16, .inl md)), (a_mb, .inl (cI, 56, .inl mb)), (a_ms, .inl (cI, 56, .inl ms)), (a_mp, .inl (cI, 448, .inl mp)), (a_mi, .inl (cI, 112, .inl mi)), (a_mn, .inl (cI, 12, .inl mn)), (a_mh, .inl (cI, 42, .inl mh)), (a_mg, .inl (cI, 56, .inl mg)), (a_mr, .inl (cI, 6, .inl mr)), (a_mx, .inl (cI, 6, .inl mx))] := hD
  obtain ⟨b_2, h⟩ := h
  exact hret r_1 () _ _ _ ls b_2 h hP hD hS dX6_isNews_13

/-! DoubtCourtModel.write -/
abbrev rmX6_write : Room := { frames := 1, cells := 0, slots := 0, locals := 22 }
theorem yoX6_write : yX6_write.cls ≠ "java/lang/invoke/MethodHandle" ∧ yX6_write.cls ≠ "java/lang/invoke/VarHandle" ∧ (parseMethodDescriptor yX6_write.desc).map (fun d => d.parameters.length) = some 1 := by decide +kernel
set_option maxHeartbeats 4000000 in
set_option maxRecDepth 100000 in
theorem c_X6_write (l : Launch) (D : va_G) (cI cC cQ : ClassId) (h6 : Nat) (a_mt : Nat) (a_mo : Nat) (a_md : Nat) (a_mb : Nat) (a_ms : Nat) (a_mp : Nat) (a_mi : Nat) (a_mn : Nat) (a_mh : Nat) (a_mg : Nat) (a_mr : Nat) (a_mx : Nat) (mt : Nat → Int32) (my : Int32) (mo : Nat → Int32) (md : Nat → Int32) (mb : Nat → Int32) (ms : Nat → Int32) (mp : Nat → Int32) (mk : Int32) (mi : Nat → Int32) (mq : Int32) (mn : Nat → Int32) (mz : Int32) (ma : Int32) (mh : Nat → Int32) (mg : Nat → Int32) (mr : Nat → Int32) (mx : Nat → Int32) (x1 : Int32) (Q : Int32 → (Nat → Int32) → Int32 → Prop) (h : wX6_write x1 mt my Q) : Ci (S := (Nat → Int32) × (Int32)) l D cI cC cQ yX6_write wsX6_write rmX6_write [.ref h6, .int x1] [(h6, .inr (6, [.ref a_mt, .int my, .ref a_mo, .ref a_md, .ref a_mb, .ref a_ms, .ref a_mp, .int mk, .ref a_mi, .int mq, .ref a_mn, .int mz, .int ma, .ref a_mh, .ref a_mg, .ref a_mr, .ref a_mx])), (a_mt, .inl (cI, 200, .inl mt)), (a_mo, .inl (cI, 16, .inl mo)), (a_md, .inl (cI, 16, .inl md)), (a_mb, .inl (cI, 56, .inl mb)), (a_ms, .inl (cI, 56, .inl ms)), (a_mp, .inl (cI, 448, .inl mp)), (a_mi, .inl (cI, 112, .inl mi)), (a_mn, .inl (cI, 12, .inl mn)), (a_mh, .inl (cI, 42, .inl mh)), (a_mg, .inl (cI, 56, .inl mg)), (a_mr, .inl (cI, 6, .inl mr)), (a_mx, .inl (cI, 6, .inl mx))] (fun u => [(h6, .inr (6, [.ref a_mt, .int u.2, .ref a_mo, .ref a_md, .ref a_mb, .ref a_ms, .ref a_mp, .int mk, .ref a_mi, .int mq, .ref a_mn, .int mz, .int ma, .ref a_mh, .ref a_mg, .ref a_mr, .ref a_mx])), (a_mt, .inl (cI, 200, .inl u.1)), (a_mo, .inl (cI, 16, .inl mo)), (a_md, .inl (cI, 16, .inl md)), (a_mb, .inl (cI, 56, .inl mb)), (a_ms, .inl (cI, 56, .inl ms)), (a_mp, .inl (cI, 448, .inl mp)), (a_mi, .inl (cI, 112, .inl mi)), (a_mn, .inl (cI, 12, .inl mn)), (a_mh, .inl (cI, 42, .inl mh)), (a_mg, .inl (cI, 56, .inl mg)), (a_mr, .inl (cI, 6, .inl mr)), (a_mx, .inl (cI, 6, .inl mx))]) (fun r u => Q r u.1 u.2) := by
  refine Ci_mk (cc := cX6_write) (maxL := 2) (by decide) rfl (Nat.le_of_ble_eq_true rfl) ?_
  intro p e s m args below meth c A Z ls hx hb hml hown hts hK hA hP hD hret hl
  have hS : va_S A s.heap s.heap [] := va_S.rf
  have hin6 : ∀ w ∈ u_ws RX6 TX6 17, w ∈ wsX6_write := by decide +kernel
  have k_0 := hts (.fieldLink RX6 67 "DoubtCourtModel" "typed" "I") (by decide +kernel)
  have k_1 := hts (.fieldLink RX6 7 "DoubtCourtModel" "text" "[I") (by decide +kernel)
  have hl : lv_has ls 2 [(0, .ref h6), (1, .int x1)] := hl
  refine lv_iload_n hx hb dX6_write_0 rfl (lv_at hl 1 rfl) ?_
  refine lv_bipush (v := 32) hx hb dX6_write_1 (by decide) ?_
  refine lv_bipush (v := 126) hx hb dX6_write_3 (by decide) ?_
  refine kS_i (wr := [(h6, .inr (6, [.ref a_mt, .int my, .ref a_mo, .ref a_md, .ref a_mb, .ref a_ms, .ref a_mp, .int mk, .ref a_mi, .int mq, .ref a_mn, .int mz, .int ma, .ref a_mh, .ref a_mg, .ref a_mr, .ref a_mx])), (a_mt, .inl (cI, 200, .inl mt)), (a_mo, .inl (cI, 16, .inl mo)), (a_md, .inl (cI, 16, .inl md)), (a_mb, .inl (cI, 56, .inl mb)), (a_ms, .inl (cI, 56, .inl ms)), (a_mp, .inl (cI, 448, .inl mp)), (a_mi, .inl (cI, 112, .inl mi)), (a_mn, .inl (cI, 12, .inl mn)), (a_mh, .inl (cI, 42, .inl mh)), (a_mg, .inl (cI, 56, .inl mg)), (a_mr, .inl (cI, 6, .inl mr)), (a_mx, .inl (cI, 6, .inl mx))]) (As := [.int x1, .int (32 : Int32), .int (126 : Int32)]) (n := 3) ⟨hx, hb, hml, hown, hts⟩ hK hP hD hS hA (c_X6_in l D cI cC cQ   x1 (32 : Int32) (126 : Int32) _ h) gX6_write_X6_in rfl ⟨rfl, rfl⟩ yoX6_in ⟨Nat.le_of_ble_eq_true rfl, Nat.le_of_ble_eq_true rfl⟩ rfl hl.1 rfl (Nat.le_of_ble_eq_true rfl) dX6_write_5 ⟨Nat.zero_le _, Nat.zero_le _⟩ [] [0, 1, 2, 3, 4, 5, 6, 7, 8, 9, 10, 11, 12] rfl (by decide) rfl (by decide) (by decide) (fun r_1 u H locs h hP hD hS => ?_)
  have hP : va_P D vwCl [(h6, .inr (6, [.ref a_mt, .int my, .ref a_mo, .ref a_md, .ref a_mb, .ref a_ms, .ref a_mp, .int mk, .ref a_mi, .int mq, .ref a_mn, .int mz, .int ma, .ref a_mh, .ref a_mg, .ref a_mr, .ref a_mx])), (a_mt, .inl (cI, 200, .inl mt)), (a_mo, .inl (cI, 16, .inl mo)), (a_md, .inl (cI, 16, .inl md)), (a_mb, .inl (cI, 56, .inl mb)), (a_ms, .inl (cI, 56, .inl ms)), (a_mp, .inl (cI, 448, .inl mp)), (a_mi, .inl (cI, 112, .inl mi)), (a_mn, .inl (cI, 12, .inl mn)), (a_mh, .inl (cI, 42, .inl mh)), (a_mg, .inl (cI, 56, .inl mg)), (a_mr, .inl (cI, 6, .inl mr)), (a_mx, .inl (cI, 6, .inl mx))] H := hP
  have hD : va_D A [(h6, .inr (6, [.ref a_mt, .int my, .ref a_mo, .ref a_md, .ref a_mb, .ref a_ms, .ref a_mp, .int mk, .ref a_mi, .int mq, .ref a_mn, .int mz, .int ma, .ref a_mh, .ref a_mg, .ref a_mr, .ref a_mx])), (a_mt, .inl (cI, 200, .inl mt)), (a_mo, .inl (cI, 16, .inl mo)), (a_md, .inl (cI, 16, .inl md)), (a_mb, .inl (cI, 56, .inl mb)), (a_ms, .inl (cI, 56, .inl ms)), (a_mp, .inl (cI, 448, .inl mp)), (a_mi, .inl (cI, 112, .inl mi)), (a_mn, .inl (cI, 12, .inl mn)), (a_mh, .inl (cI, 42, .inl mh)), (a_mg, .inl (cI, 56, .inl mg)), (a_mr, .inl (cI, 6, .inl mr)), (a_mx, .inl (cI, 6, .inl mx))] := hD
  obtain ⟨b_2, h⟩ := h
  refine lv_if_ne (tgt := 13) hx hb dX6_write_8 (by decide) (fun c_3 => ?_) (fun c_3 => ?_)
  · have h := h.2 c_3
    refine lv_aload_n hx hb dX6_write_13 rfl (lv_at hl 0 rfl) ?_
    refine va_get (D := D) (ci := 6) (v := .int my) (C := RX6) (T := TX6) (N := 17) hx hb hts hin6 hown hK.1 hP 0 rfl rfl 1 (by decide) (k_0) (fun _ h9 => h9) rfl dX6_write_14 ?_
    refine lv_sipush (v := 200) hx hb dX6_write_17 (by decide) ?_
    refine lv_icmp_ne (tgt := 26) hx hb dX6_write_20 (by decide) (fun c_4 => ?_) (fun c_4 => ?_)
    · have h := h.2 c_4
      refine lv_aload_n hx hb dX6_write_26 rfl (lv_at hl 0 rfl) ?_
      refine va_get (D := D) (ci := 6) (v := .ref a_mt) (C := RX6) (T := TX6) (N := 17) hx hb hts hin6 hown hK.1 hP 0 rfl rfl 0 (by decide) (k_1) (fun _ h9 => h9) rfl dX6_write_27 ?_
      refine lv_aload_n hx hb dX6_write_30 rfl (lv_at hl 0 rfl) ?_
      refine va_get (D := D) (ci := 6) (v := .int my) (C := RX6) (T := TX6) (N := 17) hx hb hts hin6 hown hK.1 hP 0 rfl rfl 1 (by decide) (k_0) (fun _ h9 => h9) rfl dX6_write_31 ?_
      refine lv_iload_n hx hb dX6_write_34 rfl (lv_at hl 1 rfl) ?_
      refine z_iast (k := my.toNatClampNeg) hx hb hK.1 hP hD hS 1 rfl rfl h.1 dX6_write_35 (fun H locs hP hD hS => ?_)
      have h := h.2
      have hP : va_P D vwCl [(h6, .inr (6, [.ref a_mt, .int my, .ref a_mo, .ref a_md, .ref a_mb, .ref a_ms, .ref a_mp, .int mk, .ref a_mi, .int mq, .ref a_mn, .int mz, .int ma, .ref a_mh, .ref a_mg, .ref a_mr, .ref a_mx])), (a_mt, .inl (cI, 200, .inl (upd mt my.toNatClampNeg x1))), (a_mo, .inl (cI, 16, .inl mo)), (a_md, .inl (cI, 16, .inl md)), (a_mb, .inl (cI, 56, .inl mb)), (a_ms, .inl (cI, 56, .inl ms)), (a_mp, .inl (cI, 448, .inl mp)), (a_mi, .inl (cI, 112, .inl mi)), (a_mn, .inl (cI, 12, .inl mn)), (a_mh, .inl (cI, 42, .inl mh)), (a_mg, .inl (cI, 56, .inl mg)), (a_mr, .inl (cI, 6, .inl mr)), (a_mx, .inl (cI, 6, .inl mx))] H := hP
      have hD : va_D A [(h6, .inr (6, [.ref a_mt, .int my, .ref a_mo, .ref a_md, .ref a_mb, .ref a_ms, .ref a_mp, .int mk, .ref a_mi, .int mq, .ref a_mn, .int mz, .int ma, .ref a_mh, .ref a_mg, .ref a_mr, .ref a_mx])), (a_mt, .inl (cI, 200, .inl (upd mt my.toNatClampNeg x1))), (a_mo, .inl (cI, 16, .inl mo)), (a_md, .inl (cI, 16, .inl md)), (a_mb, .inl (cI, 56, .inl mb)), (a_ms, .inl (cI, 56, .inl ms)), (a_mp, .inl (cI, 448, .inl mp)), (a_mi, .inl (cI, 112, .inl mi)), (a_mn, .inl (cI, 12, .inl mn)), (a_mh, .inl (cI, 42, .inl mh)), (a_mg, .inl (cI, 56, .inl mg)), (a_mr, .inl (cI, 6, .inl mr)), (a_mx, .inl (cI, 6, .inl mx))] := hD
      refine lv_aload_n hx hb dX6_write_36 rfl (lv_at hl 0 rfl) ?_
      refine lv_dup hx hb dX6_write_37 rfl ?_
      refine va_get (D := D) (ci := 6) (v := .int my) (C := RX6) (T := TX6) (N := 17) hx hb hts hin6 hown hK.1 hP 0 rfl rfl 1 (by decide) (k_0) (fun _ h9 => h9) rfl dX6_write_38 ?_
      refine lv_iconst (v := 1) hx hb dX6_write_41 (by decide) ?_
      refine lv_iadd hx hb dX6_write_42 ?_
      refine va_put (D := D) (ci := 6) (v := .int (my + (1 : Int32))) (ty := .int) (C := RX6) (T := TX6) (N := 17) hx hb hts hin6 tyX6 tyX6_ok nmX6 hown hK.1 hP hD hS 0 rfl rfl 1 (by decide) (k_0) (fun _ h9 => h9) rfl (by decide +kernel) rfl rfl (Nat.le_of_ble_eq_true rfl) dX6_write_43 (fun H locs hP hD hS => ?_)
      have hP : va_P D vwCl [(h6, .inr (6, [.ref a_mt, .int (my + (1 : Int32)), .ref a_mo, .ref a_md, .ref a_mb, .ref a_ms, .ref a_mp, .int mk, .ref a_mi, .int mq, .ref a_mn, .int mz, .int ma, .ref a_mh, .ref a_mg, .ref a_mr, .ref a_mx])), (a_mt, .inl (cI, 200, .inl (upd mt my.toNatClampNeg x1))), (a_mo, .inl (cI, 16, .inl mo)), (a_md, .inl (cI, 16, .inl md)), (a_mb, .inl (cI, 56, .inl mb)), (a_ms, .inl (cI, 56, .inl ms)), (a_mp, .inl (cI, 448, .inl mp)), (a_mi, .inl (cI, 112, .inl mi)), (a_mn, .inl (cI, 12, .inl mn)), (a_mh, .inl (cI, 42, .inl mh)), (a_mg, .inl (cI, 56, .inl mg)), (a_mr, .inl (cI, 6, .inl mr)), (a_mx, .inl (cI, 6, .inl mx))] H := hP
      have hD : va_D A [(h6, .inr (6, [.ref a_mt, .int (my + (1 : Int32)), .ref a_mo, .ref a_md, .ref a_mb, .ref a_ms, .ref a_mp, .int mk, .ref a_mi, .int mq, .ref a_mn, .int mz, .int ma, .ref a_mh, .ref a_mg, .ref a_mr, .ref a_mx])), (a_mt, .inl (cI, 200, .inl (upd mt my.toNatClampNeg x1))), (a_mo, .inl (cI, 16, .inl mo)), (a_md, .inl (cI, 16, .inl md)), (a_mb, .inl (cI, 56, .inl mb)), (a_ms, .inl (cI, 56, .inl ms)), (a_mp, .inl (cI, 448, .inl mp)), (a_mi, .inl (cI, 112, .inl mi)), (a_mn, .inl (cI, 12, .inl mn)), (a_mh, .inl (cI, 42, .inl mh)), (a_mg, .inl (cI, 56, .inl mg)), (a_mr, .inl (cI, 6, .inl mr)), (a_mx, .inl (cI, 6, .inl mx))] := hD
      refine lv_aload_n hx hb dX6_write_46 rfl (lv_at hl 0 rfl) ?_
      refine va_get (D := D) (ci := 6) (v := .int (my + (1 : Int32))) (C := RX6) (T := TX6) (N := 17) hx hb hts hin6 hown hK.1 hP 0 rfl rfl 1 (by decide) (k_0) (fun _ h9 => h9) rfl dX6_write_47 ?_
      exact hret (my + (1 : Int32)) ((upd mt my.toNatClampNeg x1), (my + (1 : Int32))) _ _ _ ls h hP hD hS dX6_write_50
    · have h := h.1 c_4
      refine lv_bipush (v := -3) hx hb dX6_write_23 (by decide) ?_
      exact hret (-3 : Int32) (mt, my) _ _ _ ls h hP hD hS dX6_write_25
  · have h := h.1 c_3
    refine lv_iconst (v := -1) hx hb dX6_write_11 (by decide) ?_
    exact hret (-1 : Int32) (mt, my) _ _ _ ls h hP hD hS dX6_write_12

/-! DoubtCourtModel.wipe -/
abbrev rmX6_wipe : Room := { frames := 0, cells := 0, slots := 0, locals := 0 }
theorem yoX6_wipe : yX6_wipe.cls ≠ "java/lang/invoke/MethodHandle" ∧ yX6_wipe.cls ≠ "java/lang/invoke/VarHandle" ∧ (parseMethodDescriptor yX6_wipe.desc).map (fun d => d.parameters.length) = some 0 := by decide +kernel
set_option maxHeartbeats 4000000 in
set_option maxRecDepth 100000 in
theorem c_X6_wipe (l : Launch) (D : va_G) (cI cC cQ : ClassId) (h6 : Nat) (a_mt : Nat) (a_mo : Nat) (a_md : Nat) (a_mb : Nat) (a_ms : Nat) (a_mp : Nat) (a_mi : Nat) (a_mn : Nat) (a_mh : Nat) (a_mg : Nat) (a_mr : Nat) (a_mx : Nat) (mt : Nat → Int32) (my : Int32) (mo : Nat → Int32) (md : Nat → Int32) (mb : Nat → Int32) (ms : Nat → Int32) (mp : Nat → Int32) (mk : Int32) (mi : Nat → Int32) (mq : Int32) (mn : Nat → Int32) (mz : Int32) (ma : Int32) (mh : Nat → Int32) (mg : Nat → Int32) (mr : Nat → Int32) (mx : Nat → Int32) (Q : Int32 → Int32 → Prop) (h : wX6_wipe my Q) : Ci (S := (Int32)) l D cI cC cQ yX6_wipe wsX6_wipe rmX6_wipe [.ref h6] [(h6, .inr (6, [.ref a_mt, .int my, .ref a_mo, .ref a_md, .ref a_mb, .ref a_ms, .ref a_mp, .int mk, .ref a_mi, .int mq, .ref a_mn, .int mz, .int ma, .ref a_mh, .ref a_mg, .ref a_mr, .ref a_mx])), (a_mt, .inl (cI, 200, .inl mt)), (a_mo, .inl (cI, 16, .inl mo)), (a_md, .inl (cI, 16, .inl md)), (a_mb, .inl (cI, 56, .inl mb)), (a_ms, .inl (cI, 56, .inl ms)), (a_mp, .inl (cI, 448, .inl mp)), (a_mi, .inl (cI, 112, .inl mi)), (a_mn, .inl (cI, 12, .inl mn)), (a_mh, .inl (cI, 42, .inl mh)), (a_mg, .inl (cI, 56, .inl mg)), (a_mr, .inl (cI, 6, .inl mr)), (a_mx, .inl (cI, 6, .inl mx))] (fun u => [(h6, .inr (6, [.ref a_mt, .int u, .ref a_mo, .ref a_md, .ref a_mb, .ref a_ms, .ref a_mp, .int mk, .ref a_mi, .int mq, .ref a_mn, .int mz, .int ma, .ref a_mh, .ref a_mg, .ref a_mr, .ref a_mx])), (a_mt, .inl (cI, 200, .inl mt)), (a_mo, .inl (cI, 16, .inl mo)), (a_md, .inl (cI, 16, .inl md)), (a_mb, .inl (cI, 56, .inl mb)), (a_ms, .inl (cI, 56, .inl ms)), (a_mp, .inl (cI, 448, .inl mp)), (a_mi, .inl (cI, 112, .inl mi)), (a_mn, .inl (cI, 12, .inl mn)), (a_mh, .inl (cI, 42, .inl mh)), (a_mg, .inl (cI, 56, .inl mg)), (a_mr, .inl (cI, 6, .inl mr)), (a_mx, .inl (cI, 6, .inl mx))]) (fun r u => Q r u) := by
  refine Ci_mk (cc := cX6_wipe) (maxL := 2) (by decide) rfl (Nat.le_of_ble_eq_true rfl) ?_
  intro p e s m args below meth c A Z ls hx hb hml hown hts hK hA hP hD hret hl
  have hS : va_S A s.heap s.heap [] := va_S.rf
  have hin6 : ∀ w ∈ u_ws RX6 TX6 17, w ∈ wsX6_wipe := by decide +kernel
  have k_0 := hts (.fieldLink RX6 67 "DoubtCourtModel" "typed" "I") (by decide +kernel)
  have hl : lv_has ls 2 [(0, .ref h6)] := hl
  refine lv_aload_n hx hb dX6_wipe_0 rfl (lv_at hl 0 rfl) ?_
  refine va_get (D := D) (ci := 6) (v := .int my) (C := RX6) (T := TX6) (N := 17) hx hb hts hin6 hown hK.1 hP 0 rfl rfl 1 (by decide) (k_0) (fun _ h9 => h9) rfl dX6_wipe_1 ?_
  refine lv_istore_n (lv' := [(1, .int my), (0, .ref h6)]) hx hb dX6_wipe_4 rfl hl (by decide) rfl (fun ls hl => ?_)
  refine lv_aload_n hx hb dX6_wipe_5 rfl (lv_at hl 1 rfl) ?_
  refine lv_iconst (v := 0) hx hb dX6_wipe_6 (by decide) ?_
  refine va_put (D := D) (ci := 6) (v := .int (0 : Int32)) (ty := .int) (C := RX6) (T := TX6) (N := 17) hx hb hts hin6 tyX6 tyX6_ok nmX6 hown hK.1 hP hD hS 0 rfl rfl 1 (by decide) (k_0) (fun _ h9 => h9) rfl (by decide +kernel) rfl rfl (Nat.le_of_ble_eq_true rfl) dX6_wipe_7 (fun H locs hP hD hS => ?_)
  have hP : va_P D vwCl [(h6, .inr (6, [.ref a_mt, .int (0 : Int32), .ref a_mo, .ref a_md, .ref a_mb, .ref a_ms, .ref a_mp, .int mk, .ref a_mi, .int mq, .ref a_mn, .int mz, .int ma, .ref a_mh, .ref a_mg, .ref a_mr, .ref a_mx])), (a_mt, .inl (cI, 200, .inl mt)), (a_mo, .inl (cI, 16, .inl mo)), (a_md, .inl (cI, 16, .inl md)), (a_mb, .inl (cI, 56, .inl mb)), (a_ms, .inl (cI, 56, .inl ms)), (a_mp, .inl (cI, 448, .inl mp)), (a_mi, .inl (cI, 112, .inl mi)), (a_mn, .inl (cI, 12, .inl mn)), (a_mh, .inl (cI, 42, .inl mh)), (a_mg, .inl (cI, 56, .inl mg)), (a_mr, .inl (cI, 6, .inl mr)), (a_mx, .inl (cI, 6, .inl mx))] H := hP
  have hD : va_D A [(h6, .inr (6, [.ref a_mt, .int (0 : Int32), .ref a_mo, .ref a_md, .ref a_mb, .ref a_ms, .ref a_mp, .int mk, .ref a_mi, .int mq, .ref a_mn, .int mz, .int ma, .ref a_mh, .ref a_mg, .ref a_mr, .ref a_mx])), (a_mt, .inl (cI, 200, .inl mt)), (a_mo, .inl (cI, 16, .inl mo)), (a_md, .inl (cI, 16, .inl md)), (a_mb, .inl (cI, 56, .inl mb)), (a_ms, .inl (cI, 56, .inl ms)), (a_mp, .inl (cI, 448, .inl mp)), (a_mi, .inl (cI, 112, .inl mi)), (a_mn, .inl (cI, 12, .inl mn)), (a_mh, .inl (cI, 42, .inl mh)), (a_mg, .inl (cI, 56, .inl mg)), (a_mr, .inl (cI, 6, .inl mr)), (a_mx, .inl (cI, 6, .inl mx))] := hD
  refine lv_iload_n hx hb dX6_wipe_10 rfl (lv_at hl 0 rfl) ?_
  exact hret my (0 : Int32) _ _ _ ls h hP hD hS dX6_wipe_11

/-! DoubtCourtModel.letterAt -/
abbrev rmX6_letterAt : Room := { frames := 0, cells := 0, slots := 0, locals := 0 }
theorem yoX6_letterAt : yX6_letterAt.cls ≠ "java/lang/invoke/MethodHandle" ∧ yX6_letterAt.cls ≠ "java/lang/invoke/VarHandle" ∧ (parseMethodDescriptor yX6_letterAt.desc).map (fun d => d.parameters.length) = some 1 := by decide +kernel
set_option maxHeartbeats 4000000 in
set_option maxRecDepth 100000 in
theorem c_X6_letterAt (l : Launch) (D : va_G) (cI cC cQ : ClassId) (h6 : Nat) (a_mt : Nat) (a_mo : Nat) (a_md : Nat) (a_mb : Nat) (a_ms : Nat) (a_mp : Nat) (a_mi : Nat) (a_mn : Nat) (a_mh : Nat) (a_mg : Nat) (a_mr : Nat) (a_mx : Nat) (mt : Nat → Int32) (my : Int32) (mo : Nat → Int32) (md : Nat → Int32) (mb : Nat → Int32) (ms : Nat → Int32) (mp : Nat → Int32) (mk : Int32) (mi : Nat → Int32) (mq : Int32) (mn : Nat → Int32) (mz : Int32) (ma : Int32) (mh : Nat → Int32) (mg : Nat → Int32) (mr : Nat → Int32) (mx : Nat → Int32) (x1 : Int32) (Q : Int32 → Prop) (h : wX6_letterAt x1 mt my Q) : Ci (S := Unit) l D cI cC cQ yX6_letterAt wsX6_letterAt rmX6_letterAt [.ref h6, .int x1] [(h6, .inr (6, [.ref a_mt, .int my, .ref a_mo, .ref a_md, .ref a_mb, .ref a_ms, .ref a_mp, .int mk, .ref a_mi, .int mq, .ref a_mn, .int mz, .int ma, .ref a_mh, .ref a_mg, .ref a_mr, .ref a_mx])), (a_mt, .inl (cI, 200, .inl mt)), (a_mo, .inl (cI, 16, .inl mo)), (a_md, .inl (cI, 16, .inl md)), (a_mb, .inl (cI, 56, .inl mb)), (a_ms, .inl (cI, 56, .inl ms)), (a_mp, .inl (cI, 448, .inl mp)), (a_mi, .inl (cI, 112, .inl mi)), (a_mn, .inl (cI, 12, .inl mn)), (a_mh, .inl (cI, 42, .inl mh)), (a_mg, .inl (cI, 56, .inl mg)), (a_mr, .inl (cI, 6, .inl mr)), (a_mx, .inl (cI, 6, .inl mx))] (fun _ => [(h6, .inr (6, [.ref a_mt, .int my, .ref a_mo, .ref a_md, .ref a_mb, .ref a_ms, .ref a_mp, .int mk, .ref a_mi, .int mq, .ref a_mn, .int mz, .int ma, .ref a_mh, .ref a_mg, .ref a_mr, .ref a_mx])), (a_mt, .inl (cI, 200, .inl mt)), (a_mo, .inl (cI, 16, .inl mo)), (a_md, .inl (cI, 16, .inl md)), (a_mb, .inl (cI, 56, .inl mb)), (a_ms, .inl (cI, 56, .inl ms)), (a_mp, .inl (cI, 448, .inl mp)), (a_mi, .inl (cI, 112, .inl mi)), (a_mn, .inl (cI, 12, .inl mn)), (a_mh, .inl (cI, 42, .inl mh)), (a_mg, .inl (cI, 56, .inl mg)), (a_mr, .inl (cI, 6, .inl mr)), (a_mx, .inl (cI, 6, .inl mx))]) (fun r _ => Q r) := by
  refine Ci_mk (cc := cX6_letterAt) (maxL := 2) (by decide) rfl (Nat.le_of_ble_eq_true rfl) ?_
  intro p e s m args below meth c A Z ls hx hb hml hown hts hK hA hP hD hret hl
  have hS : va_S A s.heap s.heap [] := va_S.rf
  have hin6 : ∀ w ∈ u_ws RX6 TX6 17, w ∈ wsX6_letterAt := by decide +kernel
  have k_0 := hts (.fieldLink RX6 67 "DoubtCourtModel" "typed" "I") (by decide +kernel)
  have k_1 := hts (.fieldLink RX6 7 "DoubtCourtModel" "text" "[I") (by decide +kernel)
  have hl : lv_has ls 2 [(0, .ref h6), (1, .int x1)] := hl
  refine lv_iload_n hx hb dX6_letterAt_0 rfl (lv_at hl 1 rfl) ?_
  refine lv_aload_n hx hb dX6_letterAt_1 rfl (lv_at hl 0 rfl) ?_
  refine va_get (D := D) (ci := 6) (v := .int my) (C := RX6) (T := TX6) (N := 17) hx hb hts hin6 hown hK.1 hP 0 rfl rfl 1 (by decide) (k_0) (fun _ h9 => h9) rfl dX6_letterAt_2 ?_
  refine lv_icmp_ge (tgt := 17) hx hb dX6_letterAt_5 (by decide) (fun c_1 => ?_) (fun c_1 => ?_)
  · have h := h.1 c_1
    refine lv_iconst (v := -1) hx hb dX6_letterAt_17 (by decide) ?_
    exact hret (-1 : Int32) () _ _ _ ls h hP hD hS dX6_letterAt_18
  · have h := h.2 c_1
    refine lv_aload_n hx hb dX6_letterAt_8 rfl (lv_at hl 0 rfl) ?_
    refine va_get (D := D) (ci := 6) (v := .ref a_mt) (C := RX6) (T := TX6) (N := 17) hx hb hts hin6 hown hK.1 hP 0 rfl rfl 0 (by decide) (k_1) (fun _ h9 => h9) rfl dX6_letterAt_9 ?_
    refine lv_iload_n hx hb dX6_letterAt_12 rfl (lv_at hl 1 rfl) ?_
    refine z_iald (k := x1.toNatClampNeg) hx hb hK.1 hP 1 rfl rfl h.1 dX6_letterAt_13 ?_
    have h := h.2
    refine lv_goto (tgt := 18) hx hb dX6_letterAt_14 (by decide) ?_
    exact hret (mt x1.toNatClampNeg) () _ _ _ ls h hP hD hS dX6_letterAt_18

/-! DoubtCourtModel.isFigure -/
abbrev rmX6_isFigure : Room := { frames := 1, cells := 0, slots := 0, locals := 22 }
theorem yoX6_isFigure : yX6_isFigure.cls ≠ "java/lang/invoke/MethodHandle" ∧ yX6_isFigure.cls ≠ "java/lang/invoke/VarHandle" ∧ (parseMethodDescriptor yX6_isFigure.desc).map (fun d => d.parameters.length) = some 1 := by decide +kernel
set_option maxHeartbeats 4000000 in
set_option maxRecDepth 100000 in
theorem c_X6_isFigure (l : Launch) (D : va_G) (cI cC cQ : ClassId) (x0 : Int32) (Q : Int32 → Prop) (h : wX6_isFigure x0 Q) : Ci (S := Unit) l D cI cC cQ yX6_isFigure wsX6_isFigure rmX6_isFigure [.int x0] [] (fun _ => []) (fun r _ => (r = 0 ∨ r = 1) ∧ Q r) := by
  refine Cz_mk (cc := cX6_isFigure) (maxL := 1) (by decide) rfl (Nat.le_of_ble_eq_true rfl) ?_
  intro p e s m args below meth c A Z ls hx hb hml hown hts hK hA hP hD hret hl
  have hS : va_S A s.heap s.heap [] := va_S.rf
  have hl : lv_has ls 1 [(0, .int x0)] := hl
  refine lv_iload_n hx hb dX6_isFigure_0 rfl (lv_at hl 0 rfl) ?_
  refine lv_bipush (v := 48) hx hb dX6_isFigure_1 (by decide) ?_
  refine lv_bipush (v := 57) hx hb dX6_isFigure_3 (by decide) ?_
  refine k0S_i (As := [.int x0, .int (48 : Int32), .int (57 : Int32)]) (n := 3) ⟨hx, hb, hml, hown, hts⟩ hK hP hD hS hA (c_X6_in l D cI cC cQ   x0 (48 : Int32) (57 : Int32) _ h) gX6_isFigure_X6_in rfl ⟨rfl, rfl⟩ yoX6_in ⟨Nat.le_of_ble_eq_true rfl, Nat.le_of_ble_eq_true rfl⟩ rfl hl.1 rfl (Nat.le_of_ble_eq_true rfl) dX6_isFigure_5 ⟨Nat.zero_le _, Nat.zero_le _⟩ (fun r_1 u H locs h hP hD hS => ?_)
  obtain ⟨b_2, h⟩ := h
  exact hret r_1 () _ _ _ ls b_2 h hP hD hS dX6_isFigure_8

/-! DoubtCourtModel.number -/
abbrev rmX6_number : Room := { frames := 2, cells := 0, slots := 0, locals := 42 }
theorem yoX6_number : yX6_number.cls ≠ "java/lang/invoke/MethodHandle" ∧ yX6_number.cls ≠ "java/lang/invoke/VarHandle" ∧ (parseMethodDescriptor yX6_number.desc).map (fun d => d.parameters.length) = some 3 := by decide +kernel
set_option maxHeartbeats 4000000 in
set_option maxRecDepth 100000 in
theorem c_X6_number (l : Launch) (D : va_G) (cI cC cQ : ClassId) (h6 : Nat) (a_mt : Nat) (a_mo : Nat) (a_md : Nat) (a_mb : Nat) (a_ms : Nat) (a_mp : Nat) (a_mi : Nat) (a_mn : Nat) (a_mh : Nat) (a_mg : Nat) (a_mr : Nat) (a_mx : Nat) (mt : Nat → Int32) (my : Int32) (mo : Nat → Int32) (md : Nat → Int32) (mb : Nat → Int32) (ms : Nat → Int32) (mp : Nat → Int32) (mk : Int32) (mi : Nat → Int32) (mq : Int32) (mn : Nat → Int32) (mz : Int32) (ma : Int32) (mh : Nat → Int32) (mg : Nat → Int32) (mr : Nat → Int32) (mx : Nat → Int32) (x1 : Int32) (x2 : Int32) (x3 : Int32) (Q : Int32 → Int32 → Prop) (h : wX6_number x1 x2 x3 mt my ma Q) : Ci (S := (Int32)) l D cI cC cQ yX6_number wsX6_number rmX6_number [.ref h6, .int x1, .int x2, .int x3] [(h6, .inr (6, [.ref a_mt, .int my, .ref a_mo, .ref a_md, .ref a_mb, .ref a_ms, .ref a_mp, .int mk, .ref a_mi, .int mq, .ref a_mn, .int mz, .int ma, .ref a_mh, .ref a_mg, .ref a_mr, .ref a_mx])), (a_mt, .inl (cI, 200, .inl mt)), (a_mo, .inl (cI, 16, .inl mo)), (a_md, .inl (cI, 16, .inl md)), (a_mb, .inl (cI, 56, .inl mb)), (a_ms, .inl (cI, 56, .inl ms)), (a_mp, .inl (cI, 448, .inl mp)), (a_mi, .inl (cI, 112, .inl mi)), (a_mn, .inl (cI, 12, .inl mn)), (a_mh, .inl (cI, 42, .inl mh)), (a_mg, .inl (cI, 56, .inl mg)), (a_mr, .inl (cI, 6, .inl mr)), (a_mx, .inl (cI, 6, .inl mx))] (fun u => [(h6, .inr (6, [.ref a_mt, .int my, .ref a_mo, .ref a_md, .ref a_mb, .ref a_ms, .ref a_mp, .int mk, .ref a_mi, .int mq, .ref a_mn, .int mz, .int u, .ref a_mh, .ref a_mg, .ref a_mr, .ref a_mx])), (a_mt, .inl (cI, 200, .inl mt)), (a_mo, .inl (cI, 16, .inl mo)), (a_md, .inl (cI, 16, .inl md)), (a_mb, .inl (cI, 56, .inl mb)), (a_ms, .inl (cI, 56, .inl ms)), (a_mp, .inl (cI, 448, .inl mp)), (a_mi, .inl (cI, 112, .inl mi)), (a_mn, .inl (cI, 12, .inl mn)), (a_mh, .inl (cI, 42, .inl mh)), (a_mg, .inl (cI, 56, .inl mg)), (a_mr, .inl (cI, 6, .inl mr)), (a_mx, .inl (cI, 6, .inl mx))]) (fun r u => Q r u) := by
  refine Ci_mk (cc := cX6_number) (maxL := 6) (by decide) rfl (Nat.le_of_ble_eq_true rfl) ?_
  intro p e s m args below meth c A Z ls hx hb hml hown hts hK hA hP hD hret hl
  have hS : va_S A s.heap s.heap [] := va_S.rf
  have hin6 : ∀ w ∈ u_ws RX6 TX6 17, w ∈ wsX6_number := by decide +kernel
  have k_0 := hts (.fieldLink RX6 71 "DoubtCourtModel" "at" "I") (by decide +kernel)
  have hl : lv_has ls 6 [(0, .ref h6), (1, .int x1), (2, .int x2), (3, .int x3)] := hl
  refine lv_aload_n hx hb dX6_number_0 rfl (lv_at hl 0 rfl) ?_
  refine lv_aload_n hx hb dX6_number_1 rfl (lv_at hl 0 rfl) ?_
  refine va_get (D := D) (ci := 6) (v := .int ma) (C := RX6) (T := TX6) (N := 17) hx hb hts hin6 hown hK.1 hP 0 rfl rfl 12 (by decide) (k_0) (fun _ h9 => h9) rfl dX6_number_2 ?_
  refine k0V_i (As := [.int ma]) (n := 1) ⟨hx, hb, hml, hown, hts⟩ hK hP hD hS hA (c_X6_letterAt l D cI cC cQ h6 a_mt a_mo a_md a_mb a_ms a_mp a_mi a_mn a_mh a_mg a_mr a_mx mt my mo md mb ms mp mk mi mq mn mz ma mh mg mr mx ma _ h) gX6_number_X6_letterAt rfl rfl ⟨rfl, rfl⟩ yoX6_letterAt ⟨Nat.le_of_ble_eq_true rfl, Nat.le_of_ble_eq_true rfl⟩ (q0 := 0) (ci := 6) rfl rfl rfl rfl hl.1 rfl (Nat.le_of_ble_eq_true rfl) dX6_number_5 ⟨Nat.zero_le _, Nat.zero_le _⟩ (fun r_1 u H locs h hP hD hS => ?_)
  refine kS_i (wr := [(h6, .inr (6, [.ref a_mt, .int my, .ref a_mo, .ref a_md, .ref a_mb, .ref a_ms, .ref a_mp, .int mk, .ref a_mi, .int mq, .ref a_mn, .int mz, .int ma, .ref a_mh, .ref a_mg, .ref a_mr, .ref a_mx])), (a_mt, .inl (cI, 200, .inl mt)), (a_mo, .inl (cI, 16, .inl mo)), (a_md, .inl (cI, 16, .inl md)), (a_mb, .inl (cI, 56, .inl mb)), (a_ms, .inl (cI, 56, .inl ms)), (a_mp, .inl (cI, 448, .inl mp)), (a_mi, .inl (cI, 112, .inl mi)), (a_mn, .inl (cI, 12, .inl mn)), (a_mh, .inl (cI, 42, .inl mh)), (a_mg, .inl (cI, 56, .inl mg)), (a_mr, .inl (cI, 6, .inl mr)), (a_mx, .inl (cI, 6, .inl mx))]) (As := [.int r_1]) (n := 1) ⟨hx, hb, hml, hown, hts⟩ hK hP hD hS hA (c_X6_isFigure l D cI cC cQ   r_1 _ h) gX6_number_X6_isFigure rfl ⟨rfl, rfl⟩ yoX6_isFigure ⟨Nat.le_of_ble_eq_true rfl, Nat.le_of_ble_eq_true rfl⟩ rfl hl.1 rfl (Nat.le_of_ble_eq_true rfl) dX6_number_8 ⟨Nat.zero_le _, Nat.zero_le _⟩ [] [0, 1, 2, 3, 4, 5, 6, 7, 8, 9, 10, 11, 12] rfl (by decide) rfl (by decide) (by decide) (fun r_2 u H locs h hP hD hS => ?_)
  have hP : va_P D vwCl [(h6, .inr (6, [.ref a_mt, .int my, .ref a_mo, .ref a_md, .ref a_mb, .ref a_ms, .ref a_mp, .int mk, .ref a_mi, .int mq, .ref a_mn, .int mz, .int ma, .ref a_mh, .ref a_mg, .ref a_mr, .ref a_mx])), (a_mt, .inl (cI, 200, .inl mt)), (a_mo, .inl (cI, 16, .inl mo)), (a_md, .inl (cI, 16, .inl md)), (a_mb, .inl (cI, 56, .inl mb)), (a_ms, .inl (cI, 56, .inl ms)), (a_mp, .inl (cI, 448, .inl mp)), (a_mi, .inl (cI, 112, .inl mi)), (a_mn, .inl (cI, 12, .inl mn)), (a_mh, .inl (cI, 42, .inl mh)), (a_mg, .inl (cI, 56, .inl mg)), (a_mr, .inl (cI, 6, .inl mr)), (a_mx, .inl (cI, 6, .inl mx))] H := hP
  have hD : va_D A [(h6, .inr (6, [.ref a_mt, .int my, .ref a_mo, .ref a_md, .ref a_mb, .ref a_ms, .ref a_mp, .int mk, .ref a_mi, .int mq, .ref a_mn, .int mz, .int ma, .ref a_mh, .ref a_mg, .ref a_mr, .ref a_mx])), (a_mt, .inl (cI, 200, .inl mt)), (a_mo, .inl (cI, 16, .inl mo)), (a_md, .inl (cI, 16, .inl md)), (a_mb, .inl (cI, 56, .inl mb)), (a_ms, .inl (cI, 56, .inl ms)), (a_mp, .inl (cI, 448, .inl mp)), (a_mi, .inl (cI, 112, .inl mi)), (a_mn, .inl (cI, 12, .inl mn)), (a_mh, .inl (cI, 42, .inl mh)), (a_mg, .inl (cI, 56, .inl mg)), (a_mr, .inl (cI, 6, .inl mr)), (a_mx, .inl (cI, 6, .inl mx))] := hD
  obtain ⟨b_3, h⟩ := h
  refine lv_if_ne (tgt := 16) hx hb dX6_number_11 (by decide) (fun c_4 => ?_) (fun c_4 => ?_)
  · have h := h.2 c_4
    refine lv_aload_n hx hb dX6_number_16 rfl (lv_at hl 0 rfl) ?_
    refine lv_aload_n hx hb dX6_number_17 rfl (lv_at hl 0 rfl) ?_
    refine va_get (D := D) (ci := 6) (v := .int ma) (C := RX6) (T := TX6) (N := 17) hx hb hts hin6 hown hK.1 hP 0 rfl rfl 12 (by decide) (k_0) (fun _ h9 => h9) rfl dX6_number_18 ?_
    refine k0V_i (As := [.int ma]) (n := 1) ⟨hx, hb, hml, hown, hts⟩ hK hP hD hS hA (c_X6_letterAt l D cI cC cQ h6 a_mt a_mo a_md a_mb a_ms a_mp a_mi a_mn a_mh a_mg a_mr a_mx mt my mo md mb ms mp mk mi mq mn mz ma mh mg mr mx ma _ h) gX6_number_X6_letterAt rfl rfl ⟨rfl, rfl⟩ yoX6_letterAt ⟨Nat.le_of_ble_eq_true rfl, Nat.le_of_ble_eq_true rfl⟩ (q0 := 0) (ci := 6) rfl rfl rfl rfl hl.1 rfl (Nat.le_of_ble_eq_true rfl) dX6_number_21 ⟨Nat.zero_le _, Nat.zero_le _⟩ (fun r_5 u H locs h hP hD hS => ?_)
    refine lv_bipush (v := 48) hx hb dX6_number_24 (by decide) ?_
    refine lv_isub hx hb dX6_number_26 ?_
    refine lv_topi (fun v_6 ev_6 => ?_)
    have h := h v_6 ev_6
    refine lv_istore (lv' := [(4, .int v_6), (0, .ref h6), (1, .int x1), (2, .int x2), (3, .int x3)]) hx hb dX6_number_27 hl (by decide) rfl (fun ls hl => ?_)
    refine lv_aload_n hx hb dX6_number_29 rfl (lv_at hl 1 rfl) ?_
    refine lv_dup hx hb dX6_number_30 rfl ?_
    refine va_get (D := D) (ci := 6) (v := .int ma) (C := RX6) (T := TX6) (N := 17) hx hb hts hin6 hown hK.1 hP 0 rfl rfl 12 (by decide) (k_0) (fun _ h9 => h9) rfl dX6_number_31 ?_
    refine lv_iconst (v := 1) hx hb dX6_number_34 (by decide) ?_
    refine lv_iadd hx hb dX6_number_35 ?_
    refine va_put (D := D) (ci := 6) (v := .int (ma + (1 : Int32))) (ty := .int) (C := RX6) (T := TX6) (N := 17) hx hb hts hin6 tyX6 tyX6_ok nmX6 hown hK.1 hP hD hS 0 rfl rfl 12 (by decide) (k_0) (fun _ h9 => h9) rfl (by decide +kernel) rfl rfl (Nat.le_of_ble_eq_true rfl) dX6_number_36 (fun H locs hP hD hS => ?_)
    have hP : va_P D vwCl [(h6, .inr (6, [.ref a_mt, .int my, .ref a_mo, .ref a_md, .ref a_mb, .ref a_ms, .ref a_mp, .int mk, .ref a_mi, .int mq, .ref a_mn, .int mz, .int (ma + (1 : Int32)), .ref a_mh, .ref a_mg, .ref a_mr, .ref a_mx])), (a_mt, .inl (cI, 200, .inl mt)), (a_mo, .inl (cI, 16, .inl mo)), (a_md, .inl (cI, 16, .inl md)), (a_mb, .inl (cI, 56, .inl mb)), (a_ms, .inl (cI, 56, .inl ms)), (a_mp, .inl (cI, 448, .inl mp)), (a_mi, .inl (cI, 112, .inl mi)), (a_mn, .inl (cI, 12, .inl mn)), (a_mh, .inl (cI, 42, .inl mh)), (a_mg, .inl (cI, 56, .inl mg)), (a_mr, .inl (cI, 6, .inl mr)), (a_mx, .inl (cI, 6, .inl mx))] H := hP
    have hD : va_D A [(h6, .inr (6, [.ref a_mt, .int my, .ref a_mo, .ref a_md, .ref a_mb, .ref a_ms, .ref a_mp, .int mk, .ref a_mi, .int mq, .ref a_mn, .int mz, .int (ma + (1 : Int32)), .ref a_mh, .ref a_mg, .ref a_mr, .ref a_mx])), (a_mt, .inl (cI, 200, .inl mt)), (a_mo, .inl (cI, 16, .inl mo)), (a_md, .inl (cI, 16, .inl md)), (a_mb, .inl (cI, 56, .inl mb)), (a_ms, .inl (cI, 56, .inl ms)), (a_mp, .inl (cI, 448, .inl mp)), (a_mi, .inl (cI, 112, .inl mi)), (a_mn, .inl (cI, 12, .inl mn)), (a_mh, .inl (cI, 42, .inl mh)), (a_mg, .inl (cI, 56, .inl mg)), (a_mr, .inl (cI, 6, .inl mr)), (a_mx, .inl (cI, 6, .inl mx))] := hD
    refine lv_aload_n hx hb dX6_number_39 rfl (lv_at hl 1 rfl) ?_
    refine lv_aload_n hx hb dX6_number_40 rfl (lv_at hl 1 rfl) ?_
    refine va_get (D := D) (ci := 6) (v := .int (ma + (1 : Int32))) (C := RX6) (T := TX6) (N := 17) hx hb hts hin6 hown hK.1 hP 0 rfl rfl 12 (by decide) (k_0) (fun _ h9 => h9) rfl dX6_number_41 ?_
    refine k0V_i (As := [.int (ma + (1 : Int32))]) (n := 1) ⟨hx, hb, hml, hown, hts⟩ hK hP hD hS hA (c_X6_letterAt l D cI cC cQ h6 a_mt a_mo a_md a_mb a_ms a_mp a_mi a_mn a_mh a_mg a_mr a_mx mt my mo md mb ms mp mk mi mq mn mz (ma + (1 : Int32)) mh mg mr mx (ma + (1 : Int32)) _ h) gX6_number_X6_letterAt rfl rfl ⟨rfl, rfl⟩ yoX6_letterAt ⟨Nat.le_of_ble_eq_true rfl, Nat.le_of_ble_eq_true rfl⟩ (q0 := 0) (ci := 6) rfl rfl rfl rfl hl.1 rfl (Nat.le_of_ble_eq_true rfl) dX6_number_44 ⟨Nat.zero_le _, Nat.zero_le _⟩ (fun r_7 u H locs h hP hD hS => ?_)
    refine kS_i (wr := [(h6, .inr (6, [.ref a_mt, .int my, .ref a_mo, .ref a_md, .ref a_mb, .ref a_ms, .ref a_mp, .int mk, .ref a_mi, .int mq, .ref a_mn, .int mz, .int (ma + (1 : Int32)), .ref a_mh, .ref a_mg, .ref a_mr, .ref a_mx])), (a_mt, .inl (cI, 200, .inl mt)), (a_mo, .inl (cI, 16, .inl mo)), (a_md, .inl (cI, 16, .inl md)), (a_mb, .inl (cI, 56, .inl mb)), (a_ms, .inl (cI, 56, .inl ms)), (a_mp, .inl (cI, 448, .inl mp)), (a_mi, .inl (cI, 112, .inl mi)), (a_mn, .inl (cI, 12, .inl mn)), (a_mh, .inl (cI, 42, .inl mh)), (a_mg, .inl (cI, 56, .inl mg)), (a_mr, .inl (cI, 6, .inl mr)), (a_mx, .inl (cI, 6, .inl mx))]) (As := [.int r_7]) (n := 1) ⟨hx, hb, hml, hown, hts⟩ hK hP hD hS hA (c_X6_isFigure l D cI cC cQ   r_7 _ h) gX6_number_X6_isFigure rfl ⟨rfl, rfl⟩ yoX6_isFigure ⟨Nat.le_of_ble_eq_true rfl, Nat.le_of_ble_eq_true rfl⟩ rfl hl.1 rfl (Nat.le_of_ble_eq_true rfl) dX6_number_47 ⟨Nat.zero_le _, Nat.zero_le _⟩ [] [0, 1, 2, 3, 4, 5, 6, 7, 8, 9, 10, 11, 12] rfl (by decide) rfl (by decide) (by decide) (fun r_8 u H locs h hP hD hS => ?_)
    have hP : va_P D vwCl [(h6, .inr (6, [.ref a_mt, .int my, .ref a_mo, .ref a_md, .ref a_mb, .ref a_ms, .ref a_mp, .int mk, .ref a_mi, .int mq, .ref a_mn, .int mz, .int (ma + (1 : Int32)), .ref a_mh, .ref a_mg, .ref a_mr, .ref a_mx])), (a_mt, .inl (cI, 200, .inl mt)), (a_mo, .inl (cI, 16, .inl mo)), (a_md, .inl (cI, 16, .inl md)), (a_mb, .inl (cI, 56, .inl mb)), (a_ms, .inl (cI, 56, .inl ms)), (a_mp, .inl (cI, 448, .inl mp)), (a_mi, .inl (cI, 112, .inl mi)), (a_mn, .inl (cI, 12, .inl mn)), (a_mh, .inl (cI, 42, .inl mh)), (a_mg, .inl (cI, 56, .inl mg)), (a_mr, .inl (cI, 6, .inl mr)), (a_mx, .inl (cI, 6, .inl mx))] H := hP
    have hD : va_D A [(h6, .inr (6, [.ref a_mt, .int my, .ref a_mo, .ref a_md, .ref a_mb, .ref a_ms, .ref a_mp, .int mk, .ref a_mi, .int mq, .ref a_mn, .int mz, .int (ma + (1 : Int32)), .ref a_mh, .ref a_mg, .ref a_mr, .ref a_mx])), (a_mt, .inl (cI, 200, .inl mt)), (a_mo, .inl (cI, 16, .inl mo)), (a_md, .inl (cI, 16, .inl md)), (a_mb, .inl (cI, 56, .inl mb)), (a_ms, .inl (cI, 56, .inl ms)), (a_mp, .inl (cI, 448, .inl mp)), (a_mi, .inl (cI, 112, .inl mi)), (a_mn, .inl (cI, 12, .inl mn)), (a_mh, .inl (cI, 42, .inl mh)), (a_mg, .inl (cI, 56, .inl mg)), (a_mr, .inl (cI, 6, .inl mr)), (a_mx, .inl (cI, 6, .inl mx))] := hD
    obtain ⟨b_9, h⟩ := h
    refine lv_if_eq (tgt := 82) hx hb dX6_number_50 (by decide) (fun c_10 => ?_) (fun c_10 => ?_)
    · have h := h.1 c_10
      refine lv_iload hx hb dX6_number_82 (lv_at hl 0 rfl) ?_
      refine lv_iload_n hx hb dX6_number_84 rfl (lv_at hl 2 rfl) ?_
      refine lv_iload_n hx hb dX6_number_85 rfl (lv_at hl 3 rfl) ?_
      refine kS_i (wr := [(h6, .inr (6, [.ref a_mt, .int my, .ref a_mo, .ref a_md, .ref a_mb, .ref a_ms, .ref a_mp, .int mk, .ref a_mi, .int mq, .ref a_mn, .int mz, .int (ma + (1 : Int32)), .ref a_mh, .ref a_mg, .ref a_mr, .ref a_mx])), (a_mt, .inl (cI, 200, .inl mt)), (a_mo, .inl (cI, 16, .inl mo)), (a_md, .inl (cI, 16, .inl md)), (a_mb, .inl (cI, 56, .inl mb)), (a_ms, .inl (cI, 56, .inl ms)), (a_mp, .inl (cI, 448, .inl mp)), (a_mi, .inl (cI, 112, .inl mi)), (a_mn, .inl (cI, 12, .inl mn)), (a_mh, .inl (cI, 42, .inl mh)), (a_mg, .inl (cI, 56, .inl mg)), (a_mr, .inl (cI, 6, .inl mr)), (a_mx, .inl (cI, 6, .inl mx))]) (As := [.int v_6, .int x1, .int x2]) (n := 3) ⟨hx, hb, hml, hown, hts⟩ hK hP hD hS hA (c_X6_in l D cI cC cQ   v_6 x1 x2 _ h) gX6_number_X6_in rfl ⟨rfl, rfl⟩ yoX6_in ⟨Nat.le_of_ble_eq_true rfl, Nat.le_of_ble_eq_true rfl⟩ rfl hl.1 rfl (Nat.le_of_ble_eq_true rfl) dX6_number_86 ⟨Nat.zero_le _, Nat.zero_le _⟩ [] [0, 1, 2, 3, 4, 5, 6, 7, 8, 9, 10, 11, 12] rfl (by decide) rfl (by decide) (by decide) (fun r_11 u H locs h hP hD hS => ?_)
      have hP : va_P D vwCl [(h6, .inr (6, [.ref a_mt, .int my, .ref a_mo, .ref a_md, .ref a_mb, .ref a_ms, .ref a_mp, .int mk, .ref a_mi, .int mq, .ref a_mn, .int mz, .int (ma + (1 : Int32)), .ref a_mh, .ref a_mg, .ref a_mr, .ref a_mx])), (a_mt, .inl (cI, 200, .inl mt)), (a_mo, .inl (cI, 16, .inl mo)), (a_md, .inl (cI, 16, .inl md)), (a_mb, .inl (cI, 56, .inl mb)), (a_ms, .inl (cI, 56, .inl ms)), (a_mp, .inl (cI, 448, .inl mp)), (a_mi, .inl (cI, 112, .inl mi)), (a_mn, .inl (cI, 12, .inl mn)), (a_mh, .inl (cI, 42, .inl mh)), (a_mg, .inl (cI, 56, .inl mg)), (a_mr, .inl (cI, 6, .inl mr)), (a_mx, .inl (cI, 6, .inl mx))] H := hP
      have hD : va_D A [(h6, .inr (6, [.ref a_mt, .int my, .ref a_mo, .ref a_md, .ref a_mb, .ref a_ms, .ref a_mp, .int mk, .ref a_mi, .int mq, .ref a_mn, .int mz, .int (ma + (1 : Int32)), .ref a_mh, .ref a_mg, .ref a_mr, .ref a_mx])), (a_mt, .inl (cI, 200, .inl mt)), (a_mo, .inl (cI, 16, .inl mo)), (a_md, .inl (cI, 16, .inl md)), (a_mb, .inl (cI, 56, .inl mb)), (a_ms, .inl (cI, 56, .inl ms)), (a_mp, .inl (cI, 448, .inl mp)), (a_mi, .inl (cI, 112, .inl mi)), (a_mn, .inl (cI, 12, .inl mn)), (a_mh, .inl (cI, 42, .inl mh)), (a_mg, .inl (cI, 56, .inl mg)), (a_mr, .inl (cI, 6, .inl mr)), (a_mx, .inl (cI, 6, .inl mx))] := hD
      obtain ⟨b_12, h⟩ := h
      refine lv_if_eq (tgt := 108) hx hb dX6_number_89 (by decide) (fun c_13 => ?_) (fun c_13 => ?_)
      · have h := h.1 c_13
        refine lv_iconst (v := 0) hx hb dX6_number_108 (by decide) ?_
        refine lv_istore (lv' := [(5, .int (0 : Int32)), (4, .int v_6), (0, .ref h6), (1, .int x1), (2, .int x2), (3, .int x3)]) hx hb dX6_number_109 hl (by decide) rfl (fun ls hl => ?_)
        refine lv_aload_n hx hb dX6_number_111 rfl (lv_at hl 2 rfl) ?_
        refine lv_dup hx hb dX6_number_112 rfl ?_
        refine va_get (D := D) (ci := 6) (v := .int (ma + (1 : Int32))) (C := RX6) (T := TX6) (N := 17) hx hb hts hin6 hown hK.1 hP 0 rfl rfl 12 (by decide) (k_0) (fun _ h9 => h9) rfl dX6_number_113 ?_
        refine lv_iconst (v := 1) hx hb dX6_number_116 (by decide) ?_
        refine lv_iadd hx hb dX6_number_117 ?_
        refine va_put (D := D) (ci := 6) (v := .int ((ma + (1 : Int32)) + (1 : Int32))) (ty := .int) (C := RX6) (T := TX6) (N := 17) hx hb hts hin6 tyX6 tyX6_ok nmX6 hown hK.1 hP hD hS 0 rfl rfl 12 (by decide) (k_0) (fun _ h9 => h9) rfl (by decide +kernel) rfl rfl (Nat.le_of_ble_eq_true rfl) dX6_number_118 (fun H locs hP hD hS => ?_)
        have hP : va_P D vwCl [(h6, .inr (6, [.ref a_mt, .int my, .ref a_mo, .ref a_md, .ref a_mb, .ref a_ms, .ref a_mp, .int mk, .ref a_mi, .int mq, .ref a_mn, .int mz, .int ((ma + (1 : Int32)) + (1 : Int32)), .ref a_mh, .ref a_mg, .ref a_mr, .ref a_mx])), (a_mt, .inl (cI, 200, .inl mt)), (a_mo, .inl (cI, 16, .inl mo)), (a_md, .inl (cI, 16, .inl md)), (a_mb, .inl (cI, 56, .inl mb)), (a_ms, .inl (cI, 56, .inl ms)), (a_mp, .inl (cI, 448, .inl mp)), (a_mi, .inl (cI, 112, .inl mi)), (a_mn, .inl (cI, 12, .inl mn)), (a_mh, .inl (cI, 42, .inl mh)), (a_mg, .inl (cI, 56, .inl mg)), (a_mr, .inl (cI, 6, .inl mr)), (a_mx, .inl (cI, 6, .inl mx))] H := hP
        have hD : va_D A [(h6, .inr (6, [.ref a_mt, .int my, .ref a_mo, .ref a_md, .ref a_mb, .ref a_ms, .ref a_mp, .int mk, .ref a_mi, .int mq, .ref a_mn, .int mz, .int ((ma + (1 : Int32)) + (1 : Int32)), .ref a_mh, .ref a_mg, .ref a_mr, .ref a_mx])), (a_mt, .inl (cI, 200, .inl mt)), (a_mo, .inl (cI, 16, .inl mo)), (a_md, .inl (cI, 16, .inl md)), (a_mb, .inl (cI, 56, .inl mb)), (a_ms, .inl (cI, 56, .inl ms)), (a_mp, .inl (cI, 448, .inl mp)), (a_mi, .inl (cI, 112, .inl mi)), (a_mn, .inl (cI, 12, .inl mn)), (a_mh, .inl (cI, 42, .inl mh)), (a_mg, .inl (cI, 56, .inl mg)), (a_mr, .inl (cI, 6, .inl mr)), (a_mx, .inl (cI, 6, .inl mx))] := hD
        refine lv_iload hx hb dX6_number_121 (lv_at hl 0 rfl) ?_
        refine lv_if_eq (tgt := 131) hx hb dX6_number_123 (by decide) (fun _ => ?_) (fun c_ => absurd c_ (by decide))
        refine lv_iconst (v := -1) hx hb dX6_number_131 (by decide) ?_
        exact hret (-1 : Int32) ((ma + (1 : Int32)) + (1 : Int32)) _ _ _ ls h hP hD hS dX6_number_132
      · have h := h.2 c_13
        refine lv_aload_n hx hb dX6_number_92 rfl (lv_at hl 1 rfl) ?_
        refine lv_aload_n hx hb dX6_number_93 rfl (lv_at hl 1 rfl) ?_
        refine va_get (D := D) (ci := 6) (v := .int (ma + (1 : Int32))) (C := RX6) (T := TX6) (N := 17) hx hb hts hin6 hown hK.1 hP 0 rfl rfl 12 (by decide) (k_0) (fun _ h9 => h9) rfl dX6_number_94 ?_
        refine k0V_i (As := [.int (ma + (1 : Int32))]) (n := 1) ⟨hx, hb, hml, hown, hts⟩ hK hP hD hS hA (c_X6_letterAt l D cI cC cQ h6 a_mt a_mo a_md a_mb a_ms a_mp a_mi a_mn a_mh a_mg a_mr a_mx mt my mo md mb ms mp mk mi mq mn mz (ma + (1 : Int32)) mh mg mr mx (ma + (1 : Int32)) _ h) gX6_number_X6_letterAt rfl rfl ⟨rfl, rfl⟩ yoX6_letterAt ⟨Nat.le_of_ble_eq_true rfl, Nat.le_of_ble_eq_true rfl⟩ (q0 := 0) (ci := 6) rfl rfl rfl rfl hl.1 rfl (Nat.le_of_ble_eq_true rfl) dX6_number_97 ⟨Nat.zero_le _, Nat.zero_le _⟩ (fun r_14 u H locs h hP hD hS => ?_)
        refine lv_iload_n hx hb dX6_number_100 rfl (lv_at hl 4 rfl) ?_
        refine lv_icmp_ne (tgt := 108) hx hb dX6_number_101 (by decide) (fun c_15 => ?_) (fun c_15 => ?_)
        · have h := h.2 c_15
          refine lv_iconst (v := 0) hx hb dX6_number_108 (by decide) ?_
          refine lv_istore (lv' := [(5, .int (0 : Int32)), (4, .int v_6), (0, .ref h6), (1, .int x1), (2, .int x2), (3, .int x3)]) hx hb dX6_number_109 hl (by decide) rfl (fun ls hl => ?_)
          refine lv_aload_n hx hb dX6_number_111 rfl (lv_at hl 2 rfl) ?_
          refine lv_dup hx hb dX6_number_112 rfl ?_
          refine va_get (D := D) (ci := 6) (v := .int (ma + (1 : Int32))) (C := RX6) (T := TX6) (N := 17) hx hb hts hin6 hown hK.1 hP 0 rfl rfl 12 (by decide) (k_0) (fun _ h9 => h9) rfl dX6_number_113 ?_
          refine lv_iconst (v := 1) hx hb dX6_number_116 (by decide) ?_
          refine lv_iadd hx hb dX6_number_117 ?_
          refine va_put (D := D) (ci := 6) (v := .int ((ma + (1 : Int32)) + (1 : Int32))) (ty := .int) (C := RX6) (T := TX6) (N := 17) hx hb hts hin6 tyX6 tyX6_ok nmX6 hown hK.1 hP hD hS 0 rfl rfl 12 (by decide) (k_0) (fun _ h9 => h9) rfl (by decide +kernel) rfl rfl (Nat.le_of_ble_eq_true rfl) dX6_number_118 (fun H locs hP hD hS => ?_)
          have hP : va_P D vwCl [(h6, .inr (6, [.ref a_mt, .int my, .ref a_mo, .ref a_md, .ref a_mb, .ref a_ms, .ref a_mp, .int mk, .ref a_mi, .int mq, .ref a_mn, .int mz, .int ((ma + (1 : Int32)) + (1 : Int32)), .ref a_mh, .ref a_mg, .ref a_mr, .ref a_mx])), (a_mt, .inl (cI, 200, .inl mt)), (a_mo, .inl (cI, 16, .inl mo)), (a_md, .inl (cI, 16, .inl md)), (a_mb, .inl (cI, 56, .inl mb)), (a_ms, .inl (cI, 56, .inl ms)), (a_mp, .inl (cI, 448, .inl mp)), (a_mi, .inl (cI, 112, .inl mi)), (a_mn, .inl (cI, 12, .inl mn)), (a_mh, .inl (cI, 42, .inl mh)), (a_mg, .inl (cI, 56, .inl mg)), (a_mr, .inl (cI, 6, .inl mr)), (a_mx, .inl (cI, 6, .inl mx))] H := hP
          have hD : va_D A [(h6, .inr (6, [.ref a_mt, .int my, .ref a_mo, .ref a_md, .ref a_mb, .ref a_ms, .ref a_mp, .int mk, .ref a_mi, .int mq, .ref a_mn, .int mz, .int ((ma + (1 : Int32)) + (1 : Int32)), .ref a_mh, .ref a_mg, .ref a_mr, .ref a_mx])), (a_mt, .inl (cI, 200, .inl mt)), (a_mo, .inl (cI, 16, .inl mo)), (a_md, .inl (cI, 16, .inl md)), (a_mb, .inl (cI, 56, .inl mb)), (a_ms, .inl (cI, 56, .inl ms)), (a_mp, .inl (cI, 448, .inl mp)), (a_mi, .inl (cI, 112, .inl mi)), (a_mn, .inl (cI, 12, .inl mn)), (a_mh, .inl (cI, 42, .inl mh)), (a_mg, .inl (cI, 56, .inl mg)), (a_mr, .inl (cI, 6, .inl mr)), (a_mx, .inl (cI, 6, .inl mx))] := hD
          refine lv_iload hx hb dX6_number_121 (lv_at hl 0 rfl) ?_
          refine lv_if_eq (tgt := 131) hx hb dX6_number_123 (by decide) (fun _ => ?_) (fun c_ => absurd c_ (by decide))
          refine lv_iconst (v := -1) hx hb dX6_number_131 (by decide) ?_
          exact hret (-1 : Int32) ((ma + (1 : Int32)) + (1 : Int32)) _ _ _ ls h hP hD hS dX6_number_132
        · have h := h.1 c_15
          refine lv_iconst (v := 1) hx hb dX6_number_104 (by decide) ?_
          refine lv_goto (tgt := 109) hx hb dX6_number_105 (by decide) ?_
          refine lv_istore (lv' := [(5, .int (1 : Int32)), (4, .int v_6), (0, .ref h6), (1, .int x1), (2, .int x2), (3, .int x3)]) hx hb dX6_number_109 hl (by decide) rfl (fun ls hl => ?_)
          refine lv_aload_n hx hb dX6_number_111 rfl (lv_at hl 2 rfl) ?_
          refine lv_dup hx hb dX6_number_112 rfl ?_
          refine va_get (D := D) (ci := 6) (v := .int (ma + (1 : Int32))) (C := RX6) (T := TX6) (N := 17) hx hb hts hin6 hown hK.1 hP 0 rfl rfl 12 (by decide) (k_0) (fun _ h9 => h9) rfl dX6_number_113 ?_
          refine lv_iconst (v := 1) hx hb dX6_number_116 (by decide) ?_
          refine lv_iadd hx hb dX6_number_117 ?_
          refine va_put (D := D) (ci := 6) (v := .int ((ma + (1 : Int32)) + (1 : Int32))) (ty := .int) (C := RX6) (T := TX6) (N := 17) hx hb hts hin6 tyX6 tyX6_ok nmX6 hown hK.1 hP hD hS 0 rfl rfl 12 (by decide) (k_0) (fun _ h9 => h9) rfl (by decide +kernel) rfl rfl (Nat.le_of_ble_eq_true rfl) dX6_number_118 (fun H locs hP hD hS => ?_)
          have hP : va_P D vwCl [(h6, .inr (6, [.ref a_mt, .int my, .ref a_mo, .ref a_md, .ref a_mb, .ref a_ms, .ref a_mp, .int mk, .ref a_mi, .int mq, .ref a_mn, .int mz, .int ((ma + (1 : Int32)) + (1 : Int32)), .ref a_mh, .ref a_mg, .ref a_mr, .ref a_mx])), (a_mt, .inl (cI, 200, .inl mt)), (a_mo, .inl (cI, 16, .inl mo)), (a_md, .inl (cI, 16, .inl md)), (a_mb, .inl (cI, 56, .inl mb)), (a_ms, .inl (cI, 56, .inl ms)), (a_mp, .inl (cI, 448, .inl mp)), (a_mi, .inl (cI, 112, .inl mi)), (a_mn, .inl (cI, 12, .inl mn)), (a_mh, .inl (cI, 42, .inl mh)), (a_mg, .inl (cI, 56, .inl mg)), (a_mr, .inl (cI, 6, .inl mr)), (a_mx, .inl (cI, 6, .inl mx))] H := hP
          have hD : va_D A [(h6, .inr (6, [.ref a_mt, .int my, .ref a_mo, .ref a_md, .ref a_mb, .ref a_ms, .ref a_mp, .int mk, .ref a_mi, .int mq, .ref a_mn, .int mz, .int ((ma + (1 : Int32)) + (1 : Int32)), .ref a_mh, .ref a_mg, .ref a_mr, .ref a_mx])), (a_mt, .inl (cI, 200, .inl mt)), (a_mo, .inl (cI, 16, .inl mo)), (a_md, .inl (cI, 16, .inl md)), (a_mb, .inl (cI, 56, .inl mb)), (a_ms, .inl (cI, 56, .inl ms)), (a_mp, .inl (cI, 448, .inl mp)), (a_mi, .inl (cI, 112, .inl mi)), (a_mn, .inl (cI, 12, .inl mn)), (a_mh, .inl (cI, 42, .inl mh)), (a_mg, .inl (cI, 56, .inl mg)), (a_mr, .inl (cI, 6, .inl mr)), (a_mx, .inl (cI, 6, .inl mx))] := hD
          refine lv_iload hx hb dX6_number_121 (lv_at hl 0 rfl) ?_
          refine lv_if_eq (tgt := 131) hx hb dX6_number_123 (by decide) (fun c_ => absurd c_ (by decide)) (fun _ => ?_)
          refine lv_iload hx hb dX6_number_126 (lv_at hl 1 rfl) ?_
          refine lv_goto (tgt := 132) hx hb dX6_number_128 (by decide) ?_
          exact hret v_6 ((ma + (1 : Int32)) + (1 : Int32)) _ _ _ ls h hP hD hS dX6_number_132
    · have h := h.2 c_10
      refine lv_bipush (v := 10) hx hb dX6_number_53 (by decide) ?_
      refine lv_iload hx hb dX6_number_55 (lv_at hl 0 rfl) ?_
      refine lv_imul hx hb dX6_number_57 ?_
      refine lv_aload_n hx hb dX6_number_58 rfl (lv_at hl 1 rfl) ?_
      refine lv_aload_n hx hb dX6_number_59 rfl (lv_at hl 1 rfl) ?_
      refine va_get (D := D) (ci := 6) (v := .int (ma + (1 : Int32))) (C := RX6) (T := TX6) (N := 17) hx hb hts hin6 hown hK.1 hP 0 rfl rfl 12 (by decide) (k_0) (fun _ h9 => h9) rfl dX6_number_60 ?_
      refine k0V_i (As := [.int (ma + (1 : Int32))]) (n := 1) ⟨hx, hb, hml, hown, hts⟩ hK hP hD hS hA (c_X6_letterAt l D cI cC cQ h6 a_mt a_mo a_md a_mb a_ms a_mp a_mi a_mn a_mh a_mg a_mr a_mx mt my mo md mb ms mp mk mi mq mn mz (ma + (1 : Int32)) mh mg mr mx (ma + (1 : Int32)) _ h) gX6_number_X6_letterAt rfl rfl ⟨rfl, rfl⟩ yoX6_letterAt ⟨Nat.le_of_ble_eq_true rfl, Nat.le_of_ble_eq_true rfl⟩ (q0 := 0) (ci := 6) rfl rfl rfl rfl hl.1 rfl (Nat.le_of_ble_eq_true rfl) dX6_number_63 ⟨Nat.zero_le _, Nat.zero_le _⟩ (fun r_16 u H locs h hP hD hS => ?_)
      refine lv_iadd hx hb dX6_number_66 ?_
      refine lv_bipush (v := 48) hx hb dX6_number_67 (by decide) ?_
      refine lv_isub hx hb dX6_number_69 ?_
      refine lv_topi (fun v_17 ev_17 => ?_)
      have h := h v_17 ev_17
      refine lv_istore (lv' := [(4, .int v_17), (0, .ref h6), (1, .int x1), (2, .int x2), (3, .int x3)]) hx hb dX6_number_70 hl (by decide) rfl (fun ls hl => ?_)
      refine lv_aload_n hx hb dX6_number_72 rfl (lv_at hl 1 rfl) ?_
      refine lv_dup hx hb dX6_number_73 rfl ?_
      refine va_get (D := D) (ci := 6) (v := .int (ma + (1 : Int32))) (C := RX6) (T := TX6) (N := 17) hx hb hts hin6 hown hK.1 hP 0 rfl rfl 12 (by decide) (k_0) (fun _ h9 => h9) rfl dX6_number_74 ?_
      refine lv_iconst (v := 1) hx hb dX6_number_77 (by decide) ?_
      refine lv_iadd hx hb dX6_number_78 ?_
      refine va_put (D := D) (ci := 6) (v := .int ((ma + (1 : Int32)) + (1 : Int32))) (ty := .int) (C := RX6) (T := TX6) (N := 17) hx hb hts hin6 tyX6 tyX6_ok nmX6 hown hK.1 hP hD hS 0 rfl rfl 12 (by decide) (k_0) (fun _ h9 => h9) rfl (by decide +kernel) rfl rfl (Nat.le_of_ble_eq_true rfl) dX6_number_79 (fun H locs hP hD hS => ?_)
      have hP : va_P D vwCl [(h6, .inr (6, [.ref a_mt, .int my, .ref a_mo, .ref a_md, .ref a_mb, .ref a_ms, .ref a_mp, .int mk, .ref a_mi, .int mq, .ref a_mn, .int mz, .int ((ma + (1 : Int32)) + (1 : Int32)), .ref a_mh, .ref a_mg, .ref a_mr, .ref a_mx])), (a_mt, .inl (cI, 200, .inl mt)), (a_mo, .inl (cI, 16, .inl mo)), (a_md, .inl (cI, 16, .inl md)), (a_mb, .inl (cI, 56, .inl mb)), (a_ms, .inl (cI, 56, .inl ms)), (a_mp, .inl (cI, 448, .inl mp)), (a_mi, .inl (cI, 112, .inl mi)), (a_mn, .inl (cI, 12, .inl mn)), (a_mh, .inl (cI, 42, .inl mh)), (a_mg, .inl (cI, 56, .inl mg)), (a_mr, .inl (cI, 6, .inl mr)), (a_mx, .inl (cI, 6, .inl mx))] H := hP
      have hD : va_D A [(h6, .inr (6, [.ref a_mt, .int my, .ref a_mo, .ref a_md, .ref a_mb, .ref a_ms, .ref a_mp, .int mk, .ref a_mi, .int mq, .ref a_mn, .int mz, .int ((ma + (1 : Int32)) + (1 : Int32)), .ref a_mh, .ref a_mg, .ref a_mr, .ref a_mx])), (a_mt, .inl (cI, 200, .inl mt)), (a_mo, .inl (cI, 16, .inl mo)), (a_md, .inl (cI, 16, .inl md)), (a_mb, .inl (cI, 56, .inl mb)), (a_ms, .inl (cI, 56, .inl ms)), (a_mp, .inl (cI, 448, .inl mp)), (a_mi, .inl (cI, 112, .inl mi)), (a_mn, .inl (cI, 12, .inl mn)), (a_mh, .inl (cI, 42, .inl mh)), (a_mg, .inl (cI, 56, .inl mg)), (a_mr, .inl (cI, 6, .inl mr)), (a_mx, .inl (cI, 6, .inl mx))] := hD
      refine lv_iload hx hb dX6_number_82 (lv_at hl 0 rfl) ?_
      refine lv_iload_n hx hb dX6_number_84 rfl (lv_at hl 2 rfl) ?_
      refine lv_iload_n hx hb dX6_number_85 rfl (lv_at hl 3 rfl) ?_
      refine kS_i (wr := [(h6, .inr (6, [.ref a_mt, .int my, .ref a_mo, .ref a_md, .ref a_mb, .ref a_ms, .ref a_mp, .int mk, .ref a_mi, .int mq, .ref a_mn, .int mz, .int ((ma + (1 : Int32)) + (1 : Int32)), .ref a_mh, .ref a_mg, .ref a_mr, .ref a_mx])), (a_mt, .inl (cI, 200, .inl mt)), (a_mo, .inl (cI, 16, .inl mo)), (a_md, .inl (cI, 16, .inl md)), (a_mb, .inl (cI, 56, .inl mb)), (a_ms, .inl (cI, 56, .inl ms)), (a_mp, .inl (cI, 448, .inl mp)), (a_mi, .inl (cI, 112, .inl mi)), (a_mn, .inl (cI, 12, .inl mn)), (a_mh, .inl (cI, 42, .inl mh)), (a_mg, .inl (cI, 56, .inl mg)), (a_mr, .inl (cI, 6, .inl mr)), (a_mx, .inl (cI, 6, .inl mx))]) (As := [.int v_17, .int x1, .int x2]) (n := 3) ⟨hx, hb, hml, hown, hts⟩ hK hP hD hS hA (c_X6_in l D cI cC cQ   v_17 x1 x2 _ h) gX6_number_X6_in rfl ⟨rfl, rfl⟩ yoX6_in ⟨Nat.le_of_ble_eq_true rfl, Nat.le_of_ble_eq_true rfl⟩ rfl hl.1 rfl (Nat.le_of_ble_eq_true rfl) dX6_number_86 ⟨Nat.zero_le _, Nat.zero_le _⟩ [] [0, 1, 2, 3, 4, 5, 6, 7, 8, 9, 10, 11, 12] rfl (by decide) rfl (by decide) (by decide) (fun r_18 u H locs h hP hD hS => ?_)
      have hP : va_P D vwCl [(h6, .inr (6, [.ref a_mt, .int my, .ref a_mo, .ref a_md, .ref a_mb, .ref a_ms, .ref a_mp, .int mk, .ref a_mi, .int mq, .ref a_mn, .int mz, .int ((ma + (1 : Int32)) + (1 : Int32)), .ref a_mh, .ref a_mg, .ref a_mr, .ref a_mx])), (a_mt, .inl (cI, 200, .inl mt)), (a_mo, .inl (cI, 16, .inl mo)), (a_md, .inl (cI, 16, .inl md)), (a_mb, .inl (cI, 56, .inl mb)), (a_ms, .inl (cI, 56, .inl ms)), (a_mp, .inl (cI, 448, .inl mp)), (a_mi, .inl (cI, 112, .inl mi)), (a_mn, .inl (cI, 12, .inl mn)), (a_mh, .inl (cI, 42, .inl mh)), (a_mg, .inl (cI, 56, .inl mg)), (a_mr, .inl (cI, 6, .inl mr)), (a_mx, .inl (cI, 6, .inl mx))] H := hP
      have hD : va_D A [(h6, .inr (6, [.ref a_mt, .int my, .ref a_mo, .ref a_md, .ref a_mb, .ref a_ms, .ref a_mp, .int mk, .ref a_mi, .int mq, .ref a_mn, .int mz, .int ((ma + (1 : Int32)) + (1 : Int32)), .ref a_mh, .ref a_mg, .ref a_mr, .ref a_mx])), (a_mt, .inl (cI, 200, .inl mt)), (a_mo, .inl (cI, 16, .inl mo)), (a_md, .inl (cI, 16, .inl md)), (a_mb, .inl (cI, 56, .inl mb)), (a_ms, .inl (cI, 56, .inl ms)), (a_mp, .inl (cI, 448, .inl mp)), (a_mi, .inl (cI, 112, .inl mi)), (a_mn, .inl (cI, 12, .inl mn)), (a_mh, .inl (cI, 42, .inl mh)), (a_mg, .inl (cI, 56, .inl mg)), (a_mr, .inl (cI, 6, .inl mr)), (a_mx, .inl (cI, 6, .inl mx))] := hD
      obtain ⟨b_19, h⟩ := h
      refine lv_if_eq (tgt := 108) hx hb dX6_number_89 (by decide) (fun c_20 => ?_) (fun c_20 => ?_)
      · have h := h.1 c_20
        refine lv_iconst (v := 0) hx hb dX6_number_108 (by decide) ?_
        refine lv_istore (lv' := [(5, .int (0 : Int32)), (4, .int v_17), (0, .ref h6), (1, .int x1), (2, .int x2), (3, .int x3)]) hx hb dX6_number_109 hl (by decide) rfl (fun ls hl => ?_)
        refine lv_aload_n hx hb dX6_number_111 rfl (lv_at hl 2 rfl) ?_
        refine lv_dup hx hb dX6_number_112 rfl ?_
        refine va_get (D := D) (ci := 6) (v := .int ((ma + (1 : Int32)) + (1 : Int32))) (C := RX6) (T := TX6) (N := 17) hx hb hts hin6 hown hK.1 hP 0 rfl rfl 12 (by decide) (k_0) (fun _ h9 => h9) rfl dX6_number_113 ?_
        refine lv_iconst (v := 1) hx hb dX6_number_116 (by decide) ?_
        refine lv_iadd hx hb dX6_number_117 ?_
        refine va_put (D := D) (ci := 6) (v := .int (((ma + (1 : Int32)) + (1 : Int32)) + (1 : Int32))) (ty := .int) (C := RX6) (T := TX6) (N := 17) hx hb hts hin6 tyX6 tyX6_ok nmX6 hown hK.1 hP hD hS 0 rfl rfl 12 (by decide) (k_0) (fun _ h9 => h9) rfl (by decide +kernel) rfl rfl (Nat.le_of_ble_eq_true rfl) dX6_number_118 (fun H locs hP hD hS => ?_)
        have hP : va_P D vwCl [(h6, .inr (6, [.ref a_mt, .int my, .ref a_mo, .ref a_md, .ref a_mb, .ref a_ms, .ref a_mp, .int mk, .ref a_mi, .int mq, .ref a_mn, .int mz, .int (((ma + (1 : Int32)) + (1 : Int32)) + (1 : Int32)), .ref a_mh, .ref a_mg, .ref a_mr, .ref a_mx])), (a_mt, .inl (cI, 200, .inl mt)), (a_mo, .inl (cI, 16, .inl mo)), (a_md, .inl (cI, 16, .inl md)), (a_mb, .inl (cI, 56, .inl mb)), (a_ms, .inl (cI, 56, .inl ms)), (a_mp, .inl (cI, 448, .inl mp)), (a_mi, .inl (cI, 112, .inl mi)), (a_mn, .inl (cI, 12, .inl mn)), (a_mh, .inl (cI, 42, .inl mh)), (a_mg, .inl (cI, 56, .inl mg)), (a_mr, .inl (cI, 6, .inl mr)), (a_mx, .inl (cI, 6, .inl mx))] H := hP
        have hD : va_D A [(h6, .inr (6, [.ref a_mt, .int my, .ref a_mo, .ref a_md, .ref a_mb, .ref a_ms, .ref a_mp, .int mk, .ref a_mi, .int mq, .ref a_mn, .int mz, .int (((ma + (1 : Int32)) + (1 : Int32)) + (1 : Int32)), .ref a_mh, .ref a_mg, .ref a_mr, .ref a_mx])), (a_mt, .inl (cI, 200, .inl mt)), (a_mo, .inl (cI, 16, .inl mo)), (a_md, .inl (cI, 16, .inl md)), (a_mb, .inl (cI, 56, .inl mb)), (a_ms, .inl (cI, 56, .inl ms)), (a_mp, .inl (cI, 448, .inl mp)), (a_mi, .inl (cI, 112, .inl mi)), (a_mn, .inl (cI, 12, .inl mn)), (a_mh, .inl (cI, 42, .inl mh)), (a_mg, .inl (cI, 56, .inl mg)), (a_mr, .inl (cI, 6, .inl mr)), (a_mx, .inl (cI, 6, .inl mx))] := hD
        refine lv_iload hx hb dX6_number_121 (lv_at hl 0 rfl) ?_
        refine lv_if_eq (tgt := 131) hx hb dX6_number_123 (by decide) (fun _ => ?_) (fun c_ => absurd c_ (by decide))
        refine lv_iconst (v := -1) hx hb dX6_number_131 (by decide) ?_
        exact hret (-1 : Int32) (((ma + (1 : Int32)) + (1 : Int32)) + (1 : Int32)) _ _ _ ls h hP hD hS dX6_number_132
      · have h := h.2 c_20
        refine lv_aload_n hx hb dX6_number_92 rfl (lv_at hl 1 rfl) ?_
        refine lv_aload_n hx hb dX6_number_93 rfl (lv_at hl 1 rfl) ?_
        refine va_get (D := D) (ci := 6) (v := .int ((ma + (1 : Int32)) + (1 : Int32))) (C := RX6) (T := TX6) (N := 17) hx hb hts hin6 hown hK.1 hP 0 rfl rfl 12 (by decide) (k_0) (fun _ h9 => h9) rfl dX6_number_94 ?_
        refine k0V_i (As := [.int ((ma + (1 : Int32)) + (1 : Int32))]) (n := 1) ⟨hx, hb, hml, hown, hts⟩ hK hP hD hS hA (c_X6_letterAt l D cI cC cQ h6 a_mt a_mo a_md a_mb a_ms a_mp a_mi a_mn a_mh a_mg a_mr a_mx mt my mo md mb ms mp mk mi mq mn mz ((ma + (1 : Int32)) + (1 : Int32)) mh mg mr mx ((ma + (1 : Int32)) + (1 : Int32)) _ h) gX6_number_X6_letterAt rfl rfl ⟨rfl, rfl⟩ yoX6_letterAt ⟨Nat.le_of_ble_eq_true rfl, Nat.le_of_ble_eq_true rfl⟩ (q0 := 0) (ci := 6) rfl rfl rfl rfl hl.1 rfl (Nat.le_of_ble_eq_true rfl) dX6_number_97 ⟨Nat.zero_le _, Nat.zero_le _⟩ (fun r_21 u H locs h hP hD hS => ?_)
        refine lv_iload_n hx hb dX6_number_100 rfl (lv_at hl 4 rfl) ?_
        refine lv_icmp_ne (tgt := 108) hx hb dX6_number_101 (by decide) (fun c_22 => ?_) (fun c_22 => ?_)
        · have h := h.2 c_22
          refine lv_iconst (v := 0) hx hb dX6_number_108 (by decide) ?_
          refine lv_istore (lv' := [(5, .int (0 : Int32)), (4, .int v_17), (0, .ref h6), (1, .int x1), (2, .int x2), (3, .int x3)]) hx hb dX6_number_109 hl (by decide) rfl (fun ls hl => ?_)
          refine lv_aload_n hx hb dX6_number_111 rfl (lv_at hl 2 rfl) ?_
          refine lv_dup hx hb dX6_number_112 rfl ?_
          refine va_get (D := D) (ci := 6) (v := .int ((ma + (1 : Int32)) + (1 : Int32))) (C := RX6) (T := TX6) (N := 17) hx hb hts hin6 hown hK.1 hP 0 rfl rfl 12 (by decide) (k_0) (fun _ h9 => h9) rfl dX6_number_113 ?_
          refine lv_iconst (v := 1) hx hb dX6_number_116 (by decide) ?_
          refine lv_iadd hx hb dX6_number_117 ?_
          refine va_put (D := D) (ci := 6) (v := .int (((ma + (1 : Int32)) + (1 : Int32)) + (1 : Int32))) (ty := .int) (C := RX6) (T := TX6) (N := 17) hx hb hts hin6 tyX6 tyX6_ok nmX6 hown hK.1 hP hD hS 0 rfl rfl 12 (by decide) (k_0) (fun _ h9 => h9) rfl (by decide +kernel) rfl rfl (Nat.le_of_ble_eq_true rfl) dX6_number_118 (fun H locs hP hD hS => ?_)
          have hP : va_P D vwCl [(h6, .inr (6, [.ref a_mt, .int my, .ref a_mo, .ref a_md, .ref a_mb, .ref a_ms, .ref a_mp, .int mk, .ref a_mi, .int mq, .ref a_mn, .int mz, .int (((ma + (1 : Int32)) + (1 : Int32)) + (1 : Int32)), .ref a_mh, .ref a_mg, .ref a_mr, .ref a_mx])), (a_mt, .inl (cI, 200, .inl mt)), (a_mo, .inl (cI, 16, .inl mo)), (a_md, .inl (cI, 16, .inl md)), (a_mb, .inl (cI, 56, .inl mb)), (a_ms, .inl (cI, 56, .inl ms)), (a_mp, .inl (cI, 448, .inl mp)), (a_mi, .inl (cI, 112, .inl mi)), (a_mn, .inl (cI, 12, .inl mn)), (a_mh, .inl (cI, 42, .inl mh)), (a_mg, .inl (cI, 56, .inl mg)), (a_mr, .inl (cI, 6, .inl mr)), (a_mx, .inl (cI, 6, .inl mx))] H := hP
          have hD : va_D A [(h6, .inr (6, [.ref a_mt, .int my, .ref a_mo, .ref a_md, .ref a_mb, .ref a_ms, .ref a_mp, .int mk, .ref a_mi, .int mq, .ref a_mn, .int mz, .int (((ma + (1 : Int32)) + (1 : Int32)) + (1 : Int32)), .ref a_mh, .ref a_mg, .ref a_mr, .ref a_mx])), (a_mt, .inl (cI, 200, .inl mt)), (a_mo, .inl (cI, 16, .inl mo)), (a_md, .inl (cI, 16, .inl md)), (a_mb, .inl (cI, 56, .inl mb)), (a_ms, .inl (cI, 56, .inl ms)), (a_mp, .inl (cI, 448, .inl mp)), (a_mi, .inl (cI, 112, .inl mi)), (a_mn, .inl (cI, 12, .inl mn)), (a_mh, .inl (cI, 42, .inl mh)), (a_mg, .inl (cI, 56, .inl mg)), (a_mr, .inl (cI, 6, .inl mr)), (a_mx, .inl (cI, 6, .inl mx))] := hD
          refine lv_iload hx hb dX6_number_121 (lv_at hl 0 rfl) ?_
          refine lv_if_eq (tgt := 131) hx hb dX6_number_123 (by decide) (fun _ => ?_) (fun c_ => absurd c_ (by decide))
          refine lv_iconst (v := -1) hx hb dX6_number_131 (by decide) ?_
          exact hret (-1 : Int32) (((ma + (1 : Int32)) + (1 : Int32)) + (1 : Int32)) _ _ _ ls h hP hD hS dX6_number_132
        · have h := h.1 c_22
          refine lv_iconst (v := 1) hx hb dX6_number_104 (by decide) ?_
          refine lv_goto (tgt := 109) hx hb dX6_number_105 (by decide) ?_
          refine lv_istore (lv' := [(5, .int (1 : Int32)), (4, .int v_17), (0, .ref h6), (1, .int x1), (2, .int x2), (3, .int x3)]) hx hb dX6_number_109 hl (by decide) rfl (fun ls hl => ?_)
          refine lv_aload_n hx hb dX6_number_111 rfl (lv_at hl 2 rfl) ?_
          refine lv_dup hx hb dX6_number_112 rfl ?_
          refine va_get (D := D) (ci := 6) (v := .int ((ma + (1 : Int32)) + (1 : Int32))) (C := RX6) (T := TX6) (N := 17) hx hb hts hin6 hown hK.1 hP 0 rfl rfl 12 (by decide) (k_0) (fun _ h9 => h9) rfl dX6_number_113 ?_
          refine lv_iconst (v := 1) hx hb dX6_number_116 (by decide) ?_
          refine lv_iadd hx hb dX6_number_117 ?_
          refine va_put (D := D) (ci := 6) (v := .int (((ma + (1 : Int32)) + (1 : Int32)) + (1 : Int32))) (ty := .int) (C := RX6) (T := TX6) (N := 17) hx hb hts hin6 tyX6 tyX6_ok nmX6 hown hK.1 hP hD hS 0 rfl rfl 12 (by decide) (k_0) (fun _ h9 => h9) rfl (by decide +kernel) rfl rfl (Nat.le_of_ble_eq_true rfl) dX6_number_118 (fun H locs hP hD hS => ?_)
          have hP : va_P D vwCl [(h6, .inr (6, [.ref a_mt, .int my, .ref a_mo, .ref a_md, .ref a_mb, .ref a_ms, .ref a_mp, .int mk, .ref a_mi, .int mq, .ref a_mn, .int mz, .int (((ma + (1 : Int32)) + (1 : Int32)) + (1 : Int32)), .ref a_mh, .ref a_mg, .ref a_mr, .ref a_mx])), (a_mt, .inl (cI, 200, .inl mt)), (a_mo, .inl (cI, 16, .inl mo)), (a_md, .inl (cI, 16, .inl md)), (a_mb, .inl (cI, 56, .inl mb)), (a_ms, .inl (cI, 56, .inl ms)), (a_mp, .inl (cI, 448, .inl mp)), (a_mi, .inl (cI, 112, .inl mi)), (a_mn, .inl (cI, 12, .inl mn)), (a_mh, .inl (cI, 42, .inl mh)), (a_mg, .inl (cI, 56, .inl mg)), (a_mr, .inl (cI, 6, .inl mr)), (a_mx, .inl (cI, 6, .inl mx))] H := hP
          have hD : va_D A [(h6, .inr (6, [.ref a_mt, .int my, .ref a_mo, .ref a_md, .ref a_mb, .ref a_ms, .ref a_mp, .int mk, .ref a_mi, .int mq, .ref a_mn, .int mz, .int (((ma + (1 : Int32)) + (1 : Int32)) + (1 : Int32)), .ref a_mh, .ref a_mg, .ref a_mr, .ref a_mx])), (a_mt, .inl (cI, 200, .inl mt)), (a_mo, .inl (cI, 16, .inl mo)), (a_md, .inl (cI, 16, .inl md)), (a_mb, .inl (cI, 56, .inl mb)), (a_ms, .inl (cI, 56, .inl ms)), (a_mp, .inl (cI, 448, .inl mp)), (a_mi, .inl (cI, 112, .inl mi)), (a_mn, .inl (cI, 12, .inl mn)), (a_mh, .inl (cI, 42, .inl mh)), (a_mg, .inl (cI, 56, .inl mg)), (a_mr, .inl (cI, 6, .inl mr)), (a_mx, .inl (cI, 6, .inl mx))] := hD
          refine lv_iload hx hb dX6_number_121 (lv_at hl 0 rfl) ?_
          refine lv_if_eq (tgt := 131) hx hb dX6_number_123 (by decide) (fun c_ => absurd c_ (by decide)) (fun _ => ?_)
          refine lv_iload hx hb dX6_number_126 (lv_at hl 1 rfl) ?_
          refine lv_goto (tgt := 132) hx hb dX6_number_128 (by decide) ?_
          exact hret v_17 (((ma + (1 : Int32)) + (1 : Int32)) + (1 : Int32)) _ _ _ ls h hP hD hS dX6_number_132
  · have h := h.1 c_4
    refine lv_iconst (v := -1) hx hb dX6_number_14 (by decide) ?_
    exact hret (-1 : Int32) ma _ _ _ ls h hP hD hS dX6_number_15

/-! DoubtCourtModel.begins -/
abbrev rmX6_begins : Room := { frames := 0, cells := 0, slots := 0, locals := 0 }
theorem yoX6_begins : yX6_begins.cls ≠ "java/lang/invoke/MethodHandle" ∧ yX6_begins.cls ≠ "java/lang/invoke/VarHandle" ∧ (parseMethodDescriptor yX6_begins.desc).map (fun d => d.parameters.length) = some 0 := by decide +kernel
set_option maxHeartbeats 4000000 in
set_option maxRecDepth 100000 in
theorem c_X6_begins (l : Launch) (D : va_G) (cI cC cQ : ClassId) (h6 : Nat) (a_mt : Nat) (a_mo : Nat) (a_md : Nat) (a_mb : Nat) (a_ms : Nat) (a_mp : Nat) (a_mi : Nat) (a_mn : Nat) (a_mh : Nat) (a_mg : Nat) (a_mr : Nat) (a_mx : Nat) (mt : Nat → Int32) (my : Int32) (mo : Nat → Int32) (md : Nat → Int32) (mb : Nat → Int32) (ms : Nat → Int32) (mp : Nat → Int32) (mk : Int32) (mi : Nat → Int32) (mq : Int32) (mn : Nat → Int32) (mz : Int32) (ma : Int32) (mh : Nat → Int32) (mg : Nat → Int32) (mr : Nat → Int32) (mx : Nat → Int32) (Q : (Nat → Int32) → (Nat → Int32) → Prop) (h : wX6_begins md mb Q) : Cv (S := (Nat → Int32) × (Nat → Int32)) l D cI cC cQ yX6_begins wsX6_begins rmX6_begins [.ref h6] [(h6, .inr (6, [.ref a_mt, .int my, .ref a_mo, .ref a_md, .ref a_mb, .ref a_ms, .ref a_mp, .int mk, .ref a_mi, .int mq, .ref a_mn, .int mz, .int ma, .ref a_mh, .ref a_mg, .ref a_mr, .ref a_mx])), (a_mt, .inl (cI, 200, .inl mt)), (a_mo, .inl (cI, 16, .inl mo)), (a_md, .inl (cI, 16, .inl md)), (a_mb, .inl (cI, 56, .inl mb)), (a_ms, .inl (cI, 56, .inl ms)), (a_mp, .inl (cI, 448, .inl mp)), (a_mi, .inl (cI, 112, .inl mi)), (a_mn, .inl (cI, 12, .inl mn)), (a_mh, .inl (cI, 42, .inl mh)), (a_mg, .inl (cI, 56, .inl mg)), (a_mr, .inl (cI, 6, .inl mr)), (a_mx, .inl (cI, 6, .inl mx))] (fun u => [(h6, .inr (6, [.ref a_mt, .int my, .ref a_mo, .ref a_md, .ref a_mb, .ref a_ms, .ref a_mp, .int mk, .ref a_mi, .int mq, .ref a_mn, .int mz, .int ma, .ref a_mh, .ref a_mg, .ref a_mr, .ref a_mx])), (a_mt, .inl (cI, 200, .inl mt)), (a_mo, .inl (cI, 16, .inl mo)), (a_md, .inl (cI, 16, .inl u.1)), (a_mb, .inl (cI, 56, .inl u.2)), (a_ms, .inl (cI, 56, .inl ms)), (a_mp, .inl (cI, 448, .inl mp)), (a_mi, .inl (cI, 112, .inl mi)), (a_mn, .inl (cI, 12, .inl mn)), (a_mh, .inl (cI, 42, .inl mh)), (a_mg, .inl (cI, 56, .inl mg)), (a_mr, .inl (cI, 6, .inl mr)), (a_mx, .inl (cI, 6, .inl mx))]) (fun u => Q u.1 u.2) := by
  refine Cv_mk (cc := cX6_begins) (maxL := 2) (by decide) rfl (Nat.le_of_ble_eq_true rfl) ?_
  intro p e s m args below meth c A Z ls hx hb hml hown hts hK hA hP hD hret hl
  have hS : va_S A s.heap s.heap [] := va_S.rf
  have hin6 : ∀ w ∈ u_ws RX6 TX6 17, w ∈ wsX6_begins := by decide +kernel
  have k_0 := hts (.fieldLink RX6 16 "DoubtCourtModel" "draft" "[I") (by decide +kernel)
  have k_1 := hts (.fieldLink RX6 19 "DoubtCourtModel" "begun" "[I") (by decide +kernel)
  have hl : lv_has ls 2 [(0, .ref h6)] := hl
  have L2 : ∀ {K21 : (Nat → Int32) → Prop} (n : Nat) {x1 : Int32} {md : Nat → Int32} {mb : Nat → Int32} {H : Heap} {locs : List Loc} {ls : Array Slot}, wX6_begins_L2 K21 n x1 md → va_P D vwCl [(h6, .inr (6, [.ref a_mt, .int my, .ref a_mo, .ref a_md, .ref a_mb, .ref a_ms, .ref a_mp, .int mk, .ref a_mi, .int mq, .ref a_mn, .int mz, .int ma, .ref a_mh, .ref a_mg, .ref a_mr, .ref a_mx])), (a_mt, .inl (cI, 200, .inl mt)), (a_mo, .inl (cI, 16, .inl mo)), (a_md, .inl (cI, 16, .inl md)), (a_mb, .inl (cI, 56, .inl mb)), (a_ms, .inl (cI, 56, .inl ms)), (a_mp, .inl (cI, 448, .inl mp)), (a_mi, .inl (cI, 112, .inl mi)), (a_mn, .inl (cI, 12, .inl mn)), (a_mh, .inl (cI, 42, .inl mh)), (a_mg, .inl (cI, 56, .inl mg)), (a_mr, .inl (cI, 6, .inl mr)), (a_mx, .inl (cI, 6, .inl mx))] H → va_D A [(h6, .inr (6, [.ref a_mt, .int my, .ref a_mo, .ref a_md, .ref a_mb, .ref a_ms, .ref a_mp, .int mk, .ref a_mi, .int mq, .ref a_mn, .int mz, .int ma, .ref a_mh, .ref a_mg, .ref a_mr, .ref a_mx])), (a_mt, .inl (cI, 200, .inl mt)), (a_mo, .inl (cI, 16, .inl mo)), (a_md, .inl (cI, 16, .inl md)), (a_mb, .inl (cI, 56, .inl mb)), (a_ms, .inl (cI, 56, .inl ms)), (a_mp, .inl (cI, 448, .inl mp)), (a_mi, .inl (cI, 112, .inl mi)), (a_mn, .inl (cI, 12, .inl mn)), (a_mh, .inl (cI, 42, .inl mh)), (a_mg, .inl (cI, 56, .inl mg)), (a_mr, .inl (cI, 6, .inl mr)), (a_mx, .inl (cI, 6, .inl mx))] → va_S A s.heap H locs → lv_has ls 2 [(0, .ref h6), (1, .int x1)] → (∀ (md : Nat → Int32) (H : Heap) (locs : List Loc) (ls : Array Slot), K21 md → va_P D vwCl [(h6, .inr (6, [.ref a_mt, .int my, .ref a_mo, .ref a_md, .ref a_mb, .ref a_ms, .ref a_mp, .int mk, .ref a_mi, .int mq, .ref a_mn, .int mz, .int ma, .ref a_mh, .ref a_mg, .ref a_mr, .ref a_mx])), (a_mt, .inl (cI, 200, .inl mt)), (a_mo, .inl (cI, 16, .inl mo)), (a_md, .inl (cI, 16, .inl md)), (a_mb, .inl (cI, 56, .inl mb)), (a_ms, .inl (cI, 56, .inl ms)), (a_mp, .inl (cI, 448, .inl mp)), (a_mi, .inl (cI, 112, .inl mi)), (a_mn, .inl (cI, 12, .inl mn)), (a_mh, .inl (cI, 42, .inl mh)), (a_mg, .inl (cI, 56, .inl mg)), (a_mr, .inl (cI, 6, .inl mr)), (a_mx, .inl (cI, 6, .inl mx))] H → va_D A [(h6, .inr (6, [.ref a_mt, .int my, .ref a_mo, .ref a_md, .ref a_mb, .ref a_ms, .ref a_mp, .int mk, .ref a_mi, .int mq, .ref a_mn, .int mz, .int ma, .ref a_mh, .ref a_mg, .ref a_mr, .ref a_mx])), (a_mt, .inl (cI, 200, .inl mt)), (a_mo, .inl (cI, 16, .inl mo)), (a_md, .inl (cI, 16, .inl md)), (a_mb, .inl (cI, 56, .inl mb)), (a_ms, .inl (cI, 56, .inl ms)), (a_mp, .inl (cI, 448, .inl mp)), (a_mi, .inl (cI, 112, .inl mi)), (a_mn, .inl (cI, 12, .inl mn)), (a_mh, .inl (cI, 42, .inl mh)), (a_mg, .inl (cI, 56, .inl mg)), (a_mr, .inl (cI, 6, .inl mr)), (a_mx, .inl (cI, 6, .inl mx))] → va_S A s.heap H locs → lv_has ls 2 [(0, .ref h6)] → W p l e rmX6_begins s m args below meth c H locs 0 0 Z (F0 m 21 ls [])) → W p l e rmX6_begins s m args below meth c H locs 0 0 Z (F0 m 2 ls []) := by
    intro K21
    intro n
    induction n with
    | zero =>
      intro x1 md mb H locs ls h hP hD hS hl hk21
      exact (show False from h).elim
    | succ n ih =>
      intro x1 md mb H locs ls h hP hD hS hl hk21
      refine lv_iload_n hx hb dX6_begins_2 rfl (lv_at hl 1 rfl) ?_
      refine lv_bipush (v := 16) hx hb dX6_begins_3 (by decide) ?_
      refine lv_icmp_ge (tgt := 21) hx hb dX6_begins_5 (by decide) (fun c_2 => ?_) (fun c_2 => ?_)
      · have h := h.1 c_2
        exact hk21 md _ _ _ h hP hD hS (lv_sub hl [0] rfl)
      · have h := h.2 c_2
        refine lv_aload_n hx hb dX6_begins_8 rfl (lv_at hl 0 rfl) ?_
        refine va_get (D := D) (ci := 6) (v := .ref a_md) (C := RX6) (T := TX6) (N := 17) hx hb hts hin6 hown hK.1 hP 0 rfl rfl 3 (by decide) (k_0) (fun _ h9 => h9) rfl dX6_begins_9 ?_
        refine lv_iload_n hx hb dX6_begins_12 rfl (lv_at hl 1 rfl) ?_
        refine lv_iconst (v := 0) hx hb dX6_begins_13 (by decide) ?_
        refine z_iast (k := x1.toNatClampNeg) hx hb hK.1 hP hD hS 3 rfl rfl h.1 dX6_begins_14 (fun H locs hP hD hS => ?_)
        have h := h.2
        have hP : va_P D vwCl [(h6, .inr (6, [.ref a_mt, .int my, .ref a_mo, .ref a_md, .ref a_mb, .ref a_ms, .ref a_mp, .int mk, .ref a_mi, .int mq, .ref a_mn, .int mz, .int ma, .ref a_mh, .ref a_mg, .ref a_mr, .ref a_mx])), (a_mt, .inl (cI, 200, .inl mt)), (a_mo, .inl (cI, 16, .inl mo)), (a_md, .inl (cI, 16, .inl (upd md x1.toNatClampNeg (0 : Int32)))), (a_mb, .inl (cI, 56, .inl mb)), (a_ms, .inl (cI, 56, .inl ms)), (a_mp, .inl (cI, 448, .inl mp)), (a_mi, .inl (cI, 112, .inl mi)), (a_mn, .inl (cI, 12, .inl mn)), (a_mh, .inl (cI, 42, .inl mh)), (a_mg, .inl (cI, 56, .inl mg)), (a_mr, .inl (cI, 6, .inl mr)), (a_mx, .inl (cI, 6, .inl mx))] H := hP
        have hD : va_D A [(h6, .inr (6, [.ref a_mt, .int my, .ref a_mo, .ref a_md, .ref a_mb, .ref a_ms, .ref a_mp, .int mk, .ref a_mi, .int mq, .ref a_mn, .int mz, .int ma, .ref a_mh, .ref a_mg, .ref a_mr, .ref a_mx])), (a_mt, .inl (cI, 200, .inl mt)), (a_mo, .inl (cI, 16, .inl mo)), (a_md, .inl (cI, 16, .inl (upd md x1.toNatClampNeg (0 : Int32)))), (a_mb, .inl (cI, 56, .inl mb)), (a_ms, .inl (cI, 56, .inl ms)), (a_mp, .inl (cI, 448, .inl mp)), (a_mi, .inl (cI, 112, .inl mi)), (a_mn, .inl (cI, 12, .inl mn)), (a_mh, .inl (cI, 42, .inl mh)), (a_mg, .inl (cI, 56, .inl mg)), (a_mr, .inl (cI, 6, .inl mr)), (a_mx, .inl (cI, 6, .inl mx))] := hD
        refine lv_iinc (v := (x1 + (1 : Int32))) (lv' := [(1, .int (x1 + (1 : Int32))), (0, .ref h6)]) hx hb dX6_begins_15 hl (k := 1) rfl rfl (by decide) rfl (fun ls hl => ?_)
        refine lv_goto (tgt := 2) hx hb dX6_begins_18 (by decide) ?_
        exact ih h hP hD hS (lv_sub hl [1, 0] rfl) hk21
  have L23 : ∀ (n : Nat) {x1 : Int32} {md : Nat → Int32} {mb : Nat → Int32} {H : Heap} {locs : List Loc} {ls : Array Slot}, wX6_begins_L23 md Q n x1 mb → va_P D vwCl [(h6, .inr (6, [.ref a_mt, .int my, .ref a_mo, .ref a_md, .ref a_mb, .ref a_ms, .ref a_mp, .int mk, .ref a_mi, .int mq, .ref a_mn, .int mz, .int ma, .ref a_mh, .ref a_mg, .ref a_mr, .ref a_mx])), (a_mt, .inl (cI, 200, .inl mt)), (a_mo, .inl (cI, 16, .inl mo)), (a_md, .inl (cI, 16, .inl md)), (a_mb, .inl (cI, 56, .inl mb)), (a_ms, .inl (cI, 56, .inl ms)), (a_mp, .inl (cI, 448, .inl mp)), (a_mi, .inl (cI, 112, .inl mi)), (a_mn, .inl (cI, 12, .inl mn)), (a_mh, .inl (cI, 42, .inl mh)), (a_mg, .inl (cI, 56, .inl mg)), (a_mr, .inl (cI, 6, .inl mr)), (a_mx, .inl (cI, 6, .inl mx))] H → va_D A [(h6, .inr (6, [.ref a_mt, .int my, .ref a_mo, .ref a_md, .ref a_mb, .ref a_ms, .ref a_mp, .int mk, .ref a_mi, .int mq, .ref a_mn, .int mz, .int ma, .ref a_mh, .ref a_mg, .ref a_mr, .ref a_mx])), (a_mt, .inl (cI, 200, .inl mt)), (a_mo, .inl (cI, 16, .inl mo)), (a_md, .inl (cI, 16, .inl md)), (a_mb, .inl (cI, 56, .inl mb)), (a_ms, .inl (cI, 56, .inl ms)), (a_mp, .inl (cI, 448, .inl mp)), (a_mi, .inl (cI, 112, .inl mi)), (a_mn, .inl (cI, 12, .inl mn)), (a_mh, .inl (cI, 42, .inl mh)), (a_mg, .inl (cI, 56, .inl mg)), (a_mr, .inl (cI, 6, .inl mr)), (a_mx, .inl (cI, 6, .inl mx))] → va_S A s.heap H locs → lv_has ls 2 [(0, .ref h6), (1, .int x1)] → W p l e rmX6_begins s m args below meth c H locs 0 0 Z (F0 m 23 ls []) := by
    intro n
    induction n with
    | zero =>
      intro x1 md mb H locs ls h hP hD hS hl
      exact (show False from h).elim
    | succ n ih =>
      intro x1 md mb H locs ls h hP hD hS hl
      refine lv_iload_n hx hb dX6_begins_23 rfl (lv_at hl 1 rfl) ?_
      refine lv_bipush (v := 56) hx hb dX6_begins_24 (by decide) ?_
      refine lv_icmp_ge (tgt := 42) hx hb dX6_begins_26 (by decide) (fun c_5 => ?_) (fun c_5 => ?_)
      · have h := h.1 c_5
        exact hret (md, mb) _ _ _ ls h hP hD hS dX6_begins_42
      · have h := h.2 c_5
        refine lv_aload_n hx hb dX6_begins_29 rfl (lv_at hl 0 rfl) ?_
        refine va_get (D := D) (ci := 6) (v := .ref a_mb) (C := RX6) (T := TX6) (N := 17) hx hb hts hin6 hown hK.1 hP 0 rfl rfl 4 (by decide) (k_1) (fun _ h9 => h9) rfl dX6_begins_30 ?_
        refine lv_iload_n hx hb dX6_begins_33 rfl (lv_at hl 1 rfl) ?_
        refine lv_iconst (v := 0) hx hb dX6_begins_34 (by decide) ?_
        refine z_iast (k := x1.toNatClampNeg) hx hb hK.1 hP hD hS 4 rfl rfl h.1 dX6_begins_35 (fun H locs hP hD hS => ?_)
        have h := h.2
        have hP : va_P D vwCl [(h6, .inr (6, [.ref a_mt, .int my, .ref a_mo, .ref a_md, .ref a_mb, .ref a_ms, .ref a_mp, .int mk, .ref a_mi, .int mq, .ref a_mn, .int mz, .int ma, .ref a_mh, .ref a_mg, .ref a_mr, .ref a_mx])), (a_mt, .inl (cI, 200, .inl mt)), (a_mo, .inl (cI, 16, .inl mo)), (a_md, .inl (cI, 16, .inl md)), (a_mb, .inl (cI, 56, .inl (upd mb x1.toNatClampNeg (0 : Int32)))), (a_ms, .inl (cI, 56, .inl ms)), (a_mp, .inl (cI, 448, .inl mp)), (a_mi, .inl (cI, 112, .inl mi)), (a_mn, .inl (cI, 12, .inl mn)), (a_mh, .inl (cI, 42, .inl mh)), (a_mg, .inl (cI, 56, .inl mg)), (a_mr, .inl (cI, 6, .inl mr)), (a_mx, .inl (cI, 6, .inl mx))] H := hP
        have hD : va_D A [(h6, .inr (6, [.ref a_mt, .int my, .ref a_mo, .ref a_md, .ref a_mb, .ref a_ms, .ref a_mp, .int mk, .ref a_mi, .int mq, .ref a_mn, .int mz, .int ma, .ref a_mh, .ref a_mg, .ref a_mr, .ref a_mx])), (a_mt, .inl (cI, 200, .inl mt)), (a_mo, .inl (cI, 16, .inl mo)), (a_md, .inl (cI, 16, .inl md)), (a_mb, .inl (cI, 56, .inl (upd mb x1.toNatClampNeg (0 : Int32)))), (a_ms, .inl (cI, 56, .inl ms)), (a_mp, .inl (cI, 448, .inl mp)), (a_mi, .inl (cI, 112, .inl mi)), (a_mn, .inl (cI, 12, .inl mn)), (a_mh, .inl (cI, 42, .inl mh)), (a_mg, .inl (cI, 56, .inl mg)), (a_mr, .inl (cI, 6, .inl mr)), (a_mx, .inl (cI, 6, .inl mx))] := hD
        refine lv_iinc (v := (x1 + (1 : Int32))) (lv' := [(1, .int (x1 + (1 : Int32))), (0, .ref h6)]) hx hb dX6_begins_36 hl (k := 1) rfl rfl (by decide) rfl (fun ls hl => ?_)
        refine lv_goto (tgt := 23) hx hb dX6_begins_39 (by decide) ?_
        exact ih h hP hD hS (lv_sub hl [1, 0] rfl)
  refine lv_iconst (v := 0) hx hb dX6_begins_0 (by decide) ?_
  refine lv_istore_n (lv' := [(1, .int (0 : Int32)), (0, .ref h6)]) hx hb dX6_begins_1 rfl hl (by decide) rfl (fun ls hl => ?_)
  obtain ⟨n_7, h⟩ := h
  refine L2 n_7 h hP hD hS (lv_sub hl [1, 0] rfl) (fun md_3 H locs ls h hP hD hS hl => ?_)
  refine lv_iconst (v := 0) hx hb dX6_begins_21 (by decide) ?_
  refine lv_istore_n (lv' := [(1, .int (0 : Int32)), (0, .ref h6)]) hx hb dX6_begins_22 rfl hl (by decide) rfl (fun ls hl => ?_)
  obtain ⟨n_6, h⟩ := h
  exact L23 n_6 h hP hD hS (lv_sub hl [1, 0] rfl)

/-! DoubtCourtModel.stands -/
abbrev rmX6_stands : Room := { frames := 0, cells := 0, slots := 0, locals := 0 }
theorem yoX6_stands : yX6_stands.cls ≠ "java/lang/invoke/MethodHandle" ∧ yX6_stands.cls ≠ "java/lang/invoke/VarHandle" ∧ (parseMethodDescriptor yX6_stands.desc).map (fun d => d.parameters.length) = some 2 := by decide +kernel
set_option maxHeartbeats 4000000 in
set_option maxRecDepth 100000 in
theorem c_X6_stands (l : Launch) (D : va_G) (cI cC cQ : ClassId) (h6 : Nat) (a_mt : Nat) (a_mo : Nat) (a_md : Nat) (a_mb : Nat) (a_ms : Nat) (a_mp : Nat) (a_mi : Nat) (a_mn : Nat) (a_mh : Nat) (a_mg : Nat) (a_mr : Nat) (a_mx : Nat) (mt : Nat → Int32) (my : Int32) (mo : Nat → Int32) (md : Nat → Int32) (mb : Nat → Int32) (ms : Nat → Int32) (mp : Nat → Int32) (mk : Int32) (mi : Nat → Int32) (mq : Int32) (mn : Nat → Int32) (mz : Int32) (ma : Int32) (mh : Nat → Int32) (mg : Nat → Int32) (mr : Nat → Int32) (mx : Nat → Int32) (x1 : Int32) (x2 : Int32) (Q : (Nat → Int32) → (Nat → Int32) → Prop) (h : wX6_stands x1 x2 md mb Q) : Cv (S := (Nat → Int32) × (Nat → Int32)) l D cI cC cQ yX6_stands wsX6_stands rmX6_stands [.ref h6, .int x1, .int x2] [(h6, .inr (6, [.ref a_mt, .int my, .ref a_mo, .ref a_md, .ref a_mb, .ref a_ms, .ref a_mp, .int mk, .ref a_mi, .int mq, .ref a_mn, .int mz, .int ma, .ref a_mh, .ref a_mg, .ref a_mr, .ref a_mx])), (a_mt, .inl (cI, 200, .inl mt)), (a_mo, .inl (cI, 16, .inl mo)), (a_md, .inl (cI, 16, .inl md)), (a_mb, .inl (cI, 56, .inl mb)), (a_ms, .inl (cI, 56, .inl ms)), (a_mp, .inl (cI, 448, .inl mp)), (a_mi, .inl (cI, 112, .inl mi)), (a_mn, .inl (cI, 12, .inl mn)), (a_mh, .inl (cI, 42, .inl mh)), (a_mg, .inl (cI, 56, .inl mg)), (a_mr, .inl (cI, 6, .inl mr)), (a_mx, .inl (cI, 6, .inl mx))] (fun u => [(h6, .inr (6, [.ref a_mt, .int my, .ref a_mo, .ref a_md, .ref a_mb, .ref a_ms, .ref a_mp, .int mk, .ref a_mi, .int mq, .ref a_mn, .int mz, .int ma, .ref a_mh, .ref a_mg, .ref a_mr, .ref a_mx])), (a_mt, .inl (cI, 200, .inl mt)), (a_mo, .inl (cI, 16, .inl mo)), (a_md, .inl (cI, 16, .inl u.1)), (a_mb, .inl (cI, 56, .inl u.2)), (a_ms, .inl (cI, 56, .inl ms)), (a_mp, .inl (cI, 448, .inl mp)), (a_mi, .inl (cI, 112, .inl mi)), (a_mn, .inl (cI, 12, .inl mn)), (a_mh, .inl (cI, 42, .inl mh)), (a_mg, .inl (cI, 56, .inl mg)), (a_mr, .inl (cI, 6, .inl mr)), (a_mx, .inl (cI, 6, .inl mx))]) (fun u => Q u.1 u.2) := by
  refine Cv_mk (cc := cX6_stands) (maxL := 4) (by decide) rfl (Nat.le_of_ble_eq_true rfl) ?_
  intro p e s m args below meth c A Z ls hx hb hml hown hts hK hA hP hD hret hl
  have hS : va_S A s.heap s.heap [] := va_S.rf
  have hin6 : ∀ w ∈ u_ws RX6 TX6 17, w ∈ wsX6_stands := by decide +kernel
  have k_0 := hts (.fieldLink RX6 16 "DoubtCourtModel" "draft" "[I") (by decide +kernel)
  have k_1 := hts (.fieldLink RX6 19 "DoubtCourtModel" "begun" "[I") (by decide +kernel)
  have hl : lv_has ls 4 [(0, .ref h6), (1, .int x1), (2, .int x2)] := hl
  refine lv_aload_n hx hb dX6_stands_0 rfl (lv_at hl 0 rfl) ?_
  refine va_get (D := D) (ci := 6) (v := .ref a_md) (C := RX6) (T := TX6) (N := 17) hx hb hts hin6 hown hK.1 hP 0 rfl rfl 3 (by decide) (k_0) (fun _ h9 => h9) rfl dX6_stands_1 ?_
  refine lv_iconst (v := 0) hx hb dX6_stands_4 (by decide) ?_
  refine z_iald (k := 0) hx hb hK.1 hP 3 rfl (by decide) vi_0_16 dX6_stands_5 ?_
  refine lv_topi (fun v_1 ev_1 => ?_)
  have h := h v_1 ev_1
  refine lv_istore_n (lv' := [(3, .int v_1), (0, .ref h6), (1, .int x1), (2, .int x2)]) hx hb dX6_stands_6 rfl hl (by decide) rfl (fun ls hl => ?_)
  refine lv_aload_n hx hb dX6_stands_7 rfl (lv_at hl 1 rfl) ?_
  refine va_get (D := D) (ci := 6) (v := .ref a_md) (C := RX6) (T := TX6) (N := 17) hx hb hts hin6 hown hK.1 hP 0 rfl rfl 3 (by decide) (k_0) (fun _ h9 => h9) rfl dX6_stands_8 ?_
  refine lv_iconst (v := 2) hx hb dX6_stands_11 (by decide) ?_
  refine lv_iload_n hx hb dX6_stands_12 rfl (lv_at hl 0 rfl) ?_
  refine lv_iadd hx hb dX6_stands_13 ?_
  refine lv_iload_n hx hb dX6_stands_14 rfl (lv_at hl 2 rfl) ?_
  refine z_iast (k := ((2 : Int32) + v_1).toNatClampNeg) hx hb hK.1 hP hD hS 3 rfl rfl h.1 dX6_stands_15 (fun H locs hP hD hS => ?_)
  have h := h.2
  have hP : va_P D vwCl [(h6, .inr (6, [.ref a_mt, .int my, .ref a_mo, .ref a_md, .ref a_mb, .ref a_ms, .ref a_mp, .int mk, .ref a_mi, .int mq, .ref a_mn, .int mz, .int ma, .ref a_mh, .ref a_mg, .ref a_mr, .ref a_mx])), (a_mt, .inl (cI, 200, .inl mt)), (a_mo, .inl (cI, 16, .inl mo)), (a_md, .inl (cI, 16, .inl (upd md (((2 : Int32) + v_1).toNatClampNeg) x1))), (a_mb, .inl (cI, 56, .inl mb)), (a_ms, .inl (cI, 56, .inl ms)), (a_mp, .inl (cI, 448, .inl mp)), (a_mi, .inl (cI, 112, .inl mi)), (a_mn, .inl (cI, 12, .inl mn)), (a_mh, .inl (cI, 42, .inl mh)), (a_mg, .inl (cI, 56, .inl mg)), (a_mr, .inl (cI, 6, .inl mr)), (a_mx, .inl (cI, 6, .inl mx))] H := hP
  have hD : va_D A [(h6, .inr (6, [.ref a_mt, .int my, .ref a_mo, .ref a_md, .ref a_mb, .ref a_ms, .ref a_mp, .int mk, .ref a_mi, .int mq, .ref a_mn, .int mz, .int ma, .ref a_mh, .ref a_mg, .ref a_mr, .ref a_mx])), (a_mt, .inl (cI, 200, .inl mt)), (a_mo, .inl (cI, 16, .inl mo)), (a_md, .inl (cI, 16, .inl (upd md (((2 : Int32) + v_1).toNatClampNeg) x1))), (a_mb, .inl (cI, 56, .inl mb)), (a_ms, .inl (cI, 56, .inl ms)), (a_mp, .inl (cI, 448, .inl mp)), (a_mi, .inl (cI, 112, .inl mi)), (a_mn, .inl (cI, 12, .inl mn)), (a_mh, .inl (cI, 42, .inl mh)), (a_mg, .inl (cI, 56, .inl mg)), (a_mr, .inl (cI, 6, .inl mr)), (a_mx, .inl (cI, 6, .inl mx))] := hD
  refine lv_aload_n hx hb dX6_stands_16 rfl (lv_at hl 1 rfl) ?_
  refine va_get (D := D) (ci := 6) (v := .ref a_md) (C := RX6) (T := TX6) (N := 17) hx hb hts hin6 hown hK.1 hP 0 rfl rfl 3 (by decide) (k_0) (fun _ h9 => h9) rfl dX6_stands_17 ?_
  refine lv_bipush (v := 9) hx hb dX6_stands_20 (by decide) ?_
  refine lv_iload_n hx hb dX6_stands_22 rfl (lv_at hl 0 rfl) ?_
  refine lv_iadd hx hb dX6_stands_23 ?_
  refine lv_iload_n hx hb dX6_stands_24 rfl (lv_at hl 3 rfl) ?_
  refine z_iast (k := ((9 : Int32) + v_1).toNatClampNeg) hx hb hK.1 hP hD hS 3 rfl rfl h.1 dX6_stands_25 (fun H locs hP hD hS => ?_)
  have h := h.2
  have hP : va_P D vwCl [(h6, .inr (6, [.ref a_mt, .int my, .ref a_mo, .ref a_md, .ref a_mb, .ref a_ms, .ref a_mp, .int mk, .ref a_mi, .int mq, .ref a_mn, .int mz, .int ma, .ref a_mh, .ref a_mg, .ref a_mr, .ref a_mx])), (a_mt, .inl (cI, 200, .inl mt)), (a_mo, .inl (cI, 16, .inl mo)), (a_md, .inl (cI, 16, .inl (upd (upd md (((2 : Int32) + v_1).toNatClampNeg) x1) (((9 : Int32) + v_1).toNatClampNeg) x2))), (a_mb, .inl (cI, 56, .inl mb)), (a_ms, .inl (cI, 56, .inl ms)), (a_mp, .inl (cI, 448, .inl mp)), (a_mi, .inl (cI, 112, .inl mi)), (a_mn, .inl (cI, 12, .inl mn)), (a_mh, .inl (cI, 42, .inl mh)), (a_mg, .inl (cI, 56, .inl mg)), (a_mr, .inl (cI, 6, .inl mr)), (a_mx, .inl (cI, 6, .inl mx))] H := hP
  have hD : va_D A [(h6, .inr (6, [.ref a_mt, .int my, .ref a_mo, .ref a_md, .ref a_mb, .ref a_ms, .ref a_mp, .int mk, .ref a_mi, .int mq, .ref a_mn, .int mz, .int ma, .ref a_mh, .ref a_mg, .ref a_mr, .ref a_mx])), (a_mt, .inl (cI, 200, .inl mt)), (a_mo, .inl (cI, 16, .inl mo)), (a_md, .inl (cI, 16, .inl (upd (upd md (((2 : Int32) + v_1).toNatClampNeg) x1) (((9 : Int32) + v_1).toNatClampNeg) x2))), (a_mb, .inl (cI, 56, .inl mb)), (a_ms, .inl (cI, 56, .inl ms)), (a_mp, .inl (cI, 448, .inl mp)), (a_mi, .inl (cI, 112, .inl mi)), (a_mn, .inl (cI, 12, .inl mn)), (a_mh, .inl (cI, 42, .inl mh)), (a_mg, .inl (cI, 56, .inl mg)), (a_mr, .inl (cI, 6, .inl mr)), (a_mx, .inl (cI, 6, .inl mx))] := hD
  refine lv_aload_n hx hb dX6_stands_26 rfl (lv_at hl 1 rfl) ?_
  refine va_get (D := D) (ci := 6) (v := .ref a_mb) (C := RX6) (T := TX6) (N := 17) hx hb hts hin6 hown hK.1 hP 0 rfl rfl 4 (by decide) (k_1) (fun _ h9 => h9) rfl dX6_stands_27 ?_
  refine lv_iconst (v := 1) hx hb dX6_stands_30 (by decide) ?_
  refine lv_iload_n hx hb dX6_stands_31 rfl (lv_at hl 0 rfl) ?_
  refine lv_iadd hx hb dX6_stands_32 ?_
  refine lv_iload_n hx hb dX6_stands_33 rfl (lv_at hl 0 rfl) ?_
  refine z_iast (k := ((1 : Int32) + v_1).toNatClampNeg) hx hb hK.1 hP hD hS 4 rfl rfl h.1 dX6_stands_34 (fun H locs hP hD hS => ?_)
  have h := h.2
  have hP : va_P D vwCl [(h6, .inr (6, [.ref a_mt, .int my, .ref a_mo, .ref a_md, .ref a_mb, .ref a_ms, .ref a_mp, .int mk, .ref a_mi, .int mq, .ref a_mn, .int mz, .int ma, .ref a_mh, .ref a_mg, .ref a_mr, .ref a_mx])), (a_mt, .inl (cI, 200, .inl mt)), (a_mo, .inl (cI, 16, .inl mo)), (a_md, .inl (cI, 16, .inl (upd (upd md (((2 : Int32) + v_1).toNatClampNeg) x1) (((9 : Int32) + v_1).toNatClampNeg) x2))), (a_mb, .inl (cI, 56, .inl (upd mb (((1 : Int32) + v_1).toNatClampNeg) v_1))), (a_ms, .inl (cI, 56, .inl ms)), (a_mp, .inl (cI, 448, .inl mp)), (a_mi, .inl (cI, 112, .inl mi)), (a_mn, .inl (cI, 12, .inl mn)), (a_mh, .inl (cI, 42, .inl mh)), (a_mg, .inl (cI, 56, .inl mg)), (a_mr, .inl (cI, 6, .inl mr)), (a_mx, .inl (cI, 6, .inl mx))] H := hP
  have hD : va_D A [(h6, .inr (6, [.ref a_mt, .int my, .ref a_mo, .ref a_md, .ref a_mb, .ref a_ms, .ref a_mp, .int mk, .ref a_mi, .int mq, .ref a_mn, .int mz, .int ma, .ref a_mh, .ref a_mg, .ref a_mr, .ref a_mx])), (a_mt, .inl (cI, 200, .inl mt)), (a_mo, .inl (cI, 16, .inl mo)), (a_md, .inl (cI, 16, .inl (upd (upd md (((2 : Int32) + v_1).toNatClampNeg) x1) (((9 : Int32) + v_1).toNatClampNeg) x2))), (a_mb, .inl (cI, 56, .inl (upd mb (((1 : Int32) + v_1).toNatClampNeg) v_1))), (a_ms, .inl (cI, 56, .inl ms)), (a_mp, .inl (cI, 448, .inl mp)), (a_mi, .inl (cI, 112, .inl mi)), (a_mn, .inl (cI, 12, .inl mn)), (a_mh, .inl (cI, 42, .inl mh)), (a_mg, .inl (cI, 56, .inl mg)), (a_mr, .inl (cI, 6, .inl mr)), (a_mx, .inl (cI, 6, .inl mx))] := hD
  refine lv_aload_n hx hb dX6_stands_35 rfl (lv_at hl 1 rfl) ?_
  refine va_get (D := D) (ci := 6) (v := .ref a_md) (C := RX6) (T := TX6) (N := 17) hx hb hts hin6 hown hK.1 hP 0 rfl rfl 3 (by decide) (k_0) (fun _ h9 => h9) rfl dX6_stands_36 ?_
  refine lv_iconst (v := 0) hx hb dX6_stands_39 (by decide) ?_
  refine lv_dup2_11 hx hb dX6_stands_40 rfl rfl ?_
  refine z_iald (k := 0) hx hb hK.1 hP 3 rfl (by decide) vi_0_16 dX6_stands_41 ?_
  refine lv_iconst (v := 1) hx hb dX6_stands_42 (by decide) ?_
  refine lv_iadd hx hb dX6_stands_43 ?_
  refine z_iast (k := 0) hx hb hK.1 hP hD hS 3 rfl (by decide) vi_0_16 dX6_stands_44 (fun H locs hP hD hS => ?_)
  have hP : va_P D vwCl [(h6, .inr (6, [.ref a_mt, .int my, .ref a_mo, .ref a_md, .ref a_mb, .ref a_ms, .ref a_mp, .int mk, .ref a_mi, .int mq, .ref a_mn, .int mz, .int ma, .ref a_mh, .ref a_mg, .ref a_mr, .ref a_mx])), (a_mt, .inl (cI, 200, .inl mt)), (a_mo, .inl (cI, 16, .inl mo)), (a_md, .inl (cI, 16, .inl (upd (upd (upd md (((2 : Int32) + v_1).toNatClampNeg) x1) (((9 : Int32) + v_1).toNatClampNeg) x2) 0 (((upd (upd md (((2 : Int32) + v_1).toNatClampNeg) x1) (((9 : Int32) + v_1).toNatClampNeg) x2) 0) + (1 : Int32))))), (a_mb, .inl (cI, 56, .inl (upd mb (((1 : Int32) + v_1).toNatClampNeg) v_1))), (a_ms, .inl (cI, 56, .inl ms)), (a_mp, .inl (cI, 448, .inl mp)), (a_mi, .inl (cI, 112, .inl mi)), (a_mn, .inl (cI, 12, .inl mn)), (a_mh, .inl (cI, 42, .inl mh)), (a_mg, .inl (cI, 56, .inl mg)), (a_mr, .inl (cI, 6, .inl mr)), (a_mx, .inl (cI, 6, .inl mx))] H := hP
  have hD : va_D A [(h6, .inr (6, [.ref a_mt, .int my, .ref a_mo, .ref a_md, .ref a_mb, .ref a_ms, .ref a_mp, .int mk, .ref a_mi, .int mq, .ref a_mn, .int mz, .int ma, .ref a_mh, .ref a_mg, .ref a_mr, .ref a_mx])), (a_mt, .inl (cI, 200, .inl mt)), (a_mo, .inl (cI, 16, .inl mo)), (a_md, .inl (cI, 16, .inl (upd (upd (upd md (((2 : Int32) + v_1).toNatClampNeg) x1) (((9 : Int32) + v_1).toNatClampNeg) x2) 0 (((upd (upd md (((2 : Int32) + v_1).toNatClampNeg) x1) (((9 : Int32) + v_1).toNatClampNeg) x2) 0) + (1 : Int32))))), (a_mb, .inl (cI, 56, .inl (upd mb (((1 : Int32) + v_1).toNatClampNeg) v_1))), (a_ms, .inl (cI, 56, .inl ms)), (a_mp, .inl (cI, 448, .inl mp)), (a_mi, .inl (cI, 112, .inl mi)), (a_mn, .inl (cI, 12, .inl mn)), (a_mh, .inl (cI, 42, .inl mh)), (a_mg, .inl (cI, 56, .inl mg)), (a_mr, .inl (cI, 6, .inl mr)), (a_mx, .inl (cI, 6, .inl mx))] := hD
  exact hret ((upd (upd (upd md (((2 : Int32) + v_1).toNatClampNeg) x1) (((9 : Int32) + v_1).toNatClampNeg) x2) 0 (((upd (upd md (((2 : Int32) + v_1).toNatClampNeg) x1) (((9 : Int32) + v_1).toNatClampNeg) x2) 0) + (1 : Int32))), (upd mb (((1 : Int32) + v_1).toNatClampNeg) v_1)) _ _ _ ls h hP hD hS dX6_stands_45

/-! DoubtCourtModel.isTold -/
abbrev rmX6_isTold : Room := { frames := 0, cells := 0, slots := 0, locals := 0 }
theorem yoX6_isTold : yX6_isTold.cls ≠ "java/lang/invoke/MethodHandle" ∧ yX6_isTold.cls ≠ "java/lang/invoke/VarHandle" ∧ (parseMethodDescriptor yX6_isTold.desc).map (fun d => d.parameters.length) = some 2 := by decide +kernel
set_option maxHeartbeats 4000000 in
set_option maxRecDepth 100000 in
theorem c_X6_isTold (l : Launch) (D : va_G) (cI cC cQ : ClassId) (h6 : Nat) (a_mt : Nat) (a_mo : Nat) (a_md : Nat) (a_mb : Nat) (a_ms : Nat) (a_mp : Nat) (a_mi : Nat) (a_mn : Nat) (a_mh : Nat) (a_mg : Nat) (a_mr : Nat) (a_mx : Nat) (mt : Nat → Int32) (my : Int32) (mo : Nat → Int32) (md : Nat → Int32) (mb : Nat → Int32) (ms : Nat → Int32) (mp : Nat → Int32) (mk : Int32) (mi : Nat → Int32) (mq : Int32) (mn : Nat → Int32) (mz : Int32) (ma : Int32) (mh : Nat → Int32) (mg : Nat → Int32) (mr : Nat → Int32) (mx : Nat → Int32) (x1 : Int32) (x2 : Int32) (Q : (Nat → Int32) → (Nat → Int32) → Prop) (h : wX6_isTold x1 x2 md mb Q) : Cv (S := (Nat → Int32) × (Nat → Int32)) l D cI cC cQ yX6_isTold wsX6_isTold rmX6_isTold [.ref h6, .int x1, .int x2] [(h6, .inr (6, [.ref a_mt, .int my, .ref a_mo, .ref a_md, .ref a_mb, .ref a_ms, .ref a_mp, .int mk, .ref a_mi, .int mq, .ref a_mn, .int mz, .int ma, .ref a_mh, .ref a_mg, .ref a_mr, .ref a_mx])), (a_mt, .inl (cI, 200, .inl mt)), (a_mo, .inl (cI, 16, .inl mo)), (a_md, .inl (cI, 16, .inl md)), (a_mb, .inl (cI, 56, .inl mb)), (a_ms, .inl (cI, 56, .inl ms)), (a_mp, .inl (cI, 448, .inl mp)), (a_mi, .inl (cI, 112, .inl mi)), (a_mn, .inl (cI, 12, .inl mn)), (a_mh, .inl (cI, 42, .inl mh)), (a_mg, .inl (cI, 56, .inl mg)), (a_mr, .inl (cI, 6, .inl mr)), (a_mx, .inl (cI, 6, .inl mx))] (fun u => [(h6, .inr (6, [.ref a_mt, .int my, .ref a_mo, .ref a_md, .ref a_mb, .ref a_ms, .ref a_mp, .int mk, .ref a_mi, .int mq, .ref a_mn, .int mz, .int ma, .ref a_mh, .ref a_mg, .ref a_mr, .ref a_mx])), (a_mt, .inl (cI, 200, .inl mt)), (a_mo, .inl (cI, 16, .inl mo)), (a_md, .inl (cI, 16, .inl u.1)), (a_mb, .inl (cI, 56, .inl u.2)), (a_ms, .inl (cI, 56, .inl ms)), (a_mp, .inl (cI, 448, .inl mp)), (a_mi, .inl (cI, 112, .inl mi)), (a_mn, .inl (cI, 12, .inl mn)), (a_mh, .inl (cI, 42, .inl mh)), (a_mg, .inl (cI, 56, .inl mg)), (a_mr, .inl (cI, 6, .inl mr)), (a_mx, .inl (cI, 6, .inl mx))]) (fun u => Q u.1 u.2) := by
  refine Cv_mk (cc := cX6_isTold) (maxL := 6) (by decide) rfl (Nat.le_of_ble_eq_true rfl) ?_
  intro p e s m args below meth c A Z ls hx hb hml hown hts hK hA hP hD hret hl
  have hS : va_S A s.heap s.heap [] := va_S.rf
  have hin6 : ∀ w ∈ u_ws RX6 TX6 17, w ∈ wsX6_isTold := by decide +kernel
  have k_0 := hts (.fieldLink RX6 16 "DoubtCourtModel" "draft" "[I") (by decide +kernel)
  have k_1 := hts (.fieldLink RX6 19 "DoubtCourtModel" "begun" "[I") (by decide +kernel)
  have hl : lv_has ls 6 [(0, .ref h6), (1, .int x1), (2, .int x2)] := hl
  have L20 : ∀ {K58 : (Nat → Int32) → Prop} (n : Nat) {x1 : Int32} {x3 : Int32} {x4 : Int32} {x5 : Int32} {md : Nat → Int32} {mb : Nat → Int32} {H : Heap} {locs : List Loc} {ls : Array Slot}, wX6_isTold_L20 x3 K58 n x4 x5 mb → va_P D vwCl [(h6, .inr (6, [.ref a_mt, .int my, .ref a_mo, .ref a_md, .ref a_mb, .ref a_ms, .ref a_mp, .int mk, .ref a_mi, .int mq, .ref a_mn, .int mz, .int ma, .ref a_mh, .ref a_mg, .ref a_mr, .ref a_mx])), (a_mt, .inl (cI, 200, .inl mt)), (a_mo, .inl (cI, 16, .inl mo)), (a_md, .inl (cI, 16, .inl md)), (a_mb, .inl (cI, 56, .inl mb)), (a_ms, .inl (cI, 56, .inl ms)), (a_mp, .inl (cI, 448, .inl mp)), (a_mi, .inl (cI, 112, .inl mi)), (a_mn, .inl (cI, 12, .inl mn)), (a_mh, .inl (cI, 42, .inl mh)), (a_mg, .inl (cI, 56, .inl mg)), (a_mr, .inl (cI, 6, .inl mr)), (a_mx, .inl (cI, 6, .inl mx))] H → va_D A [(h6, .inr (6, [.ref a_mt, .int my, .ref a_mo, .ref a_md, .ref a_mb, .ref a_ms, .ref a_mp, .int mk, .ref a_mi, .int mq, .ref a_mn, .int mz, .int ma, .ref a_mh, .ref a_mg, .ref a_mr, .ref a_mx])), (a_mt, .inl (cI, 200, .inl mt)), (a_mo, .inl (cI, 16, .inl mo)), (a_md, .inl (cI, 16, .inl md)), (a_mb, .inl (cI, 56, .inl mb)), (a_ms, .inl (cI, 56, .inl ms)), (a_mp, .inl (cI, 448, .inl mp)), (a_mi, .inl (cI, 112, .inl mi)), (a_mn, .inl (cI, 12, .inl mn)), (a_mh, .inl (cI, 42, .inl mh)), (a_mg, .inl (cI, 56, .inl mg)), (a_mr, .inl (cI, 6, .inl mr)), (a_mx, .inl (cI, 6, .inl mx))] → va_S A s.heap H locs → lv_has ls 6 [(0, .ref h6), (1, .int x1), (3, .int x3), (4, .int x4), (5, .int x5)] → (∀ (mb : Nat → Int32) (H : Heap) (locs : List Loc) (ls : Array Slot), K58 mb → va_P D vwCl [(h6, .inr (6, [.ref a_mt, .int my, .ref a_mo, .ref a_md, .ref a_mb, .ref a_ms, .ref a_mp, .int mk, .ref a_mi, .int mq, .ref a_mn, .int mz, .int ma, .ref a_mh, .ref a_mg, .ref a_mr, .ref a_mx])), (a_mt, .inl (cI, 200, .inl mt)), (a_mo, .inl (cI, 16, .inl mo)), (a_md, .inl (cI, 16, .inl md)), (a_mb, .inl (cI, 56, .inl mb)), (a_ms, .inl (cI, 56, .inl ms)), (a_mp, .inl (cI, 448, .inl mp)), (a_mi, .inl (cI, 112, .inl mi)), (a_mn, .inl (cI, 12, .inl mn)), (a_mh, .inl (cI, 42, .inl mh)), (a_mg, .inl (cI, 56, .inl mg)), (a_mr, .inl (cI, 6, .inl mr)), (a_mx, .inl (cI, 6, .inl mx))] H → va_D A [(h6, .inr (6, [.ref a_mt, .int my, .ref a_mo, .ref a_md, .ref a_mb, .ref a_ms, .ref a_mp, .int mk, .ref a_mi, .int mq, .ref a_mn, .int mz, .int ma, .ref a_mh, .ref a_mg, .ref a_mr, .ref a_mx])), (a_mt, .inl (cI, 200, .inl mt)), (a_mo, .inl (cI, 16, .inl mo)), (a_md, .inl (cI, 16, .inl md)), (a_mb, .inl (cI, 56, .inl mb)), (a_ms, .inl (cI, 56, .inl ms)), (a_mp, .inl (cI, 448, .inl mp)), (a_mi, .inl (cI, 112, .inl mi)), (a_mn, .inl (cI, 12, .inl mn)), (a_mh, .inl (cI, 42, .inl mh)), (a_mg, .inl (cI, 56, .inl mg)), (a_mr, .inl (cI, 6, .inl mr)), (a_mx, .inl (cI, 6, .inl mx))] → va_S A s.heap H locs → lv_has ls 6 [(0, .ref h6), (1, .int x1), (3, .int x3)] → W p l e rmX6_isTold s m args below meth c H locs 0 0 Z (F0 m 58 ls [])) → W p l e rmX6_isTold s m args below meth c H locs 0 0 Z (F0 m 20 ls []) := by
    intro K58
    intro n
    induction n with
    | zero =>
      intro x1 x3 x4 x5 md mb H locs ls h hP hD hS hl hk58
      exact (show False from h).elim
    | succ n ih =>
      intro x1 x3 x4 x5 md mb H locs ls h hP hD hS hl hk58
      refine lv_iload hx hb dX6_isTold_20 (lv_at hl 4 rfl) ?_
      refine lv_if_lt (tgt := 58) hx hb dX6_isTold_22 (by decide) (fun c_5 => ?_) (fun c_5 => ?_)
      · have h := h.1 c_5
        exact hk58 mb _ _ _ h hP hD hS (lv_sub hl [0, 1, 2] rfl)
      · have h := h.2 c_5
        refine lv_aload_n hx hb dX6_isTold_25 rfl (lv_at hl 0 rfl) ?_
        refine va_get (D := D) (ci := 6) (v := .ref a_mb) (C := RX6) (T := TX6) (N := 17) hx hb hts hin6 hown hK.1 hP 0 rfl rfl 4 (by decide) (k_1) (fun _ h9 => h9) rfl dX6_isTold_26 ?_
        refine lv_bipush (v := 14) hx hb dX6_isTold_29 (by decide) ?_
        refine lv_bipush (v := 7) hx hb dX6_isTold_31 (by decide) ?_
        refine lv_iload_n hx hb dX6_isTold_33 rfl (lv_at hl 2 rfl) ?_
        refine lv_imul hx hb dX6_isTold_34 ?_
        refine lv_iadd hx hb dX6_isTold_35 ?_
        refine lv_iload hx hb dX6_isTold_36 (lv_at hl 4 rfl) ?_
        refine lv_iadd hx hb dX6_isTold_38 ?_
        refine lv_iload hx hb dX6_isTold_39 (lv_at hl 3 rfl) ?_
        refine lv_bipush (v := 10) hx hb dX6_isTold_41 (by decide) ?_
        refine lv_irem hx hb dX6_isTold_43 (by decide) ?_
        refine z_iast (k := (((14 : Int32) + ((7 : Int32) * x3)) + x5).toNatClampNeg) hx hb hK.1 hP hD hS 4 rfl rfl h.1 dX6_isTold_44 (fun H locs hP hD hS => ?_)
        have h := h.2
        have hP : va_P D vwCl [(h6, .inr (6, [.ref a_mt, .int my, .ref a_mo, .ref a_md, .ref a_mb, .ref a_ms, .ref a_mp, .int mk, .ref a_mi, .int mq, .ref a_mn, .int mz, .int ma, .ref a_mh, .ref a_mg, .ref a_mr, .ref a_mx])), (a_mt, .inl (cI, 200, .inl mt)), (a_mo, .inl (cI, 16, .inl mo)), (a_md, .inl (cI, 16, .inl md)), (a_mb, .inl (cI, 56, .inl (upd mb ((((14 : Int32) + ((7 : Int32) * x3)) + x5).toNatClampNeg) (x4 - x4 / (10 : Int32) * (10 : Int32))))), (a_ms, .inl (cI, 56, .inl ms)), (a_mp, .inl (cI, 448, .inl mp)), (a_mi, .inl (cI, 112, .inl mi)), (a_mn, .inl (cI, 12, .inl mn)), (a_mh, .inl (cI, 42, .inl mh)), (a_mg, .inl (cI, 56, .inl mg)), (a_mr, .inl (cI, 6, .inl mr)), (a_mx, .inl (cI, 6, .inl mx))] H := hP
        have hD : va_D A [(h6, .inr (6, [.ref a_mt, .int my, .ref a_mo, .ref a_md, .ref a_mb, .ref a_ms, .ref a_mp, .int mk, .ref a_mi, .int mq, .ref a_mn, .int mz, .int ma, .ref a_mh, .ref a_mg, .ref a_mr, .ref a_mx])), (a_mt, .inl (cI, 200, .inl mt)), (a_mo, .inl (cI, 16, .inl mo)), (a_md, .inl (cI, 16, .inl md)), (a_mb, .inl (cI, 56, .inl (upd mb ((((14 : Int32) + ((7 : Int32) * x3)) + x5).toNatClampNeg) (x4 - x4 / (10 : Int32) * (10 : Int32))))), (a_ms, .inl (cI, 56, .inl ms)), (a_mp, .inl (cI, 448, .inl mp)), (a_mi, .inl (cI, 112, .inl mi)), (a_mn, .inl (cI, 12, .inl mn)), (a_mh, .inl (cI, 42, .inl mh)), (a_mg, .inl (cI, 56, .inl mg)), (a_mr, .inl (cI, 6, .inl mr)), (a_mx, .inl (cI, 6, .inl mx))] := hD
        refine lv_iload hx hb dX6_isTold_45 (lv_at hl 3 rfl) ?_
        refine lv_bipush (v := 10) hx hb dX6_isTold_47 (by decide) ?_
        refine lv_idiv hx hb dX6_isTold_49 (by decide) ?_
        refine lv_topi (fun v_6 ev_6 => ?_)
        have h := h v_6 ev_6
        refine lv_istore (lv' := [(4, .int v_6), (0, .ref h6), (1, .int x1), (3, .int x3), (5, .int x5)]) hx hb dX6_isTold_50 hl (by decide) rfl (fun ls hl => ?_)
        refine lv_iinc (v := (x5 + (-1 : Int32))) (lv' := [(5, .int (x5 + (-1 : Int32))), (4, .int v_6), (0, .ref h6), (1, .int x1), (3, .int x3)]) hx hb dX6_isTold_52 hl (k := 4) rfl rfl (by decide) rfl (fun ls hl => ?_)
        refine lv_goto (tgt := 20) hx hb dX6_isTold_55 (by decide) ?_
        exact ih h hP hD hS (lv_sub hl [2, 3, 4, 1, 0] rfl) hk58
  refine lv_aload_n hx hb dX6_isTold_0 rfl (lv_at hl 0 rfl) ?_
  refine va_get (D := D) (ci := 6) (v := .ref a_md) (C := RX6) (T := TX6) (N := 17) hx hb hts hin6 hown hK.1 hP 0 rfl rfl 3 (by decide) (k_0) (fun _ h9 => h9) rfl dX6_isTold_1 ?_
  refine lv_iconst (v := 1) hx hb dX6_isTold_4 (by decide) ?_
  refine z_iald (k := 1) hx hb hK.1 hP 3 rfl (by decide) vi_1_16 dX6_isTold_5 ?_
  refine lv_topi (fun v_1 ev_1 => ?_)
  have h := h v_1 ev_1
  refine lv_istore_n (lv' := [(3, .int v_1), (0, .ref h6), (1, .int x1), (2, .int x2)]) hx hb dX6_isTold_6 rfl hl (by decide) rfl (fun ls hl => ?_)
  refine lv_iload_n hx hb dX6_isTold_7 rfl (lv_at hl 3 rfl) ?_
  refine lv_istore (lv' := [(4, .int x2), (3, .int v_1), (0, .ref h6), (1, .int x1), (2, .int x2)]) hx hb dX6_isTold_8 hl (by decide) rfl (fun ls hl => ?_)
  refine lv_aload_n hx hb dX6_isTold_10 rfl (lv_at hl 2 rfl) ?_
  refine va_get (D := D) (ci := 6) (v := .ref a_md) (C := RX6) (T := TX6) (N := 17) hx hb hts hin6 hown hK.1 hP 0 rfl rfl 3 (by decide) (k_0) (fun _ h9 => h9) rfl dX6_isTold_11 ?_
  refine lv_iconst (v := 0) hx hb dX6_isTold_14 (by decide) ?_
  refine z_iald (k := 0) hx hb hK.1 hP 3 rfl (by decide) vi_0_16 dX6_isTold_15 ?_
  refine lv_iconst (v := 1) hx hb dX6_isTold_16 (by decide) ?_
  refine lv_isub hx hb dX6_isTold_17 ?_
  refine lv_topi (fun v_2 ev_2 => ?_)
  have h := h v_2 ev_2
  refine lv_istore (lv' := [(5, .int v_2), (4, .int x2), (3, .int v_1), (0, .ref h6), (1, .int x1), (2, .int x2)]) hx hb dX6_isTold_18 hl (by decide) rfl (fun ls hl => ?_)
  obtain ⟨n_8, h⟩ := h
  refine L20 n_8 h hP hD hS (lv_sub hl [3, 4, 2, 1, 0] rfl) (fun mb_7 H locs ls h hP hD hS hl => ?_)
  refine lv_aload_n hx hb dX6_isTold_58 rfl (lv_at hl 0 rfl) ?_
  refine va_get (D := D) (ci := 6) (v := .ref a_mb) (C := RX6) (T := TX6) (N := 17) hx hb hts hin6 hown hK.1 hP 0 rfl rfl 4 (by decide) (k_1) (fun _ h9 => h9) rfl dX6_isTold_59 ?_
  refine lv_bipush (v := 8) hx hb dX6_isTold_62 (by decide) ?_
  refine lv_iload_n hx hb dX6_isTold_64 rfl (lv_at hl 2 rfl) ?_
  refine lv_iadd hx hb dX6_isTold_65 ?_
  refine lv_iload_n hx hb dX6_isTold_66 rfl (lv_at hl 1 rfl) ?_
  refine z_iast (k := ((8 : Int32) + v_1).toNatClampNeg) hx hb hK.1 hP hD hS 4 rfl rfl h.1 dX6_isTold_67 (fun H locs hP hD hS => ?_)
  have h := h.2
  have hP : va_P D vwCl [(h6, .inr (6, [.ref a_mt, .int my, .ref a_mo, .ref a_md, .ref a_mb, .ref a_ms, .ref a_mp, .int mk, .ref a_mi, .int mq, .ref a_mn, .int mz, .int ma, .ref a_mh, .ref a_mg, .ref a_mr, .ref a_mx])), (a_mt, .inl (cI, 200, .inl mt)), (a_mo, .inl (cI, 16, .inl mo)), (a_md, .inl (cI, 16, .inl md)), (a_mb, .inl (cI, 56, .inl (upd mb_7 (((8 : Int32) + v_1).toNatClampNeg) x1))), (a_ms, .inl (cI, 56, .inl ms)), (a_mp, .inl (cI, 448, .inl mp)), (a_mi, .inl (cI, 112, .inl mi)), (a_mn, .inl (cI, 12, .inl mn)), (a_mh, .inl (cI, 42, .inl mh)), (a_mg, .inl (cI, 56, .inl mg)), (a_mr, .inl (cI, 6, .inl mr)), (a_mx, .inl (cI, 6, .inl mx))] H := hP
  have hD : va_D A [(h6, .inr (6, [.ref a_mt, .int my, .ref a_mo, .ref a_md, .ref a_mb, .ref a_ms, .ref a_mp, .int mk, .ref a_mi, .int mq, .ref a_mn, .int mz, .int ma, .ref a_mh, .ref a_mg, .ref a_mr, .ref a_mx])), (a_mt, .inl (cI, 200, .inl mt)), (a_mo, .inl (cI, 16, .inl mo)), (a_md, .inl (cI, 16, .inl md)), (a_mb, .inl (cI, 56, .inl (upd mb_7 (((8 : Int32) + v_1).toNatClampNeg) x1))), (a_ms, .inl (cI, 56, .inl ms)), (a_mp, .inl (cI, 448, .inl mp)), (a_mi, .inl (cI, 112, .inl mi)), (a_mn, .inl (cI, 12, .inl mn)), (a_mh, .inl (cI, 42, .inl mh)), (a_mg, .inl (cI, 56, .inl mg)), (a_mr, .inl (cI, 6, .inl mr)), (a_mx, .inl (cI, 6, .inl mx))] := hD
  refine lv_aload_n hx hb dX6_isTold_68 rfl (lv_at hl 0 rfl) ?_
  refine va_get (D := D) (ci := 6) (v := .ref a_md) (C := RX6) (T := TX6) (N := 17) hx hb hts hin6 hown hK.1 hP 0 rfl rfl 3 (by decide) (k_0) (fun _ h9 => h9) rfl dX6_isTold_69 ?_
  refine lv_iconst (v := 1) hx hb dX6_isTold_72 (by decide) ?_
  refine lv_dup2_11 hx hb dX6_isTold_73 rfl rfl ?_
  refine z_iald (k := 1) hx hb hK.1 hP 3 rfl (by decide) vi_1_16 dX6_isTold_74 ?_
  refine lv_iconst (v := 1) hx hb dX6_isTold_75 (by decide) ?_
  refine lv_iadd hx hb dX6_isTold_76 ?_
  refine z_iast (k := 1) hx hb hK.1 hP hD hS 3 rfl (by decide) vi_1_16 dX6_isTold_77 (fun H locs hP hD hS => ?_)
  have hP : va_P D vwCl [(h6, .inr (6, [.ref a_mt, .int my, .ref a_mo, .ref a_md, .ref a_mb, .ref a_ms, .ref a_mp, .int mk, .ref a_mi, .int mq, .ref a_mn, .int mz, .int ma, .ref a_mh, .ref a_mg, .ref a_mr, .ref a_mx])), (a_mt, .inl (cI, 200, .inl mt)), (a_mo, .inl (cI, 16, .inl mo)), (a_md, .inl (cI, 16, .inl (upd md 1 ((md 1) + (1 : Int32))))), (a_mb, .inl (cI, 56, .inl (upd mb_7 (((8 : Int32) + v_1).toNatClampNeg) x1))), (a_ms, .inl (cI, 56, .inl ms)), (a_mp, .inl (cI, 448, .inl mp)), (a_mi, .inl (cI, 112, .inl mi)), (a_mn, .inl (cI, 12, .inl mn)), (a_mh, .inl (cI, 42, .inl mh)), (a_mg, .inl (cI, 56, .inl mg)), (a_mr, .inl (cI, 6, .inl mr)), (a_mx, .inl (cI, 6, .inl mx))] H := hP
  have hD : va_D A [(h6, .inr (6, [.ref a_mt, .int my, .ref a_mo, .ref a_md, .ref a_mb, .ref a_ms, .ref a_mp, .int mk, .ref a_mi, .int mq, .ref a_mn, .int mz, .int ma, .ref a_mh, .ref a_mg, .ref a_mr, .ref a_mx])), (a_mt, .inl (cI, 200, .inl mt)), (a_mo, .inl (cI, 16, .inl mo)), (a_md, .inl (cI, 16, .inl (upd md 1 ((md 1) + (1 : Int32))))), (a_mb, .inl (cI, 56, .inl (upd mb_7 (((8 : Int32) + v_1).toNatClampNeg) x1))), (a_ms, .inl (cI, 56, .inl ms)), (a_mp, .inl (cI, 448, .inl mp)), (a_mi, .inl (cI, 112, .inl mi)), (a_mn, .inl (cI, 12, .inl mn)), (a_mh, .inl (cI, 42, .inl mh)), (a_mg, .inl (cI, 56, .inl mg)), (a_mr, .inl (cI, 6, .inl mr)), (a_mx, .inl (cI, 6, .inl mx))] := hD
  exact hret ((upd md 1 ((md 1) + (1 : Int32))), (upd mb_7 (((8 : Int32) + v_1).toNatClampNeg) x1)) _ _ _ ls h hP hD hS dX6_isTold_78

/-! DoubtCourtModel.readsCourtier -/
abbrev rmX6_readsCourtier : Room := { frames := 3, cells := 0, slots := 0, locals := 67 }
theorem yoX6_readsCourtier : yX6_readsCourtier.cls ≠ "java/lang/invoke/MethodHandle" ∧ yX6_readsCourtier.cls ≠ "java/lang/invoke/VarHandle" ∧ (parseMethodDescriptor yX6_readsCourtier.desc).map (fun d => d.parameters.length) = some 0 := by decide +kernel
set_option maxHeartbeats 4000000 in
set_option maxRecDepth 100000 in
theorem c_X6_readsCourtier (l : Launch) (D : va_G) (cI cC cQ : ClassId) (h6 : Nat) (a_mt : Nat) (a_mo : Nat) (a_md : Nat) (a_mb : Nat) (a_ms : Nat) (a_mp : Nat) (a_mi : Nat) (a_mn : Nat) (a_mh : Nat) (a_mg : Nat) (a_mr : Nat) (a_mx : Nat) (mt : Nat → Int32) (my : Int32) (mo : Nat → Int32) (md : Nat → Int32) (mb : Nat → Int32) (ms : Nat → Int32) (mp : Nat → Int32) (mk : Int32) (mi : Nat → Int32) (mq : Int32) (mn : Nat → Int32) (mz : Int32) (ma : Int32) (mh : Nat → Int32) (mg : Nat → Int32) (mr : Nat → Int32) (mx : Nat → Int32) (Q : Int32 → (Nat → Int32) → (Nat → Int32) → Int32 → Prop) (h : wX6_readsCourtier mt my md mb ma Q) : Ci (S := (Nat → Int32) × (Nat → Int32) × (Int32)) l D cI cC cQ yX6_readsCourtier wsX6_readsCourtier rmX6_readsCourtier [.ref h6] [(h6, .inr (6, [.ref a_mt, .int my, .ref a_mo, .ref a_md, .ref a_mb, .ref a_ms, .ref a_mp, .int mk, .ref a_mi, .int mq, .ref a_mn, .int mz, .int ma, .ref a_mh, .ref a_mg, .ref a_mr, .ref a_mx])), (a_mt, .inl (cI, 200, .inl mt)), (a_mo, .inl (cI, 16, .inl mo)), (a_md, .inl (cI, 16, .inl md)), (a_mb, .inl (cI, 56, .inl mb)), (a_ms, .inl (cI, 56, .inl ms)), (a_mp, .inl (cI, 448, .inl mp)), (a_mi, .inl (cI, 112, .inl mi)), (a_mn, .inl (cI, 12, .inl mn)), (a_mh, .inl (cI, 42, .inl mh)), (a_mg, .inl (cI, 56, .inl mg)), (a_mr, .inl (cI, 6, .inl mr)), (a_mx, .inl (cI, 6, .inl mx))] (fun u => [(h6, .inr (6, [.ref a_mt, .int my, .ref a_mo, .ref a_md, .ref a_mb, .ref a_ms, .ref a_mp, .int mk, .ref a_mi, .int mq, .ref a_mn, .int mz, .int u.2.2, .ref a_mh, .ref a_mg, .ref a_mr, .ref a_mx])), (a_mt, .inl (cI, 200, .inl mt)), (a_mo, .inl (cI, 16, .inl mo)), (a_md, .inl (cI, 16, .inl u.1)), (a_mb, .inl (cI, 56, .inl u.2.1)), (a_ms, .inl (cI, 56, .inl ms)), (a_mp, .inl (cI, 448, .inl mp)), (a_mi, .inl (cI, 112, .inl mi)), (a_mn, .inl (cI, 12, .inl mn)), (a_mh, .inl (cI, 42, .inl mh)), (a_mg, .inl (cI, 56, .inl mg)), (a_mr, .inl (cI, 6, .inl mr)), (a_mx, .inl (cI, 6, .inl mx))]) (fun r u => (r = 0 ∨ r = 1) ∧ Q r u.1 u.2.1 u.2.2) := by
  refine Cz_mk (cc := cX6_readsCourtier) (maxL := 3) (by decide) rfl (Nat.le_of_ble_eq_true rfl) ?_
  intro p e s m args below meth c A Z ls hx hb hml hown hts hK hA hP hD hret hl
  have hS : va_S A s.heap s.heap [] := va_S.rf
  have hin6 : ∀ w ∈ u_ws RX6 TX6 17, w ∈ wsX6_readsCourtier := by decide +kernel
  have k_0 := hts (.fieldLink RX6 16 "DoubtCourtModel" "draft" "[I") (by decide +kernel)
  have hl : lv_has ls 3 [(0, .ref h6)] := hl
  refine lv_aload_n hx hb dX6_readsCourtier_0 rfl (lv_at hl 0 rfl) ?_
  refine lv_iconst (v := 0) hx hb dX6_readsCourtier_1 (by decide) ?_
  refine lv_iconst (v := 3) hx hb dX6_readsCourtier_2 (by decide) ?_
  refine lv_bipush (v := 44) hx hb dX6_readsCourtier_3 (by decide) ?_
  refine k0V_i (As := [.int (0 : Int32), .int (3 : Int32), .int (44 : Int32)]) (n := 3) ⟨hx, hb, hml, hown, hts⟩ hK hP hD hS hA (c_X6_number l D cI cC cQ h6 a_mt a_mo a_md a_mb a_ms a_mp a_mi a_mn a_mh a_mg a_mr a_mx mt my mo md mb ms mp mk mi mq mn mz ma mh mg mr mx (0 : Int32) (3 : Int32) (44 : Int32) _ h) gX6_readsCourtier_X6_number rfl rfl ⟨rfl, rfl⟩ yoX6_number ⟨Nat.le_of_ble_eq_true rfl, Nat.le_of_ble_eq_true rfl⟩ (q0 := 0) (ci := 6) rfl rfl rfl rfl hl.1 rfl (Nat.le_of_ble_eq_true rfl) dX6_readsCourtier_5 ⟨Nat.zero_le _, Nat.zero_le _⟩ (fun r_1 ma_2 H locs h hP hD hS => ?_)
  have hP : va_P D vwCl [(h6, .inr (6, [.ref a_mt, .int my, .ref a_mo, .ref a_md, .ref a_mb, .ref a_ms, .ref a_mp, .int mk, .ref a_mi, .int mq, .ref a_mn, .int mz, .int ma_2, .ref a_mh, .ref a_mg, .ref a_mr, .ref a_mx])), (a_mt, .inl (cI, 200, .inl mt)), (a_mo, .inl (cI, 16, .inl mo)), (a_md, .inl (cI, 16, .inl md)), (a_mb, .inl (cI, 56, .inl mb)), (a_ms, .inl (cI, 56, .inl ms)), (a_mp, .inl (cI, 448, .inl mp)), (a_mi, .inl (cI, 112, .inl mi)), (a_mn, .inl (cI, 12, .inl mn)), (a_mh, .inl (cI, 42, .inl mh)), (a_mg, .inl (cI, 56, .inl mg)), (a_mr, .inl (cI, 6, .inl mr)), (a_mx, .inl (cI, 6, .inl mx))] H := hP
  have hD : va_D A [(h6, .inr (6, [.ref a_mt, .int my, .ref a_mo, .ref a_md, .ref a_mb, .ref a_ms, .ref a_mp, .int mk, .ref a_mi, .int mq, .ref a_mn, .int mz, .int ma_2, .ref a_mh, .ref a_mg, .ref a_mr, .ref a_mx])), (a_mt, .inl (cI, 200, .inl mt)), (a_mo, .inl (cI, 16, .inl mo)), (a_md, .inl (cI, 16, .inl md)), (a_mb, .inl (cI, 56, .inl mb)), (a_ms, .inl (cI, 56, .inl ms)), (a_mp, .inl (cI, 448, .inl mp)), (a_mi, .inl (cI, 112, .inl mi)), (a_mn, .inl (cI, 12, .inl mn)), (a_mh, .inl (cI, 42, .inl mh)), (a_mg, .inl (cI, 56, .inl mg)), (a_mr, .inl (cI, 6, .inl mr)), (a_mx, .inl (cI, 6, .inl mx))] := hD
  refine lv_istore_n (lv' := [(1, .int r_1), (0, .ref h6)]) hx hb dX6_readsCourtier_8 rfl hl (by decide) rfl (fun ls hl => ?_)
  refine lv_iload_n hx hb dX6_readsCourtier_9 rfl (lv_at hl 0 rfl) ?_
  refine lv_if_ge (tgt := 17) hx hb dX6_readsCourtier_10 (by decide) (fun c_3 => ?_) (fun c_3 => ?_)
  · have h := h.1 c_3
    refine lv_aload_n hx hb dX6_readsCourtier_17 rfl (lv_at hl 1 rfl) ?_
    refine lv_iconst (v := 0) hx hb dX6_readsCourtier_18 (by decide) ?_
    refine lv_bipush (v := 9) hx hb dX6_readsCourtier_19 (by decide) ?_
    refine lv_bipush (v := 59) hx hb dX6_readsCourtier_21 (by decide) ?_
    refine k0V_i (As := [.int (0 : Int32), .int (9 : Int32), .int (59 : Int32)]) (n := 3) ⟨hx, hb, hml, hown, hts⟩ hK hP hD hS hA (c_X6_number l D cI cC cQ h6 a_mt a_mo a_md a_mb a_ms a_mp a_mi a_mn a_mh a_mg a_mr a_mx mt my mo md mb ms mp mk mi mq mn mz ma_2 mh mg mr mx (0 : Int32) (9 : Int32) (59 : Int32) _ h) gX6_readsCourtier_X6_number rfl rfl ⟨rfl, rfl⟩ yoX6_number ⟨Nat.le_of_ble_eq_true rfl, Nat.le_of_ble_eq_true rfl⟩ (q0 := 0) (ci := 6) rfl rfl rfl rfl hl.1 rfl (Nat.le_of_ble_eq_true rfl) dX6_readsCourtier_23 ⟨Nat.zero_le _, Nat.zero_le _⟩ (fun r_4 ma_5 H locs h hP hD hS => ?_)
    have hP : va_P D vwCl [(h6, .inr (6, [.ref a_mt, .int my, .ref a_mo, .ref a_md, .ref a_mb, .ref a_ms, .ref a_mp, .int mk, .ref a_mi, .int mq, .ref a_mn, .int mz, .int ma_5, .ref a_mh, .ref a_mg, .ref a_mr, .ref a_mx])), (a_mt, .inl (cI, 200, .inl mt)), (a_mo, .inl (cI, 16, .inl mo)), (a_md, .inl (cI, 16, .inl md)), (a_mb, .inl (cI, 56, .inl mb)), (a_ms, .inl (cI, 56, .inl ms)), (a_mp, .inl (cI, 448, .inl mp)), (a_mi, .inl (cI, 112, .inl mi)), (a_mn, .inl (cI, 12, .inl mn)), (a_mh, .inl (cI, 42, .inl mh)), (a_mg, .inl (cI, 56, .inl mg)), (a_mr, .inl (cI, 6, .inl mr)), (a_mx, .inl (cI, 6, .inl mx))] H := hP
    have hD : va_D A [(h6, .inr (6, [.ref a_mt, .int my, .ref a_mo, .ref a_md, .ref a_mb, .ref a_ms, .ref a_mp, .int mk, .ref a_mi, .int mq, .ref a_mn, .int mz, .int ma_5, .ref a_mh, .ref a_mg, .ref a_mr, .ref a_mx])), (a_mt, .inl (cI, 200, .inl mt)), (a_mo, .inl (cI, 16, .inl mo)), (a_md, .inl (cI, 16, .inl md)), (a_mb, .inl (cI, 56, .inl mb)), (a_ms, .inl (cI, 56, .inl ms)), (a_mp, .inl (cI, 448, .inl mp)), (a_mi, .inl (cI, 112, .inl mi)), (a_mn, .inl (cI, 12, .inl mn)), (a_mh, .inl (cI, 42, .inl mh)), (a_mg, .inl (cI, 56, .inl mg)), (a_mr, .inl (cI, 6, .inl mr)), (a_mx, .inl (cI, 6, .inl mx))] := hD
    refine lv_istore_n (lv' := [(2, .int r_4), (1, .int r_1), (0, .ref h6)]) hx hb dX6_readsCourtier_26 rfl hl (by decide) rfl (fun ls hl => ?_)
    refine lv_iload_n hx hb dX6_readsCourtier_27 rfl (lv_at hl 0 rfl) ?_
    refine lv_if_lt (tgt := 54) hx hb dX6_readsCourtier_28 (by decide) (fun c_6 => ?_) (fun c_6 => ?_)
    · have h := h.1 c_6
      refine lv_iconst (v := 0) hx hb dX6_readsCourtier_54 (by decide) ?_
      exact hret (0 : Int32) (md, mb, ma_5) _ _ _ ls (by decide) h hP hD hS dX6_readsCourtier_55
    · have h := h.2 c_6
      refine lv_iload_n hx hb dX6_readsCourtier_31 rfl (lv_at hl 0 rfl) ?_
      refine lv_bipush (v := 7) hx hb dX6_readsCourtier_32 (by decide) ?_
      refine lv_icmp_eq (tgt := 54) hx hb dX6_readsCourtier_34 (by decide) (fun c_7 => ?_) (fun c_7 => ?_)
      · have h := h.1 c_7
        refine lv_iconst (v := 0) hx hb dX6_readsCourtier_54 (by decide) ?_
        exact hret (0 : Int32) (md, mb, ma_5) _ _ _ ls (by decide) h hP hD hS dX6_readsCourtier_55
      · have h := h.2 c_7
        refine lv_iload_n hx hb dX6_readsCourtier_37 rfl (lv_at hl 0 rfl) ?_
        refine lv_bipush (v := 8) hx hb dX6_readsCourtier_38 (by decide) ?_
        refine lv_icmp_eq (tgt := 54) hx hb dX6_readsCourtier_40 (by decide) (fun c_8 => ?_) (fun c_8 => ?_)
        · have h := h.1 c_8
          refine lv_iconst (v := 0) hx hb dX6_readsCourtier_54 (by decide) ?_
          exact hret (0 : Int32) (md, mb, ma_5) _ _ _ ls (by decide) h hP hD hS dX6_readsCourtier_55
        · have h := h.2 c_8
          refine lv_aload_n hx hb dX6_readsCourtier_43 rfl (lv_at hl 2 rfl) ?_
          refine va_get (D := D) (ci := 6) (v := .ref a_md) (C := RX6) (T := TX6) (N := 17) hx hb hts hin6 hown hK.1 hP 0 rfl rfl 3 (by decide) (k_0) (fun _ h9 => h9) rfl dX6_readsCourtier_44 ?_
          refine lv_iconst (v := 0) hx hb dX6_readsCourtier_47 (by decide) ?_
          refine z_iald (k := 0) hx hb hK.1 hP 3 rfl (by decide) vi_0_16 dX6_readsCourtier_48 ?_
          refine lv_bipush (v := 7) hx hb dX6_readsCourtier_49 (by decide) ?_
          refine lv_icmp_ne (tgt := 56) hx hb dX6_readsCourtier_51 (by decide) (fun c_9 => ?_) (fun c_9 => ?_)
          · have h := h.2 c_9
            refine lv_aload_n hx hb dX6_readsCourtier_56 rfl (lv_at hl 2 rfl) ?_
            refine lv_iload_n hx hb dX6_readsCourtier_57 rfl (lv_at hl 1 rfl) ?_
            refine lv_iload_n hx hb dX6_readsCourtier_58 rfl (lv_at hl 0 rfl) ?_
            refine k0V_v (As := [.int r_1, .int r_4]) (n := 2) ⟨hx, hb, hml, hown, hts⟩ hK hP hD hS hA (c_X6_stands l D cI cC cQ h6 a_mt a_mo a_md a_mb a_ms a_mp a_mi a_mn a_mh a_mg a_mr a_mx mt my mo md mb ms mp mk mi mq mn mz ma_5 mh mg mr mx r_1 r_4 _ h) gX6_readsCourtier_X6_stands rfl rfl ⟨rfl, rfl⟩ yoX6_stands ⟨Nat.le_of_ble_eq_true rfl, Nat.le_of_ble_eq_true rfl⟩ (q0 := 0) (ci := 6) rfl rfl rfl rfl hl.1 rfl (Nat.le_of_ble_eq_true rfl) dX6_readsCourtier_59 ⟨Nat.zero_le _, Nat.zero_le _⟩ (fun u H locs h hP hD hS => ?_)
            obtain ⟨md_10, mb_11⟩ := u
            have hP : va_P D vwCl [(h6, .inr (6, [.ref a_mt, .int my, .ref a_mo, .ref a_md, .ref a_mb, .ref a_ms, .ref a_mp, .int mk, .ref a_mi, .int mq, .ref a_mn, .int mz, .int ma_5, .ref a_mh, .ref a_mg, .ref a_mr, .ref a_mx])), (a_mt, .inl (cI, 200, .inl mt)), (a_mo, .inl (cI, 16, .inl mo)), (a_md, .inl (cI, 16, .inl md_10)), (a_mb, .inl (cI, 56, .inl mb_11)), (a_ms, .inl (cI, 56, .inl ms)), (a_mp, .inl (cI, 448, .inl mp)), (a_mi, .inl (cI, 112, .inl mi)), (a_mn, .inl (cI, 12, .inl mn)), (a_mh, .inl (cI, 42, .inl mh)), (a_mg, .inl (cI, 56, .inl mg)), (a_mr, .inl (cI, 6, .inl mr)), (a_mx, .inl (cI, 6, .inl mx))] H := hP
            have hD : va_D A [(h6, .inr (6, [.ref a_mt, .int my, .ref a_mo, .ref a_md, .ref a_mb, .ref a_ms, .ref a_mp, .int mk, .ref a_mi, .int mq, .ref a_mn, .int mz, .int ma_5, .ref a_mh, .ref a_mg, .ref a_mr, .ref a_mx])), (a_mt, .inl (cI, 200, .inl mt)), (a_mo, .inl (cI, 16, .inl mo)), (a_md, .inl (cI, 16, .inl md_10)), (a_mb, .inl (cI, 56, .inl mb_11)), (a_ms, .inl (cI, 56, .inl ms)), (a_mp, .inl (cI, 448, .inl mp)), (a_mi, .inl (cI, 112, .inl mi)), (a_mn, .inl (cI, 12, .inl mn)), (a_mh, .inl (cI, 42, .inl mh)), (a_mg, .inl (cI, 56, .inl mg)), (a_mr, .inl (cI, 6, .inl mr)), (a_mx, .inl (cI, 6, .inl mx))] := hD
            refine lv_iconst (v := 1) hx hb dX6_readsCourtier_62 (by decide) ?_
            exact hret (1 : Int32) (md_10, mb_11, ma_5) _ _ _ ls (by decide) h hP hD hS dX6_readsCourtier_63
          · have h := h.1 c_9
            refine lv_iconst (v := 0) hx hb dX6_readsCourtier_54 (by decide) ?_
            exact hret (0 : Int32) (md, mb, ma_5) _ _ _ ls (by decide) h hP hD hS dX6_readsCourtier_55
  · have h := h.2 c_3
    refine lv_iconst (v := -1) hx hb dX6_readsCourtier_13 (by decide) ?_
    refine lv_goto (tgt := 26) hx hb dX6_readsCourtier_14 (by decide) ?_
    refine lv_istore_n (lv' := [(2, .int (-1 : Int32)), (1, .int r_1), (0, .ref h6)]) hx hb dX6_readsCourtier_26 rfl hl (by decide) rfl (fun ls hl => ?_)
    refine lv_iload_n hx hb dX6_readsCourtier_27 rfl (lv_at hl 0 rfl) ?_
    refine lv_if_lt (tgt := 54) hx hb dX6_readsCourtier_28 (by decide) (fun _ => ?_) (fun c_ => absurd c_ (by decide))
    refine lv_iconst (v := 0) hx hb dX6_readsCourtier_54 (by decide) ?_
    exact hret (0 : Int32) (md, mb, ma_2) _ _ _ ls (by decide) h hP hD hS dX6_readsCourtier_55

/-! DoubtCourtModel.readsNews -/
abbrev rmX6_readsNews : Room := { frames := 3, cells := 0, slots := 0, locals := 67 }
theorem yoX6_readsNews : yX6_readsNews.cls ≠ "java/lang/invoke/MethodHandle" ∧ yX6_readsNews.cls ≠ "java/lang/invoke/VarHandle" ∧ (parseMethodDescriptor yX6_readsNews.desc).map (fun d => d.parameters.length) = some 0 := by decide +kernel
set_option maxHeartbeats 4000000 in
set_option maxRecDepth 100000 in
theorem c_X6_readsNews (l : Launch) (D : va_G) (cI cC cQ : ClassId) (h6 : Nat) (a_mt : Nat) (a_mo : Nat) (a_md : Nat) (a_mb : Nat) (a_ms : Nat) (a_mp : Nat) (a_mi : Nat) (a_mn : Nat) (a_mh : Nat) (a_mg : Nat) (a_mr : Nat) (a_mx : Nat) (mt : Nat → Int32) (my : Int32) (mo : Nat → Int32) (md : Nat → Int32) (mb : Nat → Int32) (ms : Nat → Int32) (mp : Nat → Int32) (mk : Int32) (mi : Nat → Int32) (mq : Int32) (mn : Nat → Int32) (mz : Int32) (ma : Int32) (mh : Nat → Int32) (mg : Nat → Int32) (mr : Nat → Int32) (mx : Nat → Int32) (Q : Int32 → (Nat → Int32) → (Nat → Int32) → Int32 → Prop) (h : wX6_readsNews mt my md mb ma Q) : Ci (S := (Nat → Int32) × (Nat → Int32) × (Int32)) l D cI cC cQ yX6_readsNews wsX6_readsNews rmX6_readsNews [.ref h6] [(h6, .inr (6, [.ref a_mt, .int my, .ref a_mo, .ref a_md, .ref a_mb, .ref a_ms, .ref a_mp, .int mk, .ref a_mi, .int mq, .ref a_mn, .int mz, .int ma, .ref a_mh, .ref a_mg, .ref a_mr, .ref a_mx])), (a_mt, .inl (cI, 200, .inl mt)), (a_mo, .inl (cI, 16, .inl mo)), (a_md, .inl (cI, 16, .inl md)), (a_mb, .inl (cI, 56, .inl mb)), (a_ms, .inl (cI, 56, .inl ms)), (a_mp, .inl (cI, 448, .inl mp)), (a_mi, .inl (cI, 112, .inl mi)), (a_mn, .inl (cI, 12, .inl mn)), (a_mh, .inl (cI, 42, .inl mh)), (a_mg, .inl (cI, 56, .inl mg)), (a_mr, .inl (cI, 6, .inl mr)), (a_mx, .inl (cI, 6, .inl mx))] (fun u => [(h6, .inr (6, [.ref a_mt, .int my, .ref a_mo, .ref a_md, .ref a_mb, .ref a_ms, .ref a_mp, .int mk, .ref a_mi, .int mq, .ref a_mn, .int mz, .int u.2.2, .ref a_mh, .ref a_mg, .ref a_mr, .ref a_mx])), (a_mt, .inl (cI, 200, .inl mt)), (a_mo, .inl (cI, 16, .inl mo)), (a_md, .inl (cI, 16, .inl u.1)), (a_mb, .inl (cI, 56, .inl u.2.1)), (a_ms, .inl (cI, 56, .inl ms)), (a_mp, .inl (cI, 448, .inl mp)), (a_mi, .inl (cI, 112, .inl mi)), (a_mn, .inl (cI, 12, .inl mn)), (a_mh, .inl (cI, 42, .inl mh)), (a_mg, .inl (cI, 56, .inl mg)), (a_mr, .inl (cI, 6, .inl mr)), (a_mx, .inl (cI, 6, .inl mx))]) (fun r u => (r = 0 ∨ r = 1) ∧ Q r u.1 u.2.1 u.2.2) := by
  refine Cz_mk (cc := cX6_readsNews) (maxL := 4) (by decide) rfl (Nat.le_of_ble_eq_true rfl) ?_
  intro p e s m args below meth c A Z ls hx hb hml hown hts hK hA hP hD hret hl
  have hS : va_S A s.heap s.heap [] := va_S.rf
  have hin6 : ∀ w ∈ u_ws RX6 TX6 17, w ∈ wsX6_readsNews := by decide +kernel
  have k_0 := hts (.fieldLink RX6 16 "DoubtCourtModel" "draft" "[I") (by decide +kernel)
  have k_1 := hts (.fieldLink RX6 71 "DoubtCourtModel" "at" "I") (by decide +kernel)
  have hl : lv_has ls 4 [(0, .ref h6)] := hl
  have L37 : ∀ {K96 : Int32 → Int32 → Prop} (n : Nat) {x1 : Int32} {x2 : Int32} {x3 : Int32} {md : Nat → Int32} {mb : Nat → Int32} {ma : Int32} {H : Heap} {locs : List Loc} {ls : Array Slot}, wX6_readsNews_L37 mt my md mb K96 Q n x2 x3 ma → va_P D vwCl [(h6, .inr (6, [.ref a_mt, .int my, .ref a_mo, .ref a_md, .ref a_mb, .ref a_ms, .ref a_mp, .int mk, .ref a_mi, .int mq, .ref a_mn, .int mz, .int ma, .ref a_mh, .ref a_mg, .ref a_mr, .ref a_mx])), (a_mt, .inl (cI, 200, .inl mt)), (a_mo, .inl (cI, 16, .inl mo)), (a_md, .inl (cI, 16, .inl md)), (a_mb, .inl (cI, 56, .inl mb)), (a_ms, .inl (cI, 56, .inl ms)), (a_mp, .inl (cI, 448, .inl mp)), (a_mi, .inl (cI, 112, .inl mi)), (a_mn, .inl (cI, 12, .inl mn)), (a_mh, .inl (cI, 42, .inl mh)), (a_mg, .inl (cI, 56, .inl mg)), (a_mr, .inl (cI, 6, .inl mr)), (a_mx, .inl (cI, 6, .inl mx))] H → va_D A [(h6, .inr (6, [.ref a_mt, .int my, .ref a_mo, .ref a_md, .ref a_mb, .ref a_ms, .ref a_mp, .int mk, .ref a_mi, .int mq, .ref a_mn, .int mz, .int ma, .ref a_mh, .ref a_mg, .ref a_mr, .ref a_mx])), (a_mt, .inl (cI, 200, .inl mt)), (a_mo, .inl (cI, 16, .inl mo)), (a_md, .inl (cI, 16, .inl md)), (a_mb, .inl (cI, 56, .inl mb)), (a_ms, .inl (cI, 56, .inl ms)), (a_mp, .inl (cI, 448, .inl mp)), (a_mi, .inl (cI, 112, .inl mi)), (a_mn, .inl (cI, 12, .inl mn)), (a_mh, .inl (cI, 42, .inl mh)), (a_mg, .inl (cI, 56, .inl mg)), (a_mr, .inl (cI, 6, .inl mr)), (a_mx, .inl (cI, 6, .inl mx))] → va_S A s.heap H locs → lv_has ls 4 [(0, .ref h6), (1, .int x1), (2, .int x2), (3, .int x3)] → (∀ (x2 : Int32) (ma : Int32) (H : Heap) (locs : List Loc) (ls : Array Slot), K96 x2 ma → va_P D vwCl [(h6, .inr (6, [.ref a_mt, .int my, .ref a_mo, .ref a_md, .ref a_mb, .ref a_ms, .ref a_mp, .int mk, .ref a_mi, .int mq, .ref a_mn, .int mz, .int ma, .ref a_mh, .ref a_mg, .ref a_mr, .ref a_mx])), (a_mt, .inl (cI, 200, .inl mt)), (a_mo, .inl (cI, 16, .inl mo)), (a_md, .inl (cI, 16, .inl md)), (a_mb, .inl (cI, 56, .inl mb)), (a_ms, .inl (cI, 56, .inl ms)), (a_mp, .inl (cI, 448, .inl mp)), (a_mi, .inl (cI, 112, .inl mi)), (a_mn, .inl (cI, 12, .inl mn)), (a_mh, .inl (cI, 42, .inl mh)), (a_mg, .inl (cI, 56, .inl mg)), (a_mr, .inl (cI, 6, .inl mr)), (a_mx, .inl (cI, 6, .inl mx))] H → va_D A [(h6, .inr (6, [.ref a_mt, .int my, .ref a_mo, .ref a_md, .ref a_mb, .ref a_ms, .ref a_mp, .int mk, .ref a_mi, .int mq, .ref a_mn, .int mz, .int ma, .ref a_mh, .ref a_mg, .ref a_mr, .ref a_mx])), (a_mt, .inl (cI, 200, .inl mt)), (a_mo, .inl (cI, 16, .inl mo)), (a_md, .inl (cI, 16, .inl md)), (a_mb, .inl (cI, 56, .inl mb)), (a_ms, .inl (cI, 56, .inl ms)), (a_mp, .inl (cI, 448, .inl mp)), (a_mi, .inl (cI, 112, .inl mi)), (a_mn, .inl (cI, 12, .inl mn)), (a_mh, .inl (cI, 42, .inl mh)), (a_mg, .inl (cI, 56, .inl mg)), (a_mr, .inl (cI, 6, .inl mr)), (a_mx, .inl (cI, 6, .inl mx))] → va_S A s.heap H locs → lv_has ls 4 [(0, .ref h6), (1, .int x1), (2, .int x2)] → W p l e rmX6_readsNews s m args below meth c H locs 0 0 Z (F0 m 96 ls [])) → W p l e rmX6_readsNews s m args below meth c H locs 0 0 Z (F0 m 37 ls []) := by
    intro K96
    intro n
    induction n with
    | zero =>
      intro x1 x2 x3 md mb ma H locs ls h hP hD hS hl hk96
      exact (show False from h).elim
    | succ n ih =>
      intro x1 x2 x3 md mb ma H locs ls h hP hD hS hl hk96
      refine lv_iload_n hx hb dX6_readsNews_37 rfl (lv_at hl 3 rfl) ?_
      refine lv_aload_n hx hb dX6_readsNews_38 rfl (lv_at hl 0 rfl) ?_
      refine va_get (D := D) (ci := 6) (v := .ref a_md) (C := RX6) (T := TX6) (N := 17) hx hb hts hin6 hown hK.1 hP 0 rfl rfl 3 (by decide) (k_0) (fun _ h9 => h9) rfl dX6_readsNews_39 ?_
      refine lv_iconst (v := 0) hx hb dX6_readsNews_42 (by decide) ?_
      refine z_iald (k := 0) hx hb hK.1 hP 3 rfl (by decide) vi_0_16 dX6_readsNews_43 ?_
      refine lv_icmp_ge (tgt := 96) hx hb dX6_readsNews_44 (by decide) (fun c_12 => ?_) (fun c_12 => ?_)
      · have h := h.1 c_12
        exact hk96 x2 ma _ _ _ h hP hD hS (lv_sub hl [0, 1, 2] rfl)
      · have h := h.2 c_12
        refine lv_aload_n hx hb dX6_readsNews_47 rfl (lv_at hl 0 rfl) ?_
        refine lv_aload_n hx hb dX6_readsNews_48 rfl (lv_at hl 0 rfl) ?_
        refine va_get (D := D) (ci := 6) (v := .int ma) (C := RX6) (T := TX6) (N := 17) hx hb hts hin6 hown hK.1 hP 0 rfl rfl 12 (by decide) (k_1) (fun _ h9 => h9) rfl dX6_readsNews_49 ?_
        refine k0V_i (As := [.int ma]) (n := 1) ⟨hx, hb, hml, hown, hts⟩ hK hP hD hS hA (c_X6_letterAt l D cI cC cQ h6 a_mt a_mo a_md a_mb a_ms a_mp a_mi a_mn a_mh a_mg a_mr a_mx mt my mo md mb ms mp mk mi mq mn mz ma mh mg mr mx ma _ h) gX6_readsNews_X6_letterAt rfl rfl ⟨rfl, rfl⟩ yoX6_letterAt ⟨Nat.le_of_ble_eq_true rfl, Nat.le_of_ble_eq_true rfl⟩ (q0 := 0) (ci := 6) rfl rfl rfl rfl hl.1 rfl (Nat.le_of_ble_eq_true rfl) dX6_readsNews_52 ⟨Nat.zero_le _, Nat.zero_le _⟩ (fun r_13 u H locs h hP hD hS => ?_)
        refine kS_i (wr := [(h6, .inr (6, [.ref a_mt, .int my, .ref a_mo, .ref a_md, .ref a_mb, .ref a_ms, .ref a_mp, .int mk, .ref a_mi, .int mq, .ref a_mn, .int mz, .int ma, .ref a_mh, .ref a_mg, .ref a_mr, .ref a_mx])), (a_mt, .inl (cI, 200, .inl mt)), (a_mo, .inl (cI, 16, .inl mo)), (a_md, .inl (cI, 16, .inl md)), (a_mb, .inl (cI, 56, .inl mb)), (a_ms, .inl (cI, 56, .inl ms)), (a_mp, .inl (cI, 448, .inl mp)), (a_mi, .inl (cI, 112, .inl mi)), (a_mn, .inl (cI, 12, .inl mn)), (a_mh, .inl (cI, 42, .inl mh)), (a_mg, .inl (cI, 56, .inl mg)), (a_mr, .inl (cI, 6, .inl mr)), (a_mx, .inl (cI, 6, .inl mx))]) (As := [.int r_13]) (n := 1) ⟨hx, hb, hml, hown, hts⟩ hK hP hD hS hA (c_X6_isFigure l D cI cC cQ   r_13 _ h) gX6_readsNews_X6_isFigure rfl ⟨rfl, rfl⟩ yoX6_isFigure ⟨Nat.le_of_ble_eq_true rfl, Nat.le_of_ble_eq_true rfl⟩ rfl hl.1 rfl (Nat.le_of_ble_eq_true rfl) dX6_readsNews_55 ⟨Nat.zero_le _, Nat.zero_le _⟩ [] [0, 1, 2, 3, 4, 5, 6, 7, 8, 9, 10, 11, 12] rfl (by decide) rfl (by decide) (by decide) (fun r_14 u H locs h hP hD hS => ?_)
        have hP : va_P D vwCl [(h6, .inr (6, [.ref a_mt, .int my, .ref a_mo, .ref a_md, .ref a_mb, .ref a_ms, .ref a_mp, .int mk, .ref a_mi, .int mq, .ref a_mn, .int mz, .int ma, .ref a_mh, .ref a_mg, .ref a_mr, .ref a_mx])), (a_mt, .inl (cI, 200, .inl mt)), (a_mo, .inl (cI, 16, .inl mo)), (a_md, .inl (cI, 16, .inl md)), (a_mb, .inl (cI, 56, .inl mb)), (a_ms, .inl (cI, 56, .inl ms)), (a_mp, .inl (cI, 448, .inl mp)), (a_mi, .inl (cI, 112, .inl mi)), (a_mn, .inl (cI, 12, .inl mn)), (a_mh, .inl (cI, 42, .inl mh)), (a_mg, .inl (cI, 56, .inl mg)), (a_mr, .inl (cI, 6, .inl mr)), (a_mx, .inl (cI, 6, .inl mx))] H := hP
        have hD : va_D A [(h6, .inr (6, [.ref a_mt, .int my, .ref a_mo, .ref a_md, .ref a_mb, .ref a_ms, .ref a_mp, .int mk, .ref a_mi, .int mq, .ref a_mn, .int mz, .int ma, .ref a_mh, .ref a_mg, .ref a_mr, .ref a_mx])), (a_mt, .inl (cI, 200, .inl mt)), (a_mo, .inl (cI, 16, .inl mo)), (a_md, .inl (cI, 16, .inl md)), (a_mb, .inl (cI, 56, .inl mb)), (a_ms, .inl (cI, 56, .inl ms)), (a_mp, .inl (cI, 448, .inl mp)), (a_mi, .inl (cI, 112, .inl mi)), (a_mn, .inl (cI, 12, .inl mn)), (a_mh, .inl (cI, 42, .inl mh)), (a_mg, .inl (cI, 56, .inl mg)), (a_mr, .inl (cI, 6, .inl mr)), (a_mx, .inl (cI, 6, .inl mx))] := hD
        obtain ⟨b_15, h⟩ := h
        refine lv_if_ne (tgt := 63) hx hb dX6_readsNews_58 (by decide) (fun c_16 => ?_) (fun c_16 => ?_)
        · have h := h.2 c_16
          refine lv_bipush (v := 10) hx hb dX6_readsNews_63 (by decide) ?_
          refine lv_iload_n hx hb dX6_readsNews_65 rfl (lv_at hl 2 rfl) ?_
          refine lv_imul hx hb dX6_readsNews_66 ?_
          refine lv_aload_n hx hb dX6_readsNews_67 rfl (lv_at hl 0 rfl) ?_
          refine lv_aload_n hx hb dX6_readsNews_68 rfl (lv_at hl 0 rfl) ?_
          refine va_get (D := D) (ci := 6) (v := .int ma) (C := RX6) (T := TX6) (N := 17) hx hb hts hin6 hown hK.1 hP 0 rfl rfl 12 (by decide) (k_1) (fun _ h9 => h9) rfl dX6_readsNews_69 ?_
          refine k0V_i (As := [.int ma]) (n := 1) ⟨hx, hb, hml, hown, hts⟩ hK hP hD hS hA (c_X6_letterAt l D cI cC cQ h6 a_mt a_mo a_md a_mb a_ms a_mp a_mi a_mn a_mh a_mg a_mr a_mx mt my mo md mb ms mp mk mi mq mn mz ma mh mg mr mx ma _ h) gX6_readsNews_X6_letterAt rfl rfl ⟨rfl, rfl⟩ yoX6_letterAt ⟨Nat.le_of_ble_eq_true rfl, Nat.le_of_ble_eq_true rfl⟩ (q0 := 0) (ci := 6) rfl rfl rfl rfl hl.1 rfl (Nat.le_of_ble_eq_true rfl) dX6_readsNews_72 ⟨Nat.zero_le _, Nat.zero_le _⟩ (fun r_17 u H locs h hP hD hS => ?_)
          refine lv_iadd hx hb dX6_readsNews_75 ?_
          refine lv_bipush (v := 48) hx hb dX6_readsNews_76 (by decide) ?_
          refine lv_isub hx hb dX6_readsNews_78 ?_
          refine lv_topi (fun v_18 ev_18 => ?_)
          have h := h v_18 ev_18
          refine lv_istore_n (lv' := [(2, .int v_18), (0, .ref h6), (1, .int x1), (3, .int x3)]) hx hb dX6_readsNews_79 rfl hl (by decide) rfl (fun ls hl => ?_)
          refine lv_aload_n hx hb dX6_readsNews_80 rfl (lv_at hl 1 rfl) ?_
          refine lv_dup hx hb dX6_readsNews_81 rfl ?_
          refine va_get (D := D) (ci := 6) (v := .int ma) (C := RX6) (T := TX6) (N := 17) hx hb hts hin6 hown hK.1 hP 0 rfl rfl 12 (by decide) (k_1) (fun _ h9 => h9) rfl dX6_readsNews_82 ?_
          refine lv_iconst (v := 1) hx hb dX6_readsNews_85 (by decide) ?_
          refine lv_iadd hx hb dX6_readsNews_86 ?_
          refine va_put (D := D) (ci := 6) (v := .int (ma + (1 : Int32))) (ty := .int) (C := RX6) (T := TX6) (N := 17) hx hb hts hin6 tyX6 tyX6_ok nmX6 hown hK.1 hP hD hS 0 rfl rfl 12 (by decide) (k_1) (fun _ h9 => h9) rfl (by decide +kernel) rfl rfl (Nat.le_of_ble_eq_true rfl) dX6_readsNews_87 (fun H locs hP hD hS => ?_)
          have hP : va_P D vwCl [(h6, .inr (6, [.ref a_mt, .int my, .ref a_mo, .ref a_md, .ref a_mb, .ref a_ms, .ref a_mp, .int mk, .ref a_mi, .int mq, .ref a_mn, .int mz, .int (ma + (1 : Int32)), .ref a_mh, .ref a_mg, .ref a_mr, .ref a_mx])), (a_mt, .inl (cI, 200, .inl mt)), (a_mo, .inl (cI, 16, .inl mo)), (a_md, .inl (cI, 16, .inl md)), (a_mb, .inl (cI, 56, .inl mb)), (a_ms, .inl (cI, 56, .inl ms)), (a_mp, .inl (cI, 448, .inl mp)), (a_mi, .inl (cI, 112, .inl mi)), (a_mn, .inl (cI, 12, .inl mn)), (a_mh, .inl (cI, 42, .inl mh)), (a_mg, .inl (cI, 56, .inl mg)), (a_mr, .inl (cI, 6, .inl mr)), (a_mx, .inl (cI, 6, .inl mx))] H := hP
          have hD : va_D A [(h6, .inr (6, [.ref a_mt, .int my, .ref a_mo, .ref a_md, .ref a_mb, .ref a_ms, .ref a_mp, .int mk, .ref a_mi, .int mq, .ref a_mn, .int mz, .int (ma + (1 : Int32)), .ref a_mh, .ref a_mg, .ref a_mr, .ref a_mx])), (a_mt, .inl (cI, 200, .inl mt)), (a_mo, .inl (cI, 16, .inl mo)), (a_md, .inl (cI, 16, .inl md)), (a_mb, .inl (cI, 56, .inl mb)), (a_ms, .inl (cI, 56, .inl ms)), (a_mp, .inl (cI, 448, .inl mp)), (a_mi, .inl (cI, 112, .inl mi)), (a_mn, .inl (cI, 12, .inl mn)), (a_mh, .inl (cI, 42, .inl mh)), (a_mg, .inl (cI, 56, .inl mg)), (a_mr, .inl (cI, 6, .inl mr)), (a_mx, .inl (cI, 6, .inl mx))] := hD
          refine lv_iinc (v := (x3 + (1 : Int32))) (lv' := [(3, .int (x3 + (1 : Int32))), (2, .int v_18), (0, .ref h6), (1, .int x1)]) hx hb dX6_readsNews_90 hl (k := 3) rfl rfl (by decide) rfl (fun ls hl => ?_)
          refine lv_goto (tgt := 37) hx hb dX6_readsNews_93 (by decide) ?_
          exact ih h hP hD hS (lv_sub hl [2, 3, 1, 0] rfl) hk96
        · have h := h.1 c_16
          refine lv_iconst (v := 0) hx hb dX6_readsNews_61 (by decide) ?_
          exact hret (0 : Int32) (md, mb, ma) _ _ _ ls (by decide) h hP hD hS dX6_readsNews_62
  refine lv_aload_n hx hb dX6_readsNews_0 rfl (lv_at hl 0 rfl) ?_
  refine lv_iconst (v := 0) hx hb dX6_readsNews_1 (by decide) ?_
  refine lv_aload_n hx hb dX6_readsNews_2 rfl (lv_at hl 0 rfl) ?_
  refine va_get (D := D) (ci := 6) (v := .ref a_md) (C := RX6) (T := TX6) (N := 17) hx hb hts hin6 hown hK.1 hP 0 rfl rfl 3 (by decide) (k_0) (fun _ h9 => h9) rfl dX6_readsNews_3 ?_
  refine lv_iconst (v := 0) hx hb dX6_readsNews_6 (by decide) ?_
  refine z_iald (k := 0) hx hb hK.1 hP 3 rfl (by decide) vi_0_16 dX6_readsNews_7 ?_
  refine lv_iconst (v := 1) hx hb dX6_readsNews_8 (by decide) ?_
  refine lv_isub hx hb dX6_readsNews_9 ?_
  refine lv_bipush (v := 44) hx hb dX6_readsNews_10 (by decide) ?_
  refine k0V_i (As := [.int (0 : Int32), .int ((md 0) - (1 : Int32)), .int (44 : Int32)]) (n := 3) ⟨hx, hb, hml, hown, hts⟩ hK hP hD hS hA (c_X6_number l D cI cC cQ h6 a_mt a_mo a_md a_mb a_ms a_mp a_mi a_mn a_mh a_mg a_mr a_mx mt my mo md mb ms mp mk mi mq mn mz ma mh mg mr mx (0 : Int32) ((md 0) - (1 : Int32)) (44 : Int32) _ h) gX6_readsNews_X6_number rfl rfl ⟨rfl, rfl⟩ yoX6_number ⟨Nat.le_of_ble_eq_true rfl, Nat.le_of_ble_eq_true rfl⟩ (q0 := 0) (ci := 6) rfl rfl rfl rfl hl.1 rfl (Nat.le_of_ble_eq_true rfl) dX6_readsNews_12 ⟨Nat.zero_le _, Nat.zero_le _⟩ (fun r_1 ma_2 H locs h hP hD hS => ?_)
  have hP : va_P D vwCl [(h6, .inr (6, [.ref a_mt, .int my, .ref a_mo, .ref a_md, .ref a_mb, .ref a_ms, .ref a_mp, .int mk, .ref a_mi, .int mq, .ref a_mn, .int mz, .int ma_2, .ref a_mh, .ref a_mg, .ref a_mr, .ref a_mx])), (a_mt, .inl (cI, 200, .inl mt)), (a_mo, .inl (cI, 16, .inl mo)), (a_md, .inl (cI, 16, .inl md)), (a_mb, .inl (cI, 56, .inl mb)), (a_ms, .inl (cI, 56, .inl ms)), (a_mp, .inl (cI, 448, .inl mp)), (a_mi, .inl (cI, 112, .inl mi)), (a_mn, .inl (cI, 12, .inl mn)), (a_mh, .inl (cI, 42, .inl mh)), (a_mg, .inl (cI, 56, .inl mg)), (a_mr, .inl (cI, 6, .inl mr)), (a_mx, .inl (cI, 6, .inl mx))] H := hP
  have hD : va_D A [(h6, .inr (6, [.ref a_mt, .int my, .ref a_mo, .ref a_md, .ref a_mb, .ref a_ms, .ref a_mp, .int mk, .ref a_mi, .int mq, .ref a_mn, .int mz, .int ma_2, .ref a_mh, .ref a_mg, .ref a_mr, .ref a_mx])), (a_mt, .inl (cI, 200, .inl mt)), (a_mo, .inl (cI, 16, .inl mo)), (a_md, .inl (cI, 16, .inl md)), (a_mb, .inl (cI, 56, .inl mb)), (a_ms, .inl (cI, 56, .inl ms)), (a_mp, .inl (cI, 448, .inl mp)), (a_mi, .inl (cI, 112, .inl mi)), (a_mn, .inl (cI, 12, .inl mn)), (a_mh, .inl (cI, 42, .inl mh)), (a_mg, .inl (cI, 56, .inl mg)), (a_mr, .inl (cI, 6, .inl mr)), (a_mx, .inl (cI, 6, .inl mx))] := hD
  refine lv_istore_n (lv' := [(1, .int r_1), (0, .ref h6)]) hx hb dX6_readsNews_15 rfl hl (by decide) rfl (fun ls hl => ?_)
  refine lv_iload_n hx hb dX6_readsNews_16 rfl (lv_at hl 0 rfl) ?_
  refine lv_if_lt (tgt := 31) hx hb dX6_readsNews_17 (by decide) (fun c_3 => ?_) (fun c_3 => ?_)
  · have h := h.1 c_3
    refine lv_iconst (v := 0) hx hb dX6_readsNews_31 (by decide) ?_
    exact hret (0 : Int32) (md, mb, ma_2) _ _ _ ls (by decide) h hP hD hS dX6_readsNews_32
  · have h := h.2 c_3
    refine lv_aload_n hx hb dX6_readsNews_20 rfl (lv_at hl 1 rfl) ?_
    refine va_get (D := D) (ci := 6) (v := .ref a_md) (C := RX6) (T := TX6) (N := 17) hx hb hts hin6 hown hK.1 hP 0 rfl rfl 3 (by decide) (k_0) (fun _ h9 => h9) rfl dX6_readsNews_21 ?_
    refine lv_iconst (v := 1) hx hb dX6_readsNews_24 (by decide) ?_
    refine z_iald (k := 1) hx hb hK.1 hP 3 rfl (by decide) vi_1_16 dX6_readsNews_25 ?_
    refine lv_bipush (v := 6) hx hb dX6_readsNews_26 (by decide) ?_
    refine lv_icmp_ne (tgt := 33) hx hb dX6_readsNews_28 (by decide) (fun c_4 => ?_) (fun c_4 => ?_)
    · have h := h.2 c_4
      refine lv_iconst (v := 0) hx hb dX6_readsNews_33 (by decide) ?_
      refine lv_istore_n (lv' := [(2, .int (0 : Int32)), (1, .int r_1), (0, .ref h6)]) hx hb dX6_readsNews_34 rfl hl (by decide) rfl (fun ls hl => ?_)
      refine lv_iconst (v := 0) hx hb dX6_readsNews_35 (by decide) ?_
      refine lv_istore_n (lv' := [(3, .int (0 : Int32)), (2, .int (0 : Int32)), (1, .int r_1), (0, .ref h6)]) hx hb dX6_readsNews_36 rfl hl (by decide) rfl (fun ls hl => ?_)
      obtain ⟨n_25, h⟩ := h
      refine L37 n_25 h hP hD hS (lv_sub hl [3, 2, 1, 0] rfl) (fun x2_19 ma_20 H locs ls h hP hD hS hl => ?_)
      refine lv_aload_n hx hb dX6_readsNews_96 rfl (lv_at hl 0 rfl) ?_
      refine lv_aload_n hx hb dX6_readsNews_97 rfl (lv_at hl 0 rfl) ?_
      refine va_get (D := D) (ci := 6) (v := .int ma_20) (C := RX6) (T := TX6) (N := 17) hx hb hts hin6 hown hK.1 hP 0 rfl rfl 12 (by decide) (k_1) (fun _ h9 => h9) rfl dX6_readsNews_98 ?_
      refine k0V_i (As := [.int ma_20]) (n := 1) ⟨hx, hb, hml, hown, hts⟩ hK hP hD hS hA (c_X6_letterAt l D cI cC cQ h6 a_mt a_mo a_md a_mb a_ms a_mp a_mi a_mn a_mh a_mg a_mr a_mx mt my mo md mb ms mp mk mi mq mn mz ma_20 mh mg mr mx ma_20 _ h) gX6_readsNews_X6_letterAt rfl rfl ⟨rfl, rfl⟩ yoX6_letterAt ⟨Nat.le_of_ble_eq_true rfl, Nat.le_of_ble_eq_true rfl⟩ (q0 := 0) (ci := 6) rfl rfl rfl rfl hl.1 rfl (Nat.le_of_ble_eq_true rfl) dX6_readsNews_101 ⟨Nat.zero_le _, Nat.zero_le _⟩ (fun r_21 u H locs h hP hD hS => ?_)
      refine lv_bipush (v := 59) hx hb dX6_readsNews_104 (by decide) ?_
      refine lv_icmp_eq (tgt := 111) hx hb dX6_readsNews_106 (by decide) (fun c_22 => ?_) (fun c_22 => ?_)
      · have h := h.1 c_22
        refine lv_aload_n hx hb dX6_readsNews_111 rfl (lv_at hl 0 rfl) ?_
        refine lv_dup hx hb dX6_readsNews_112 rfl ?_
        refine va_get (D := D) (ci := 6) (v := .int ma_20) (C := RX6) (T := TX6) (N := 17) hx hb hts hin6 hown hK.1 hP 0 rfl rfl 12 (by decide) (k_1) (fun _ h9 => h9) rfl dX6_readsNews_113 ?_
        refine lv_iconst (v := 1) hx hb dX6_readsNews_116 (by decide) ?_
        refine lv_iadd hx hb dX6_readsNews_117 ?_
        refine va_put (D := D) (ci := 6) (v := .int (ma_20 + (1 : Int32))) (ty := .int) (C := RX6) (T := TX6) (N := 17) hx hb hts hin6 tyX6 tyX6_ok nmX6 hown hK.1 hP hD hS 0 rfl rfl 12 (by decide) (k_1) (fun _ h9 => h9) rfl (by decide +kernel) rfl rfl (Nat.le_of_ble_eq_true rfl) dX6_readsNews_118 (fun H locs hP hD hS => ?_)
        have hP : va_P D vwCl [(h6, .inr (6, [.ref a_mt, .int my, .ref a_mo, .ref a_md, .ref a_mb, .ref a_ms, .ref a_mp, .int mk, .ref a_mi, .int mq, .ref a_mn, .int mz, .int (ma_20 + (1 : Int32)), .ref a_mh, .ref a_mg, .ref a_mr, .ref a_mx])), (a_mt, .inl (cI, 200, .inl mt)), (a_mo, .inl (cI, 16, .inl mo)), (a_md, .inl (cI, 16, .inl md)), (a_mb, .inl (cI, 56, .inl mb)), (a_ms, .inl (cI, 56, .inl ms)), (a_mp, .inl (cI, 448, .inl mp)), (a_mi, .inl (cI, 112, .inl mi)), (a_mn, .inl (cI, 12, .inl mn)), (a_mh, .inl (cI, 42, .inl mh)), (a_mg, .inl (cI, 56, .inl mg)), (a_mr, .inl (cI, 6, .inl mr)), (a_mx, .inl (cI, 6, .inl mx))] H := hP
        have hD : va_D A [(h6, .inr (6, [.ref a_mt, .int my, .ref a_mo, .ref a_md, .ref a_mb, .ref a_ms, .ref a_mp, .int mk, .ref a_mi, .int mq, .ref a_mn, .int mz, .int (ma_20 + (1 : Int32)), .ref a_mh, .ref a_mg, .ref a_mr, .ref a_mx])), (a_mt, .inl (cI, 200, .inl mt)), (a_mo, .inl (cI, 16, .inl mo)), (a_md, .inl (cI, 16, .inl md)), (a_mb, .inl (cI, 56, .inl mb)), (a_ms, .inl (cI, 56, .inl ms)), (a_mp, .inl (cI, 448, .inl mp)), (a_mi, .inl (cI, 112, .inl mi)), (a_mn, .inl (cI, 12, .inl mn)), (a_mh, .inl (cI, 42, .inl mh)), (a_mg, .inl (cI, 56, .inl mg)), (a_mr, .inl (cI, 6, .inl mr)), (a_mx, .inl (cI, 6, .inl mx))] := hD
        refine lv_aload_n hx hb dX6_readsNews_121 rfl (lv_at hl 0 rfl) ?_
        refine lv_iload_n hx hb dX6_readsNews_122 rfl (lv_at hl 1 rfl) ?_
        refine lv_iload_n hx hb dX6_readsNews_123 rfl (lv_at hl 2 rfl) ?_
        refine k0V_v (As := [.int r_1, .int x2_19]) (n := 2) ⟨hx, hb, hml, hown, hts⟩ hK hP hD hS hA (c_X6_isTold l D cI cC cQ h6 a_mt a_mo a_md a_mb a_ms a_mp a_mi a_mn a_mh a_mg a_mr a_mx mt my mo md mb ms mp mk mi mq mn mz (ma_20 + (1 : Int32)) mh mg mr mx r_1 x2_19 _ h) gX6_readsNews_X6_isTold rfl rfl ⟨rfl, rfl⟩ yoX6_isTold ⟨Nat.le_of_ble_eq_true rfl, Nat.le_of_ble_eq_true rfl⟩ (q0 := 0) (ci := 6) rfl rfl rfl rfl hl.1 rfl (Nat.le_of_ble_eq_true rfl) dX6_readsNews_124 ⟨Nat.zero_le _, Nat.zero_le _⟩ (fun u H locs h hP hD hS => ?_)
        obtain ⟨md_23, mb_24⟩ := u
        have hP : va_P D vwCl [(h6, .inr (6, [.ref a_mt, .int my, .ref a_mo, .ref a_md, .ref a_mb, .ref a_ms, .ref a_mp, .int mk, .ref a_mi, .int mq, .ref a_mn, .int mz, .int (ma_20 + (1 : Int32)), .ref a_mh, .ref a_mg, .ref a_mr, .ref a_mx])), (a_mt, .inl (cI, 200, .inl mt)), (a_mo, .inl (cI, 16, .inl mo)), (a_md, .inl (cI, 16, .inl md_23)), (a_mb, .inl (cI, 56, .inl mb_24)), (a_ms, .inl (cI, 56, .inl ms)), (a_mp, .inl (cI, 448, .inl mp)), (a_mi, .inl (cI, 112, .inl mi)), (a_mn, .inl (cI, 12, .inl mn)), (a_mh, .inl (cI, 42, .inl mh)), (a_mg, .inl (cI, 56, .inl mg)), (a_mr, .inl (cI, 6, .inl mr)), (a_mx, .inl (cI, 6, .inl mx))] H := hP
        have hD : va_D A [(h6, .inr (6, [.ref a_mt, .int my, .ref a_mo, .ref a_md, .ref a_mb, .ref a_ms, .ref a_mp, .int mk, .ref a_mi, .int mq, .ref a_mn, .int mz, .int (ma_20 + (1 : Int32)), .ref a_mh, .ref a_mg, .ref a_mr, .ref a_mx])), (a_mt, .inl (cI, 200, .inl mt)), (a_mo, .inl (cI, 16, .inl mo)), (a_md, .inl (cI, 16, .inl md_23)), (a_mb, .inl (cI, 56, .inl mb_24)), (a_ms, .inl (cI, 56, .inl ms)), (a_mp, .inl (cI, 448, .inl mp)), (a_mi, .inl (cI, 112, .inl mi)), (a_mn, .inl (cI, 12, .inl mn)), (a_mh, .inl (cI, 42, .inl mh)), (a_mg, .inl (cI, 56, .inl mg)), (a_mr, .inl (cI, 6, .inl mr)), (a_mx, .inl (cI, 6, .inl mx))] := hD
        refine lv_iconst (v := 1) hx hb dX6_readsNews_127 (by decide) ?_
        exact hret (1 : Int32) (md_23, mb_24, (ma_20 + (1 : Int32))) _ _ _ ls (by decide) h hP hD hS dX6_readsNews_128
      · have h := h.2 c_22
        refine lv_iconst (v := 0) hx hb dX6_readsNews_109 (by decide) ?_
        exact hret (0 : Int32) (md, mb, ma_20) _ _ _ ls (by decide) h hP hD hS dX6_readsNews_110
    · have h := h.1 c_4
      refine lv_iconst (v := 0) hx hb dX6_readsNews_31 (by decide) ?_
      exact hret (0 : Int32) (md, mb, ma_2) _ _ _ ls (by decide) h hP hD hS dX6_readsNews_32

/-! DoubtCourtModel.readsAll -/
abbrev rmX6_readsAll : Room := { frames := 4, cells := 0, slots := 0, locals := 90 }
theorem yoX6_readsAll : yX6_readsAll.cls ≠ "java/lang/invoke/MethodHandle" ∧ yX6_readsAll.cls ≠ "java/lang/invoke/VarHandle" ∧ (parseMethodDescriptor yX6_readsAll.desc).map (fun d => d.parameters.length) = some 0 := by decide +kernel
set_option maxHeartbeats 4000000 in
set_option maxRecDepth 100000 in
theorem c_X6_readsAll (l : Launch) (D : va_G) (cI cC cQ : ClassId) (h6 : Nat) (a_mt : Nat) (a_mo : Nat) (a_md : Nat) (a_mb : Nat) (a_ms : Nat) (a_mp : Nat) (a_mi : Nat) (a_mn : Nat) (a_mh : Nat) (a_mg : Nat) (a_mr : Nat) (a_mx : Nat) (mt : Nat → Int32) (my : Int32) (mo : Nat → Int32) (md : Nat → Int32) (mb : Nat → Int32) (ms : Nat → Int32) (mp : Nat → Int32) (mk : Int32) (mi : Nat → Int32) (mq : Int32) (mn : Nat → Int32) (mz : Int32) (ma : Int32) (mh : Nat → Int32) (mg : Nat → Int32) (mr : Nat → Int32) (mx : Nat → Int32) (Q : Int32 → (Nat → Int32) → (Nat → Int32) → Int32 → Prop) (h : wX6_readsAll mt my md mb Q) : Ci (S := (Nat → Int32) × (Nat → Int32) × (Int32)) l D cI cC cQ yX6_readsAll wsX6_readsAll rmX6_readsAll [.ref h6] [(h6, .inr (6, [.ref a_mt, .int my, .ref a_mo, .ref a_md, .ref a_mb, .ref a_ms, .ref a_mp, .int mk, .ref a_mi, .int mq, .ref a_mn, .int mz, .int ma, .ref a_mh, .ref a_mg, .ref a_mr, .ref a_mx])), (a_mt, .inl (cI, 200, .inl mt)), (a_mo, .inl (cI, 16, .inl mo)), (a_md, .inl (cI, 16, .inl md)), (a_mb, .inl (cI, 56, .inl mb)), (a_ms, .inl (cI, 56, .inl ms)), (a_mp, .inl (cI, 448, .inl mp)), (a_mi, .inl (cI, 112, .inl mi)), (a_mn, .inl (cI, 12, .inl mn)), (a_mh, .inl (cI, 42, .inl mh)), (a_mg, .inl (cI, 56, .inl mg)), (a_mr, .inl (cI, 6, .inl mr)), (a_mx, .inl (cI, 6, .inl mx))] (fun u => [(h6, .inr (6, [.ref a_mt, .int my, .ref a_mo, .ref a_md, .ref a_mb, .ref a_ms, .ref a_mp, .int mk, .ref a_mi, .int mq, .ref a_mn, .int mz, .int u.2.2, .ref a_mh, .ref a_mg, .ref a_mr, .ref a_mx])), (a_mt, .inl (cI, 200, .inl mt)), (a_mo, .inl (cI, 16, .inl mo)), (a_md, .inl (cI, 16, .inl u.1)), (a_mb, .inl (cI, 56, .inl u.2.1)), (a_ms, .inl (cI, 56, .inl ms)), (a_mp, .inl (cI, 448, .inl mp)), (a_mi, .inl (cI, 112, .inl mi)), (a_mn, .inl (cI, 12, .inl mn)), (a_mh, .inl (cI, 42, .inl mh)), (a_mg, .inl (cI, 56, .inl mg)), (a_mr, .inl (cI, 6, .inl mr)), (a_mx, .inl (cI, 6, .inl mx))]) (fun r u => Q r u.1 u.2.1 u.2.2) := by
  refine Ci_mk (cc := cX6_readsAll) (maxL := 4) (by decide) rfl (Nat.le_of_ble_eq_true rfl) ?_
  intro p e s m args below meth c A Z ls hx hb hml hown hts hK hA hP hD hret hl
  have hS : va_S A s.heap s.heap [] := va_S.rf
  have hin6 : ∀ w ∈ u_ws RX6 TX6 17, w ∈ wsX6_readsAll := by decide +kernel
  have k_0 := hts (.fieldLink RX6 71 "DoubtCourtModel" "at" "I") (by decide +kernel)
  have k_1 := hts (.fieldLink RX6 67 "DoubtCourtModel" "typed" "I") (by decide +kernel)
  have k_2 := hts (.fieldLink RX6 7 "DoubtCourtModel" "text" "[I") (by decide +kernel)
  have hl : lv_has ls 4 [(0, .ref h6)] := hl
  have L9 : ∀ (n : Nat) {md : Nat → Int32} {mb : Nat → Int32} {ma : Int32} {H : Heap} {locs : List Loc} {ls : Array Slot}, wX6_readsAll_L9 mt my Q n md mb ma → va_P D vwCl [(h6, .inr (6, [.ref a_mt, .int my, .ref a_mo, .ref a_md, .ref a_mb, .ref a_ms, .ref a_mp, .int mk, .ref a_mi, .int mq, .ref a_mn, .int mz, .int ma, .ref a_mh, .ref a_mg, .ref a_mr, .ref a_mx])), (a_mt, .inl (cI, 200, .inl mt)), (a_mo, .inl (cI, 16, .inl mo)), (a_md, .inl (cI, 16, .inl md)), (a_mb, .inl (cI, 56, .inl mb)), (a_ms, .inl (cI, 56, .inl ms)), (a_mp, .inl (cI, 448, .inl mp)), (a_mi, .inl (cI, 112, .inl mi)), (a_mn, .inl (cI, 12, .inl mn)), (a_mh, .inl (cI, 42, .inl mh)), (a_mg, .inl (cI, 56, .inl mg)), (a_mr, .inl (cI, 6, .inl mr)), (a_mx, .inl (cI, 6, .inl mx))] H → va_D A [(h6, .inr (6, [.ref a_mt, .int my, .ref a_mo, .ref a_md, .ref a_mb, .ref a_ms, .ref a_mp, .int mk, .ref a_mi, .int mq, .ref a_mn, .int mz, .int ma, .ref a_mh, .ref a_mg, .ref a_mr, .ref a_mx])), (a_mt, .inl (cI, 200, .inl mt)), (a_mo, .inl (cI, 16, .inl mo)), (a_md, .inl (cI, 16, .inl md)), (a_mb, .inl (cI, 56, .inl mb)), (a_ms, .inl (cI, 56, .inl ms)), (a_mp, .inl (cI, 448, .inl mp)), (a_mi, .inl (cI, 112, .inl mi)), (a_mn, .inl (cI, 12, .inl mn)), (a_mh, .inl (cI, 42, .inl mh)), (a_mg, .inl (cI, 56, .inl mg)), (a_mr, .inl (cI, 6, .inl mr)), (a_mx, .inl (cI, 6, .inl mx))] → va_S A s.heap H locs → lv_has ls 4 [(0, .ref h6)] → W p l e rmX6_readsAll s m args below meth c H locs 0 0 Z (F0 m 9 ls []) := by
    intro n
    induction n with
    | zero =>
      intro md mb ma H locs ls h hP hD hS hl
      exact (show False from h).elim
    | succ n ih =>
      intro md mb ma H locs ls h hP hD hS hl
      refine lv_aload_n hx hb dX6_readsAll_9 rfl (lv_at hl 0 rfl) ?_
      refine va_get (D := D) (ci := 6) (v := .int ma) (C := RX6) (T := TX6) (N := 17) hx hb hts hin6 hown hK.1 hP 0 rfl rfl 12 (by decide) (k_0) (fun _ h9 => h9) rfl dX6_readsAll_10 ?_
      refine lv_aload_n hx hb dX6_readsAll_13 rfl (lv_at hl 0 rfl) ?_
      refine va_get (D := D) (ci := 6) (v := .int my) (C := RX6) (T := TX6) (N := 17) hx hb hts hin6 hown hK.1 hP 0 rfl rfl 1 (by decide) (k_1) (fun _ h9 => h9) rfl dX6_readsAll_14 ?_
      refine lv_icmp_ge (tgt := 83) hx hb dX6_readsAll_17 (by decide) (fun c_19 => ?_) (fun c_19 => ?_)
      · have h := h.1 c_19
        refine lv_bipush (v := -4) hx hb dX6_readsAll_83 (by decide) ?_
        exact hret (-4 : Int32) (md, mb, ma) _ _ _ ls h hP hD hS dX6_readsAll_85
      · have h := h.2 c_19
        refine lv_aload_n hx hb dX6_readsAll_20 rfl (lv_at hl 0 rfl) ?_
        refine va_get (D := D) (ci := 6) (v := .int ma) (C := RX6) (T := TX6) (N := 17) hx hb hts hin6 hown hK.1 hP 0 rfl rfl 12 (by decide) (k_0) (fun _ h9 => h9) rfl dX6_readsAll_21 ?_
        refine lv_istore_n (lv' := [(1, .int ma), (0, .ref h6)]) hx hb dX6_readsAll_24 rfl hl (by decide) rfl (fun ls hl => ?_)
        refine lv_aload_n hx hb dX6_readsAll_25 rfl (lv_at hl 1 rfl) ?_
        refine va_get (D := D) (ci := 6) (v := .ref a_mt) (C := RX6) (T := TX6) (N := 17) hx hb hts hin6 hown hK.1 hP 0 rfl rfl 0 (by decide) (k_2) (fun _ h9 => h9) rfl dX6_readsAll_26 ?_
        refine lv_iload_n hx hb dX6_readsAll_29 rfl (lv_at hl 0 rfl) ?_
        refine z_iald (k := ma.toNatClampNeg) hx hb hK.1 hP 1 rfl rfl h.1 dX6_readsAll_30 ?_
        have h := h.2
        refine lv_topi (fun v_20 ev_20 => ?_)
        have h := h v_20 ev_20
        refine lv_istore_n (lv' := [(2, .int v_20), (1, .int ma), (0, .ref h6)]) hx hb dX6_readsAll_31 rfl hl (by decide) rfl (fun ls hl => ?_)
        refine lv_aload_n hx hb dX6_readsAll_32 rfl (lv_at hl 2 rfl) ?_
        refine lv_dup hx hb dX6_readsAll_33 rfl ?_
        refine va_get (D := D) (ci := 6) (v := .int ma) (C := RX6) (T := TX6) (N := 17) hx hb hts hin6 hown hK.1 hP 0 rfl rfl 12 (by decide) (k_0) (fun _ h9 => h9) rfl dX6_readsAll_34 ?_
        refine lv_iconst (v := 1) hx hb dX6_readsAll_37 (by decide) ?_
        refine lv_iadd hx hb dX6_readsAll_38 ?_
        refine va_put (D := D) (ci := 6) (v := .int (ma + (1 : Int32))) (ty := .int) (C := RX6) (T := TX6) (N := 17) hx hb hts hin6 tyX6 tyX6_ok nmX6 hown hK.1 hP hD hS 0 rfl rfl 12 (by decide) (k_0) (fun _ h9 => h9) rfl (by decide +kernel) rfl rfl (Nat.le_of_ble_eq_true rfl) dX6_readsAll_39 (fun H locs hP hD hS => ?_)
        have hP : va_P D vwCl [(h6, .inr (6, [.ref a_mt, .int my, .ref a_mo, .ref a_md, .ref a_mb, .ref a_ms, .ref a_mp, .int mk, .ref a_mi, .int mq, .ref a_mn, .int mz, .int (ma + (1 : Int32)), .ref a_mh, .ref a_mg, .ref a_mr, .ref a_mx])), (a_mt, .inl (cI, 200, .inl mt)), (a_mo, .inl (cI, 16, .inl mo)), (a_md, .inl (cI, 16, .inl md)), (a_mb, .inl (cI, 56, .inl mb)), (a_ms, .inl (cI, 56, .inl ms)), (a_mp, .inl (cI, 448, .inl mp)), (a_mi, .inl (cI, 112, .inl mi)), (a_mn, .inl (cI, 12, .inl mn)), (a_mh, .inl (cI, 42, .inl mh)), (a_mg, .inl (cI, 56, .inl mg)), (a_mr, .inl (cI, 6, .inl mr)), (a_mx, .inl (cI, 6, .inl mx))] H := hP
        have hD : va_D A [(h6, .inr (6, [.ref a_mt, .int my, .ref a_mo, .ref a_md, .ref a_mb, .ref a_ms, .ref a_mp, .int mk, .ref a_mi, .int mq, .ref a_mn, .int mz, .int (ma + (1 : Int32)), .ref a_mh, .ref a_mg, .ref a_mr, .ref a_mx])), (a_mt, .inl (cI, 200, .inl mt)), (a_mo, .inl (cI, 16, .inl mo)), (a_md, .inl (cI, 16, .inl md)), (a_mb, .inl (cI, 56, .inl mb)), (a_ms, .inl (cI, 56, .inl ms)), (a_mp, .inl (cI, 448, .inl mp)), (a_mi, .inl (cI, 112, .inl mi)), (a_mn, .inl (cI, 12, .inl mn)), (a_mh, .inl (cI, 42, .inl mh)), (a_mg, .inl (cI, 56, .inl mg)), (a_mr, .inl (cI, 6, .inl mr)), (a_mx, .inl (cI, 6, .inl mx))] := hD
        refine lv_iload_n hx hb dX6_readsAll_42 rfl (lv_at hl 0 rfl) ?_
        refine lv_bipush (v := 99) hx hb dX6_readsAll_43 (by decide) ?_
        refine lv_icmp_ne (tgt := 55) hx hb dX6_readsAll_45 (by decide) (fun c_21 => ?_) (fun c_21 => ?_)
        · have h := h.2 c_21
          refine lv_iload_n hx hb dX6_readsAll_55 rfl (lv_at hl 0 rfl) ?_
          refine lv_bipush (v := 110) hx hb dX6_readsAll_56 (by decide) ?_
          refine lv_icmp_ne (tgt := 72) hx hb dX6_readsAll_58 (by decide) (fun c_22 => ?_) (fun c_22 => ?_)
          · have h := h.2 c_22
            refine lv_iconst (v := 0) hx hb dX6_readsAll_72 (by decide) ?_
            refine lv_istore_n (lv' := [(3, .int (0 : Int32)), (2, .int v_20), (1, .int ma), (0, .ref h6)]) hx hb dX6_readsAll_73 rfl hl (by decide) rfl (fun ls hl => ?_)
            refine lv_iload_n hx hb dX6_readsAll_74 rfl (lv_at hl 0 rfl) ?_
            refine lv_if_ne (tgt := 80) hx hb dX6_readsAll_75 (by decide) (fun c_ => absurd c_ (by decide)) (fun _ => ?_)
            refine lv_iload_n hx hb dX6_readsAll_78 rfl (lv_at hl 2 rfl) ?_
            exact hret ma (md, mb, (ma + (1 : Int32))) _ _ _ ls h hP hD hS dX6_readsAll_79
          · have h := h.1 c_22
            refine lv_aload_n hx hb dX6_readsAll_61 rfl (lv_at hl 2 rfl) ?_
            refine k0V_i (As := []) (n := 0) ⟨hx, hb, hml, hown, hts⟩ hK hP hD hS hA (c_X6_readsNews l D cI cC cQ h6 a_mt a_mo a_md a_mb a_ms a_mp a_mi a_mn a_mh a_mg a_mr a_mx mt my mo md mb ms mp mk mi mq mn mz (ma + (1 : Int32)) mh mg mr mx  _ h) gX6_readsAll_X6_readsNews rfl rfl ⟨rfl, rfl⟩ yoX6_readsNews ⟨Nat.le_of_ble_eq_true rfl, Nat.le_of_ble_eq_true rfl⟩ (q0 := 0) (ci := 6) rfl rfl rfl rfl hl.1 rfl (Nat.le_of_ble_eq_true rfl) dX6_readsAll_62 ⟨Nat.zero_le _, Nat.zero_le _⟩ (fun r_23 u H locs h hP hD hS => ?_)
            obtain ⟨md_24, mb_25, ma_26⟩ := u
            have hP : va_P D vwCl [(h6, .inr (6, [.ref a_mt, .int my, .ref a_mo, .ref a_md, .ref a_mb, .ref a_ms, .ref a_mp, .int mk, .ref a_mi, .int mq, .ref a_mn, .int mz, .int ma_26, .ref a_mh, .ref a_mg, .ref a_mr, .ref a_mx])), (a_mt, .inl (cI, 200, .inl mt)), (a_mo, .inl (cI, 16, .inl mo)), (a_md, .inl (cI, 16, .inl md_24)), (a_mb, .inl (cI, 56, .inl mb_25)), (a_ms, .inl (cI, 56, .inl ms)), (a_mp, .inl (cI, 448, .inl mp)), (a_mi, .inl (cI, 112, .inl mi)), (a_mn, .inl (cI, 12, .inl mn)), (a_mh, .inl (cI, 42, .inl mh)), (a_mg, .inl (cI, 56, .inl mg)), (a_mr, .inl (cI, 6, .inl mr)), (a_mx, .inl (cI, 6, .inl mx))] H := hP
            have hD : va_D A [(h6, .inr (6, [.ref a_mt, .int my, .ref a_mo, .ref a_md, .ref a_mb, .ref a_ms, .ref a_mp, .int mk, .ref a_mi, .int mq, .ref a_mn, .int mz, .int ma_26, .ref a_mh, .ref a_mg, .ref a_mr, .ref a_mx])), (a_mt, .inl (cI, 200, .inl mt)), (a_mo, .inl (cI, 16, .inl mo)), (a_md, .inl (cI, 16, .inl md_24)), (a_mb, .inl (cI, 56, .inl mb_25)), (a_ms, .inl (cI, 56, .inl ms)), (a_mp, .inl (cI, 448, .inl mp)), (a_mi, .inl (cI, 112, .inl mi)), (a_mn, .inl (cI, 12, .inl mn)), (a_mh, .inl (cI, 42, .inl mh)), (a_mg, .inl (cI, 56, .inl mg)), (a_mr, .inl (cI, 6, .inl mr)), (a_mx, .inl (cI, 6, .inl mx))] := hD
            obtain ⟨b_27, h⟩ := h
            refine lv_if_eq (tgt := 72) hx hb dX6_readsAll_65 (by decide) (fun c_28 => ?_) (fun c_28 => ?_)
            · have h := h.1 c_28
              refine lv_iconst (v := 0) hx hb dX6_readsAll_72 (by decide) ?_
              refine lv_istore_n (lv' := [(3, .int (0 : Int32)), (2, .int v_20), (1, .int ma), (0, .ref h6)]) hx hb dX6_readsAll_73 rfl hl (by decide) rfl (fun ls hl => ?_)
              refine lv_iload_n hx hb dX6_readsAll_74 rfl (lv_at hl 0 rfl) ?_
              refine lv_if_ne (tgt := 80) hx hb dX6_readsAll_75 (by decide) (fun c_ => absurd c_ (by decide)) (fun _ => ?_)
              refine lv_iload_n hx hb dX6_readsAll_78 rfl (lv_at hl 2 rfl) ?_
              exact hret ma (md_24, mb_25, ma_26) _ _ _ ls h hP hD hS dX6_readsAll_79
            · have h := h.2 c_28
              refine lv_iconst (v := 1) hx hb dX6_readsAll_68 (by decide) ?_
              refine lv_goto (tgt := 73) hx hb dX6_readsAll_69 (by decide) ?_
              refine lv_istore_n (lv' := [(3, .int (1 : Int32)), (2, .int v_20), (1, .int ma), (0, .ref h6)]) hx hb dX6_readsAll_73 rfl hl (by decide) rfl (fun ls hl => ?_)
              refine lv_iload_n hx hb dX6_readsAll_74 rfl (lv_at hl 0 rfl) ?_
              refine lv_if_ne (tgt := 80) hx hb dX6_readsAll_75 (by decide) (fun _ => ?_) (fun c_ => absurd c_ (by decide))
              refine lv_goto (tgt := 9) hx hb dX6_readsAll_80 (by decide) ?_
              exact ih h hP hD hS (lv_sub hl [3] rfl)
        · have h := h.1 c_21
          refine lv_aload_n hx hb dX6_readsAll_48 rfl (lv_at hl 2 rfl) ?_
          refine k0V_i (As := []) (n := 0) ⟨hx, hb, hml, hown, hts⟩ hK hP hD hS hA (c_X6_readsCourtier l D cI cC cQ h6 a_mt a_mo a_md a_mb a_ms a_mp a_mi a_mn a_mh a_mg a_mr a_mx mt my mo md mb ms mp mk mi mq mn mz (ma + (1 : Int32)) mh mg mr mx  _ h) gX6_readsAll_X6_readsCourtier rfl rfl ⟨rfl, rfl⟩ yoX6_readsCourtier ⟨Nat.le_of_ble_eq_true rfl, Nat.le_of_ble_eq_true rfl⟩ (q0 := 0) (ci := 6) rfl rfl rfl rfl hl.1 rfl (Nat.le_of_ble_eq_true rfl) dX6_readsAll_49 ⟨Nat.zero_le _, Nat.zero_le _⟩ (fun r_29 u H locs h hP hD hS => ?_)
          obtain ⟨md_30, mb_31, ma_32⟩ := u
          have hP : va_P D vwCl [(h6, .inr (6, [.ref a_mt, .int my, .ref a_mo, .ref a_md, .ref a_mb, .ref a_ms, .ref a_mp, .int mk, .ref a_mi, .int mq, .ref a_mn, .int mz, .int ma_32, .ref a_mh, .ref a_mg, .ref a_mr, .ref a_mx])), (a_mt, .inl (cI, 200, .inl mt)), (a_mo, .inl (cI, 16, .inl mo)), (a_md, .inl (cI, 16, .inl md_30)), (a_mb, .inl (cI, 56, .inl mb_31)), (a_ms, .inl (cI, 56, .inl ms)), (a_mp, .inl (cI, 448, .inl mp)), (a_mi, .inl (cI, 112, .inl mi)), (a_mn, .inl (cI, 12, .inl mn)), (a_mh, .inl (cI, 42, .inl mh)), (a_mg, .inl (cI, 56, .inl mg)), (a_mr, .inl (cI, 6, .inl mr)), (a_mx, .inl (cI, 6, .inl mx))] H := hP
          have hD : va_D A [(h6, .inr (6, [.ref a_mt, .int my, .ref a_mo, .ref a_md, .ref a_mb, .ref a_ms, .ref a_mp, .int mk, .ref a_mi, .int mq, .ref a_mn, .int mz, .int ma_32, .ref a_mh, .ref a_mg, .ref a_mr, .ref a_mx])), (a_mt, .inl (cI, 200, .inl mt)), (a_mo, .inl (cI, 16, .inl mo)), (a_md, .inl (cI, 16, .inl md_30)), (a_mb, .inl (cI, 56, .inl mb_31)), (a_ms, .inl (cI, 56, .inl ms)), (a_mp, .inl (cI, 448, .inl mp)), (a_mi, .inl (cI, 112, .inl mi)), (a_mn, .inl (cI, 12, .inl mn)), (a_mh, .inl (cI, 42, .inl mh)), (a_mg, .inl (cI, 56, .inl mg)), (a_mr, .inl (cI, 6, .inl mr)), (a_mx, .inl (cI, 6, .inl mx))] := hD
          obtain ⟨b_33, h⟩ := h
          refine lv_goto (tgt := 73) hx hb dX6_readsAll_52 (by decide) ?_
          refine lv_istore_n (lv' := [(3, .int r_29), (2, .int v_20), (1, .int ma), (0, .ref h6)]) hx hb dX6_readsAll_73 rfl hl (by decide) rfl (fun ls hl => ?_)
          refine lv_iload_n hx hb dX6_readsAll_74 rfl (lv_at hl 0 rfl) ?_
          refine lv_if_ne (tgt := 80) hx hb dX6_readsAll_75 (by decide) (fun c_34 => ?_) (fun c_34 => ?_)
          · have h := h.2 c_34
            refine lv_goto (tgt := 9) hx hb dX6_readsAll_80 (by decide) ?_
            exact ih h hP hD hS (lv_sub hl [3] rfl)
          · have h := h.1 c_34
            refine lv_iload_n hx hb dX6_readsAll_78 rfl (lv_at hl 2 rfl) ?_
            exact hret ma (md_30, mb_31, ma_32) _ _ _ ls h hP hD hS dX6_readsAll_79
  refine lv_aload_n hx hb dX6_readsAll_0 rfl (lv_at hl 0 rfl) ?_
  refine k0V_v (As := []) (n := 0) ⟨hx, hb, hml, hown, hts⟩ hK hP hD hS hA (c_X6_begins l D cI cC cQ h6 a_mt a_mo a_md a_mb a_ms a_mp a_mi a_mn a_mh a_mg a_mr a_mx mt my mo md mb ms mp mk mi mq mn mz ma mh mg mr mx  _ h) gX6_readsAll_X6_begins rfl rfl ⟨rfl, rfl⟩ yoX6_begins ⟨Nat.le_of_ble_eq_true rfl, Nat.le_of_ble_eq_true rfl⟩ (q0 := 0) (ci := 6) rfl rfl rfl rfl hl.1 rfl (Nat.le_of_ble_eq_true rfl) dX6_readsAll_1 ⟨Nat.zero_le _, Nat.zero_le _⟩ (fun u H locs h hP hD hS => ?_)
  obtain ⟨md_1, mb_2⟩ := u
  have hP : va_P D vwCl [(h6, .inr (6, [.ref a_mt, .int my, .ref a_mo, .ref a_md, .ref a_mb, .ref a_ms, .ref a_mp, .int mk, .ref a_mi, .int mq, .ref a_mn, .int mz, .int ma, .ref a_mh, .ref a_mg, .ref a_mr, .ref a_mx])), (a_mt, .inl (cI, 200, .inl mt)), (a_mo, .inl (cI, 16, .inl mo)), (a_md, .inl (cI, 16, .inl md_1)), (a_mb, .inl (cI, 56, .inl mb_2)), (a_ms, .inl (cI, 56, .inl ms)), (a_mp, .inl (cI, 448, .inl mp)), (a_mi, .inl (cI, 112, .inl mi)), (a_mn, .inl (cI, 12, .inl mn)), (a_mh, .inl (cI, 42, .inl mh)), (a_mg, .inl (cI, 56, .inl mg)), (a_mr, .inl (cI, 6, .inl mr)), (a_mx, .inl (cI, 6, .inl mx))] H := hP
  have hD : va_D A [(h6, .inr (6, [.ref a_mt, .int my, .ref a_mo, .ref a_md, .ref a_mb, .ref a_ms, .ref a_mp, .int mk, .ref a_mi, .int mq, .ref a_mn, .int mz, .int ma, .ref a_mh, .ref a_mg, .ref a_mr, .ref a_mx])), (a_mt, .inl (cI, 200, .inl mt)), (a_mo, .inl (cI, 16, .inl mo)), (a_md, .inl (cI, 16, .inl md_1)), (a_mb, .inl (cI, 56, .inl mb_2)), (a_ms, .inl (cI, 56, .inl ms)), (a_mp, .inl (cI, 448, .inl mp)), (a_mi, .inl (cI, 112, .inl mi)), (a_mn, .inl (cI, 12, .inl mn)), (a_mh, .inl (cI, 42, .inl mh)), (a_mg, .inl (cI, 56, .inl mg)), (a_mr, .inl (cI, 6, .inl mr)), (a_mx, .inl (cI, 6, .inl mx))] := hD
  refine lv_aload_n hx hb dX6_readsAll_4 rfl (lv_at hl 0 rfl) ?_
  refine lv_iconst (v := 0) hx hb dX6_readsAll_5 (by decide) ?_
  refine va_put (D := D) (ci := 6) (v := .int (0 : Int32)) (ty := .int) (C := RX6) (T := TX6) (N := 17) hx hb hts hin6 tyX6 tyX6_ok nmX6 hown hK.1 hP hD hS 0 rfl rfl 12 (by decide) (k_0) (fun _ h9 => h9) rfl (by decide +kernel) rfl rfl (Nat.le_of_ble_eq_true rfl) dX6_readsAll_6 (fun H locs hP hD hS => ?_)
  have hP : va_P D vwCl [(h6, .inr (6, [.ref a_mt, .int my, .ref a_mo, .ref a_md, .ref a_mb, .ref a_ms, .ref a_mp, .int mk, .ref a_mi, .int mq, .ref a_mn, .int mz, .int (0 : Int32), .ref a_mh, .ref a_mg, .ref a_mr, .ref a_mx])), (a_mt, .inl (cI, 200, .inl mt)), (a_mo, .inl (cI, 16, .inl mo)), (a_md, .inl (cI, 16, .inl md_1)), (a_mb, .inl (cI, 56, .inl mb_2)), (a_ms, .inl (cI, 56, .inl ms)), (a_mp, .inl (cI, 448, .inl mp)), (a_mi, .inl (cI, 112, .inl mi)), (a_mn, .inl (cI, 12, .inl mn)), (a_mh, .inl (cI, 42, .inl mh)), (a_mg, .inl (cI, 56, .inl mg)), (a_mr, .inl (cI, 6, .inl mr)), (a_mx, .inl (cI, 6, .inl mx))] H := hP
  have hD : va_D A [(h6, .inr (6, [.ref a_mt, .int my, .ref a_mo, .ref a_md, .ref a_mb, .ref a_ms, .ref a_mp, .int mk, .ref a_mi, .int mq, .ref a_mn, .int mz, .int (0 : Int32), .ref a_mh, .ref a_mg, .ref a_mr, .ref a_mx])), (a_mt, .inl (cI, 200, .inl mt)), (a_mo, .inl (cI, 16, .inl mo)), (a_md, .inl (cI, 16, .inl md_1)), (a_mb, .inl (cI, 56, .inl mb_2)), (a_ms, .inl (cI, 56, .inl ms)), (a_mp, .inl (cI, 448, .inl mp)), (a_mi, .inl (cI, 112, .inl mi)), (a_mn, .inl (cI, 12, .inl mn)), (a_mh, .inl (cI, 42, .inl mh)), (a_mg, .inl (cI, 56, .inl mg)), (a_mr, .inl (cI, 6, .inl mr)), (a_mx, .inl (cI, 6, .inl mx))] := hD
  obtain ⟨n_35, h⟩ := h
  exact L9 n_35 h hP hD hS (lv_sub hl [0] rfl)

/-! DoubtCourtModel.fault -/
abbrev rmX6_fault : Room := { frames := 5, cells := 0, slots := 0, locals := 113 }
theorem yoX6_fault : yX6_fault.cls ≠ "java/lang/invoke/MethodHandle" ∧ yX6_fault.cls ≠ "java/lang/invoke/VarHandle" ∧ (parseMethodDescriptor yX6_fault.desc).map (fun d => d.parameters.length) = some 0 := by decide +kernel
set_option maxHeartbeats 4000000 in
set_option maxRecDepth 100000 in
theorem c_X6_fault (l : Launch) (D : va_G) (cI cC cQ : ClassId) (h6 : Nat) (a_mt : Nat) (a_mo : Nat) (a_md : Nat) (a_mb : Nat) (a_ms : Nat) (a_mp : Nat) (a_mi : Nat) (a_mn : Nat) (a_mh : Nat) (a_mg : Nat) (a_mr : Nat) (a_mx : Nat) (mt : Nat → Int32) (my : Int32) (mo : Nat → Int32) (md : Nat → Int32) (mb : Nat → Int32) (ms : Nat → Int32) (mp : Nat → Int32) (mk : Int32) (mi : Nat → Int32) (mq : Int32) (mn : Nat → Int32) (mz : Int32) (ma : Int32) (mh : Nat → Int32) (mg : Nat → Int32) (mr : Nat → Int32) (mx : Nat → Int32) (Q : Int32 → (Nat → Int32) → (Nat → Int32) → Int32 → Prop) (h : wX6_fault mt my md mb Q) : Ci (S := (Nat → Int32) × (Nat → Int32) × (Int32)) l D cI cC cQ yX6_fault wsX6_fault rmX6_fault [.ref h6] [(h6, .inr (6, [.ref a_mt, .int my, .ref a_mo, .ref a_md, .ref a_mb, .ref a_ms, .ref a_mp, .int mk, .ref a_mi, .int mq, .ref a_mn, .int mz, .int ma, .ref a_mh, .ref a_mg, .ref a_mr, .ref a_mx])), (a_mt, .inl (cI, 200, .inl mt)), (a_mo, .inl (cI, 16, .inl mo)), (a_md, .inl (cI, 16, .inl md)), (a_mb, .inl (cI, 56, .inl mb)), (a_ms, .inl (cI, 56, .inl ms)), (a_mp, .inl (cI, 448, .inl mp)), (a_mi, .inl (cI, 112, .inl mi)), (a_mn, .inl (cI, 12, .inl mn)), (a_mh, .inl (cI, 42, .inl mh)), (a_mg, .inl (cI, 56, .inl mg)), (a_mr, .inl (cI, 6, .inl mr)), (a_mx, .inl (cI, 6, .inl mx))] (fun u => [(h6, .inr (6, [.ref a_mt, .int my, .ref a_mo, .ref a_md, .ref a_mb, .ref a_ms, .ref a_mp, .int mk, .ref a_mi, .int mq, .ref a_mn, .int mz, .int u.2.2, .ref a_mh, .ref a_mg, .ref a_mr, .ref a_mx])), (a_mt, .inl (cI, 200, .inl mt)), (a_mo, .inl (cI, 16, .inl mo)), (a_md, .inl (cI, 16, .inl u.1)), (a_mb, .inl (cI, 56, .inl u.2.1)), (a_ms, .inl (cI, 56, .inl ms)), (a_mp, .inl (cI, 448, .inl mp)), (a_mi, .inl (cI, 112, .inl mi)), (a_mn, .inl (cI, 12, .inl mn)), (a_mh, .inl (cI, 42, .inl mh)), (a_mg, .inl (cI, 56, .inl mg)), (a_mr, .inl (cI, 6, .inl mr)), (a_mx, .inl (cI, 6, .inl mx))]) (fun r u => Q r u.1 u.2.1 u.2.2) := by
  refine Ci_mk (cc := cX6_fault) (maxL := 1) (by decide) rfl (Nat.le_of_ble_eq_true rfl) ?_
  intro p e s m args below meth c A Z ls hx hb hml hown hts hK hA hP hD hret hl
  have hS : va_S A s.heap s.heap [] := va_S.rf
  have hl : lv_has ls 1 [(0, .ref h6)] := hl
  refine lv_aload_n hx hb dX6_fault_0 rfl (lv_at hl 0 rfl) ?_
  refine k0V_i (As := []) (n := 0) ⟨hx, hb, hml, hown, hts⟩ hK hP hD hS hA (c_X6_readsAll l D cI cC cQ h6 a_mt a_mo a_md a_mb a_ms a_mp a_mi a_mn a_mh a_mg a_mr a_mx mt my mo md mb ms mp mk mi mq mn mz ma mh mg mr mx  _ h) gX6_fault_X6_readsAll rfl rfl ⟨rfl, rfl⟩ yoX6_readsAll ⟨Nat.le_of_ble_eq_true rfl, Nat.le_of_ble_eq_true rfl⟩ (q0 := 0) (ci := 6) rfl rfl rfl rfl hl.1 rfl (Nat.le_of_ble_eq_true rfl) dX6_fault_1 ⟨Nat.zero_le _, Nat.zero_le _⟩ (fun r_1 u H locs h hP hD hS => ?_)
  obtain ⟨md_2, mb_3, ma_4⟩ := u
  have hP : va_P D vwCl [(h6, .inr (6, [.ref a_mt, .int my, .ref a_mo, .ref a_md, .ref a_mb, .ref a_ms, .ref a_mp, .int mk, .ref a_mi, .int mq, .ref a_mn, .int mz, .int ma_4, .ref a_mh, .ref a_mg, .ref a_mr, .ref a_mx])), (a_mt, .inl (cI, 200, .inl mt)), (a_mo, .inl (cI, 16, .inl mo)), (a_md, .inl (cI, 16, .inl md_2)), (a_mb, .inl (cI, 56, .inl mb_3)), (a_ms, .inl (cI, 56, .inl ms)), (a_mp, .inl (cI, 448, .inl mp)), (a_mi, .inl (cI, 112, .inl mi)), (a_mn, .inl (cI, 12, .inl mn)), (a_mh, .inl (cI, 42, .inl mh)), (a_mg, .inl (cI, 56, .inl mg)), (a_mr, .inl (cI, 6, .inl mr)), (a_mx, .inl (cI, 6, .inl mx))] H := hP
  have hD : va_D A [(h6, .inr (6, [.ref a_mt, .int my, .ref a_mo, .ref a_md, .ref a_mb, .ref a_ms, .ref a_mp, .int mk, .ref a_mi, .int mq, .ref a_mn, .int mz, .int ma_4, .ref a_mh, .ref a_mg, .ref a_mr, .ref a_mx])), (a_mt, .inl (cI, 200, .inl mt)), (a_mo, .inl (cI, 16, .inl mo)), (a_md, .inl (cI, 16, .inl md_2)), (a_mb, .inl (cI, 56, .inl mb_3)), (a_ms, .inl (cI, 56, .inl ms)), (a_mp, .inl (cI, 448, .inl mp)), (a_mi, .inl (cI, 112, .inl mi)), (a_mn, .inl (cI, 12, .inl mn)), (a_mh, .inl (cI, 42, .inl mh)), (a_mg, .inl (cI, 56, .inl mg)), (a_mr, .inl (cI, 6, .inl mr)), (a_mx, .inl (cI, 6, .inl mx))] := hD
  exact hret r_1 (md_2, mb_3, ma_4) _ _ _ ls h hP hD hS dX6_fault_4

/-! DoubtCourtModel.lays -/
abbrev rmX6_lays : Room := { frames := 0, cells := 0, slots := 0, locals := 0 }
theorem yoX6_lays : yX6_lays.cls ≠ "java/lang/invoke/MethodHandle" ∧ yX6_lays.cls ≠ "java/lang/invoke/VarHandle" ∧ (parseMethodDescriptor yX6_lays.desc).map (fun d => d.parameters.length) = some 0 := by decide +kernel
set_option maxHeartbeats 4000000 in
set_option maxRecDepth 100000 in
theorem c_X6_lays (l : Launch) (D : va_G) (cI cC cQ : ClassId) (h6 : Nat) (a_mt : Nat) (a_mo : Nat) (a_md : Nat) (a_mb : Nat) (a_ms : Nat) (a_mp : Nat) (a_mi : Nat) (a_mn : Nat) (a_mh : Nat) (a_mg : Nat) (a_mr : Nat) (a_mx : Nat) (mt : Nat → Int32) (my : Int32) (mo : Nat → Int32) (md : Nat → Int32) (mb : Nat → Int32) (ms : Nat → Int32) (mp : Nat → Int32) (mk : Int32) (mi : Nat → Int32) (mq : Int32) (mn : Nat → Int32) (mz : Int32) (ma : Int32) (mh : Nat → Int32) (mg : Nat → Int32) (mr : Nat → Int32) (mx : Nat → Int32) (Q : (Nat → Int32) → (Nat → Int32) → Int32 → Int32 → Int32 → Prop) (h : wX6_lays mo md mb ms Q) : Cv (S := (Nat → Int32) × (Nat → Int32) × (Int32) × (Int32) × (Int32)) l D cI cC cQ yX6_lays wsX6_lays rmX6_lays [.ref h6] [(h6, .inr (6, [.ref a_mt, .int my, .ref a_mo, .ref a_md, .ref a_mb, .ref a_ms, .ref a_mp, .int mk, .ref a_mi, .int mq, .ref a_mn, .int mz, .int ma, .ref a_mh, .ref a_mg, .ref a_mr, .ref a_mx])), (a_mt, .inl (cI, 200, .inl mt)), (a_mo, .inl (cI, 16, .inl mo)), (a_md, .inl (cI, 16, .inl md)), (a_mb, .inl (cI, 56, .inl mb)), (a_ms, .inl (cI, 56, .inl ms)), (a_mp, .inl (cI, 448, .inl mp)), (a_mi, .inl (cI, 112, .inl mi)), (a_mn, .inl (cI, 12, .inl mn)), (a_mh, .inl (cI, 42, .inl mh)), (a_mg, .inl (cI, 56, .inl mg)), (a_mr, .inl (cI, 6, .inl mr)), (a_mx, .inl (cI, 6, .inl mx))] (fun u => [(h6, .inr (6, [.ref a_mt, .int my, .ref a_mo, .ref a_md, .ref a_mb, .ref a_ms, .ref a_mp, .int u.2.2.1, .ref a_mi, .int u.2.2.2.1, .ref a_mn, .int u.2.2.2.2, .int ma, .ref a_mh, .ref a_mg, .ref a_mr, .ref a_mx])), (a_mt, .inl (cI, 200, .inl mt)), (a_mo, .inl (cI, 16, .inl u.1)), (a_md, .inl (cI, 16, .inl md)), (a_mb, .inl (cI, 56, .inl mb)), (a_ms, .inl (cI, 56, .inl u.2.1)), (a_mp, .inl (cI, 448, .inl mp)), (a_mi, .inl (cI, 112, .inl mi)), (a_mn, .inl (cI, 12, .inl mn)), (a_mh, .inl (cI, 42, .inl mh)), (a_mg, .inl (cI, 56, .inl mg)), (a_mr, .inl (cI, 6, .inl mr)), (a_mx, .inl (cI, 6, .inl mx))]) (fun u => Q u.1 u.2.1 u.2.2.1 u.2.2.2.1 u.2.2.2.2) := by
  refine Cv_mk (cc := cX6_lays) (maxL := 2) (by decide) rfl (Nat.le_of_ble_eq_true rfl) ?_
  intro p e s m args below meth c A Z ls hx hb hml hown hts hK hA hP hD hret hl
  have hS : va_S A s.heap s.heap [] := va_S.rf
  have hin6 : ∀ w ∈ u_ws RX6 TX6 17, w ∈ wsX6_lays := by decide +kernel
  have k_0 := hts (.fieldLink RX6 13 "DoubtCourtModel" "told" "[I") (by decide +kernel)
  have k_1 := hts (.fieldLink RX6 16 "DoubtCourtModel" "draft" "[I") (by decide +kernel)
  have k_2 := hts (.fieldLink RX6 97 "DoubtCourtModel" "known" "I") (by decide +kernel)
  have k_3 := hts (.fieldLink RX6 100 "DoubtCourtModel" "kept" "I") (by decide +kernel)
  have k_4 := hts (.fieldLink RX6 103 "DoubtCourtModel" "noted" "I") (by decide +kernel)
  have k_5 := hts (.fieldLink RX6 22 "DoubtCourtModel" "s" "[I") (by decide +kernel)
  have k_6 := hts (.fieldLink RX6 19 "DoubtCourtModel" "begun" "[I") (by decide +kernel)
  have hl : lv_has ls 2 [(0, .ref h6)] := hl
  have L2 : ∀ {K26 : (Nat → Int32) → Prop} (n : Nat) {x1 : Int32} {mo : Nat → Int32} {ms : Nat → Int32} {mk : Int32} {mq : Int32} {mz : Int32} {H : Heap} {locs : List Loc} {ls : Array Slot}, wX6_lays_L2 md K26 n x1 mo → va_P D vwCl [(h6, .inr (6, [.ref a_mt, .int my, .ref a_mo, .ref a_md, .ref a_mb, .ref a_ms, .ref a_mp, .int mk, .ref a_mi, .int mq, .ref a_mn, .int mz, .int ma, .ref a_mh, .ref a_mg, .ref a_mr, .ref a_mx])), (a_mt, .inl (cI, 200, .inl mt)), (a_mo, .inl (cI, 16, .inl mo)), (a_md, .inl (cI, 16, .inl md)), (a_mb, .inl (cI, 56, .inl mb)), (a_ms, .inl (cI, 56, .inl ms)), (a_mp, .inl (cI, 448, .inl mp)), (a_mi, .inl (cI, 112, .inl mi)), (a_mn, .inl (cI, 12, .inl mn)), (a_mh, .inl (cI, 42, .inl mh)), (a_mg, .inl (cI, 56, .inl mg)), (a_mr, .inl (cI, 6, .inl mr)), (a_mx, .inl (cI, 6, .inl mx))] H → va_D A [(h6, .inr (6, [.ref a_mt, .int my, .ref a_mo, .ref a_md, .ref a_mb, .ref a_ms, .ref a_mp, .int mk, .ref a_mi, .int mq, .ref a_mn, .int mz, .int ma, .ref a_mh, .ref a_mg, .ref a_mr, .ref a_mx])), (a_mt, .inl (cI, 200, .inl mt)), (a_mo, .inl (cI, 16, .inl mo)), (a_md, .inl (cI, 16, .inl md)), (a_mb, .inl (cI, 56, .inl mb)), (a_ms, .inl (cI, 56, .inl ms)), (a_mp, .inl (cI, 448, .inl mp)), (a_mi, .inl (cI, 112, .inl mi)), (a_mn, .inl (cI, 12, .inl mn)), (a_mh, .inl (cI, 42, .inl mh)), (a_mg, .inl (cI, 56, .inl mg)), (a_mr, .inl (cI, 6, .inl mr)), (a_mx, .inl (cI, 6, .inl mx))] → va_S A s.heap H locs → lv_has ls 2 [(0, .ref h6), (1, .int x1)] → (∀ (mo : Nat → Int32) (H : Heap) (locs : List Loc) (ls : Array Slot), K26 mo → va_P D vwCl [(h6, .inr (6, [.ref a_mt, .int my, .ref a_mo, .ref a_md, .ref a_mb, .ref a_ms, .ref a_mp, .int mk, .ref a_mi, .int mq, .ref a_mn, .int mz, .int ma, .ref a_mh, .ref a_mg, .ref a_mr, .ref a_mx])), (a_mt, .inl (cI, 200, .inl mt)), (a_mo, .inl (cI, 16, .inl mo)), (a_md, .inl (cI, 16, .inl md)), (a_mb, .inl (cI, 56, .inl mb)), (a_ms, .inl (cI, 56, .inl ms)), (a_mp, .inl (cI, 448, .inl mp)), (a_mi, .inl (cI, 112, .inl mi)), (a_mn, .inl (cI, 12, .inl mn)), (a_mh, .inl (cI, 42, .inl mh)), (a_mg, .inl (cI, 56, .inl mg)), (a_mr, .inl (cI, 6, .inl mr)), (a_mx, .inl (cI, 6, .inl mx))] H → va_D A [(h6, .inr (6, [.ref a_mt, .int my, .ref a_mo, .ref a_md, .ref a_mb, .ref a_ms, .ref a_mp, .int mk, .ref a_mi, .int mq, .ref a_mn, .int mz, .int ma, .ref a_mh, .ref a_mg, .ref a_mr, .ref a_mx])), (a_mt, .inl (cI, 200, .inl mt)), (a_mo, .inl (cI, 16, .inl mo)), (a_md, .inl (cI, 16, .inl md)), (a_mb, .inl (cI, 56, .inl mb)), (a_ms, .inl (cI, 56, .inl ms)), (a_mp, .inl (cI, 448, .inl mp)), (a_mi, .inl (cI, 112, .inl mi)), (a_mn, .inl (cI, 12, .inl mn)), (a_mh, .inl (cI, 42, .inl mh)), (a_mg, .inl (cI, 56, .inl mg)), (a_mr, .inl (cI, 6, .inl mr)), (a_mx, .inl (cI, 6, .inl mx))] → va_S A s.heap H locs → lv_has ls 2 [(0, .ref h6)] → W p l e rmX6_lays s m args below meth c H locs 0 0 Z (F0 m 26 ls [])) → W p l e rmX6_lays s m args below meth c H locs 0 0 Z (F0 m 2 ls []) := by
    intro K26
    intro n
    induction n with
    | zero =>
      intro x1 mo ms mk mq mz H locs ls h hP hD hS hl hk26
      exact (show False from h).elim
    | succ n ih =>
      intro x1 mo ms mk mq mz H locs ls h hP hD hS hl hk26
      refine lv_iload_n hx hb dX6_lays_2 rfl (lv_at hl 1 rfl) ?_
      refine lv_bipush (v := 16) hx hb dX6_lays_3 (by decide) ?_
      refine lv_icmp_ge (tgt := 26) hx hb dX6_lays_5 (by decide) (fun c_2 => ?_) (fun c_2 => ?_)
      · have h := h.1 c_2
        exact hk26 mo _ _ _ h hP hD hS (lv_sub hl [0] rfl)
      · have h := h.2 c_2
        refine lv_aload_n hx hb dX6_lays_8 rfl (lv_at hl 0 rfl) ?_
        refine va_get (D := D) (ci := 6) (v := .ref a_mo) (C := RX6) (T := TX6) (N := 17) hx hb hts hin6 hown hK.1 hP 0 rfl rfl 2 (by decide) (k_0) (fun _ h9 => h9) rfl dX6_lays_9 ?_
        refine lv_iload_n hx hb dX6_lays_12 rfl (lv_at hl 1 rfl) ?_
        refine lv_aload_n hx hb dX6_lays_13 rfl (lv_at hl 0 rfl) ?_
        refine va_get (D := D) (ci := 6) (v := .ref a_md) (C := RX6) (T := TX6) (N := 17) hx hb hts hin6 hown hK.1 hP 0 rfl rfl 3 (by decide) (k_1) (fun _ h9 => h9) rfl dX6_lays_14 ?_
        refine lv_iload_n hx hb dX6_lays_17 rfl (lv_at hl 1 rfl) ?_
        refine z_iald (k := x1.toNatClampNeg) hx hb hK.1 hP 3 rfl rfl h.1 dX6_lays_18 ?_
        have h := h.2
        refine z_iast (k := x1.toNatClampNeg) hx hb hK.1 hP hD hS 2 rfl rfl h.1 dX6_lays_19 (fun H locs hP hD hS => ?_)
        have h := h.2
        have hP : va_P D vwCl [(h6, .inr (6, [.ref a_mt, .int my, .ref a_mo, .ref a_md, .ref a_mb, .ref a_ms, .ref a_mp, .int mk, .ref a_mi, .int mq, .ref a_mn, .int mz, .int ma, .ref a_mh, .ref a_mg, .ref a_mr, .ref a_mx])), (a_mt, .inl (cI, 200, .inl mt)), (a_mo, .inl (cI, 16, .inl (upd mo x1.toNatClampNeg (md x1.toNatClampNeg)))), (a_md, .inl (cI, 16, .inl md)), (a_mb, .inl (cI, 56, .inl mb)), (a_ms, .inl (cI, 56, .inl ms)), (a_mp, .inl (cI, 448, .inl mp)), (a_mi, .inl (cI, 112, .inl mi)), (a_mn, .inl (cI, 12, .inl mn)), (a_mh, .inl (cI, 42, .inl mh)), (a_mg, .inl (cI, 56, .inl mg)), (a_mr, .inl (cI, 6, .inl mr)), (a_mx, .inl (cI, 6, .inl mx))] H := hP
        have hD : va_D A [(h6, .inr (6, [.ref a_mt, .int my, .ref a_mo, .ref a_md, .ref a_mb, .ref a_ms, .ref a_mp, .int mk, .ref a_mi, .int mq, .ref a_mn, .int mz, .int ma, .ref a_mh, .ref a_mg, .ref a_mr, .ref a_mx])), (a_mt, .inl (cI, 200, .inl mt)), (a_mo, .inl (cI, 16, .inl (upd mo x1.toNatClampNeg (md x1.toNatClampNeg)))), (a_md, .inl (cI, 16, .inl md)), (a_mb, .inl (cI, 56, .inl mb)), (a_ms, .inl (cI, 56, .inl ms)), (a_mp, .inl (cI, 448, .inl mp)), (a_mi, .inl (cI, 112, .inl mi)), (a_mn, .inl (cI, 12, .inl mn)), (a_mh, .inl (cI, 42, .inl mh)), (a_mg, .inl (cI, 56, .inl mg)), (a_mr, .inl (cI, 6, .inl mr)), (a_mx, .inl (cI, 6, .inl mx))] := hD
        refine lv_iinc (v := (x1 + (1 : Int32))) (lv' := [(1, .int (x1 + (1 : Int32))), (0, .ref h6)]) hx hb dX6_lays_20 hl (k := 1) rfl rfl (by decide) rfl (fun ls hl => ?_)
        refine lv_goto (tgt := 2) hx hb dX6_lays_23 (by decide) ?_
        exact ih h hP hD hS (lv_sub hl [1, 0] rfl) hk26
  have L28 : ∀ (n : Nat) {x1 : Int32} {mo : Nat → Int32} {ms : Nat → Int32} {mk : Int32} {mq : Int32} {mz : Int32} {H : Heap} {locs : List Loc} {ls : Array Slot}, wX6_lays_L28 mo mb Q n x1 ms → va_P D vwCl [(h6, .inr (6, [.ref a_mt, .int my, .ref a_mo, .ref a_md, .ref a_mb, .ref a_ms, .ref a_mp, .int mk, .ref a_mi, .int mq, .ref a_mn, .int mz, .int ma, .ref a_mh, .ref a_mg, .ref a_mr, .ref a_mx])), (a_mt, .inl (cI, 200, .inl mt)), (a_mo, .inl (cI, 16, .inl mo)), (a_md, .inl (cI, 16, .inl md)), (a_mb, .inl (cI, 56, .inl mb)), (a_ms, .inl (cI, 56, .inl ms)), (a_mp, .inl (cI, 448, .inl mp)), (a_mi, .inl (cI, 112, .inl mi)), (a_mn, .inl (cI, 12, .inl mn)), (a_mh, .inl (cI, 42, .inl mh)), (a_mg, .inl (cI, 56, .inl mg)), (a_mr, .inl (cI, 6, .inl mr)), (a_mx, .inl (cI, 6, .inl mx))] H → va_D A [(h6, .inr (6, [.ref a_mt, .int my, .ref a_mo, .ref a_md, .ref a_mb, .ref a_ms, .ref a_mp, .int mk, .ref a_mi, .int mq, .ref a_mn, .int mz, .int ma, .ref a_mh, .ref a_mg, .ref a_mr, .ref a_mx])), (a_mt, .inl (cI, 200, .inl mt)), (a_mo, .inl (cI, 16, .inl mo)), (a_md, .inl (cI, 16, .inl md)), (a_mb, .inl (cI, 56, .inl mb)), (a_ms, .inl (cI, 56, .inl ms)), (a_mp, .inl (cI, 448, .inl mp)), (a_mi, .inl (cI, 112, .inl mi)), (a_mn, .inl (cI, 12, .inl mn)), (a_mh, .inl (cI, 42, .inl mh)), (a_mg, .inl (cI, 56, .inl mg)), (a_mr, .inl (cI, 6, .inl mr)), (a_mx, .inl (cI, 6, .inl mx))] → va_S A s.heap H locs → lv_has ls 2 [(0, .ref h6), (1, .int x1)] → W p l e rmX6_lays s m args below meth c H locs 0 0 Z (F0 m 28 ls []) := by
    intro n
    induction n with
    | zero =>
      intro x1 mo ms mk mq mz H locs ls h hP hD hS hl
      exact (show False from h).elim
    | succ n ih =>
      intro x1 mo ms mk mq mz H locs ls h hP hD hS hl
      refine lv_iload_n hx hb dX6_lays_28 rfl (lv_at hl 1 rfl) ?_
      refine lv_bipush (v := 56) hx hb dX6_lays_29 (by decide) ?_
      refine lv_icmp_ge (tgt := 52) hx hb dX6_lays_31 (by decide) (fun c_5 => ?_) (fun c_5 => ?_)
      · have h := h.1 c_5
        refine lv_aload_n hx hb dX6_lays_52 rfl (lv_at hl 0 rfl) ?_
        refine lv_iconst (v := 0) hx hb dX6_lays_53 (by decide) ?_
        refine va_put (D := D) (ci := 6) (v := .int (0 : Int32)) (ty := .int) (C := RX6) (T := TX6) (N := 17) hx hb hts hin6 tyX6 tyX6_ok nmX6 hown hK.1 hP hD hS 0 rfl rfl 7 (by decide) (k_2) (fun _ h9 => h9) rfl (by decide +kernel) rfl rfl (Nat.le_of_ble_eq_true rfl) dX6_lays_54 (fun H locs hP hD hS => ?_)
        have hP : va_P D vwCl [(h6, .inr (6, [.ref a_mt, .int my, .ref a_mo, .ref a_md, .ref a_mb, .ref a_ms, .ref a_mp, .int (0 : Int32), .ref a_mi, .int mq, .ref a_mn, .int mz, .int ma, .ref a_mh, .ref a_mg, .ref a_mr, .ref a_mx])), (a_mt, .inl (cI, 200, .inl mt)), (a_mo, .inl (cI, 16, .inl mo)), (a_md, .inl (cI, 16, .inl md)), (a_mb, .inl (cI, 56, .inl mb)), (a_ms, .inl (cI, 56, .inl ms)), (a_mp, .inl (cI, 448, .inl mp)), (a_mi, .inl (cI, 112, .inl mi)), (a_mn, .inl (cI, 12, .inl mn)), (a_mh, .inl (cI, 42, .inl mh)), (a_mg, .inl (cI, 56, .inl mg)), (a_mr, .inl (cI, 6, .inl mr)), (a_mx, .inl (cI, 6, .inl mx))] H := hP
        have hD : va_D A [(h6, .inr (6, [.ref a_mt, .int my, .ref a_mo, .ref a_md, .ref a_mb, .ref a_ms, .ref a_mp, .int (0 : Int32), .ref a_mi, .int mq, .ref a_mn, .int mz, .int ma, .ref a_mh, .ref a_mg, .ref a_mr, .ref a_mx])), (a_mt, .inl (cI, 200, .inl mt)), (a_mo, .inl (cI, 16, .inl mo)), (a_md, .inl (cI, 16, .inl md)), (a_mb, .inl (cI, 56, .inl mb)), (a_ms, .inl (cI, 56, .inl ms)), (a_mp, .inl (cI, 448, .inl mp)), (a_mi, .inl (cI, 112, .inl mi)), (a_mn, .inl (cI, 12, .inl mn)), (a_mh, .inl (cI, 42, .inl mh)), (a_mg, .inl (cI, 56, .inl mg)), (a_mr, .inl (cI, 6, .inl mr)), (a_mx, .inl (cI, 6, .inl mx))] := hD
        refine lv_aload_n hx hb dX6_lays_57 rfl (lv_at hl 0 rfl) ?_
        refine lv_iconst (v := 0) hx hb dX6_lays_58 (by decide) ?_
        refine va_put (D := D) (ci := 6) (v := .int (0 : Int32)) (ty := .int) (C := RX6) (T := TX6) (N := 17) hx hb hts hin6 tyX6 tyX6_ok nmX6 hown hK.1 hP hD hS 0 rfl rfl 9 (by decide) (k_3) (fun _ h9 => h9) rfl (by decide +kernel) rfl rfl (Nat.le_of_ble_eq_true rfl) dX6_lays_59 (fun H locs hP hD hS => ?_)
        have hP : va_P D vwCl [(h6, .inr (6, [.ref a_mt, .int my, .ref a_mo, .ref a_md, .ref a_mb, .ref a_ms, .ref a_mp, .int (0 : Int32), .ref a_mi, .int (0 : Int32), .ref a_mn, .int mz, .int ma, .ref a_mh, .ref a_mg, .ref a_mr, .ref a_mx])), (a_mt, .inl (cI, 200, .inl mt)), (a_mo, .inl (cI, 16, .inl mo)), (a_md, .inl (cI, 16, .inl md)), (a_mb, .inl (cI, 56, .inl mb)), (a_ms, .inl (cI, 56, .inl ms)), (a_mp, .inl (cI, 448, .inl mp)), (a_mi, .inl (cI, 112, .inl mi)), (a_mn, .inl (cI, 12, .inl mn)), (a_mh, .inl (cI, 42, .inl mh)), (a_mg, .inl (cI, 56, .inl mg)), (a_mr, .inl (cI, 6, .inl mr)), (a_mx, .inl (cI, 6, .inl mx))] H := hP
        have hD : va_D A [(h6, .inr (6, [.ref a_mt, .int my, .ref a_mo, .ref a_md, .ref a_mb, .ref a_ms, .ref a_mp, .int (0 : Int32), .ref a_mi, .int (0 : Int32), .ref a_mn, .int mz, .int ma, .ref a_mh, .ref a_mg, .ref a_mr, .ref a_mx])), (a_mt, .inl (cI, 200, .inl mt)), (a_mo, .inl (cI, 16, .inl mo)), (a_md, .inl (cI, 16, .inl md)), (a_mb, .inl (cI, 56, .inl mb)), (a_ms, .inl (cI, 56, .inl ms)), (a_mp, .inl (cI, 448, .inl mp)), (a_mi, .inl (cI, 112, .inl mi)), (a_mn, .inl (cI, 12, .inl mn)), (a_mh, .inl (cI, 42, .inl mh)), (a_mg, .inl (cI, 56, .inl mg)), (a_mr, .inl (cI, 6, .inl mr)), (a_mx, .inl (cI, 6, .inl mx))] := hD
        refine lv_aload_n hx hb dX6_lays_62 rfl (lv_at hl 0 rfl) ?_
        refine lv_iconst (v := 0) hx hb dX6_lays_63 (by decide) ?_
        refine va_put (D := D) (ci := 6) (v := .int (0 : Int32)) (ty := .int) (C := RX6) (T := TX6) (N := 17) hx hb hts hin6 tyX6 tyX6_ok nmX6 hown hK.1 hP hD hS 0 rfl rfl 11 (by decide) (k_4) (fun _ h9 => h9) rfl (by decide +kernel) rfl rfl (Nat.le_of_ble_eq_true rfl) dX6_lays_64 (fun H locs hP hD hS => ?_)
        have hP : va_P D vwCl [(h6, .inr (6, [.ref a_mt, .int my, .ref a_mo, .ref a_md, .ref a_mb, .ref a_ms, .ref a_mp, .int (0 : Int32), .ref a_mi, .int (0 : Int32), .ref a_mn, .int (0 : Int32), .int ma, .ref a_mh, .ref a_mg, .ref a_mr, .ref a_mx])), (a_mt, .inl (cI, 200, .inl mt)), (a_mo, .inl (cI, 16, .inl mo)), (a_md, .inl (cI, 16, .inl md)), (a_mb, .inl (cI, 56, .inl mb)), (a_ms, .inl (cI, 56, .inl ms)), (a_mp, .inl (cI, 448, .inl mp)), (a_mi, .inl (cI, 112, .inl mi)), (a_mn, .inl (cI, 12, .inl mn)), (a_mh, .inl (cI, 42, .inl mh)), (a_mg, .inl (cI, 56, .inl mg)), (a_mr, .inl (cI, 6, .inl mr)), (a_mx, .inl (cI, 6, .inl mx))] H := hP
        have hD : va_D A [(h6, .inr (6, [.ref a_mt, .int my, .ref a_mo, .ref a_md, .ref a_mb, .ref a_ms, .ref a_mp, .int (0 : Int32), .ref a_mi, .int (0 : Int32), .ref a_mn, .int (0 : Int32), .int ma, .ref a_mh, .ref a_mg, .ref a_mr, .ref a_mx])), (a_mt, .inl (cI, 200, .inl mt)), (a_mo, .inl (cI, 16, .inl mo)), (a_md, .inl (cI, 16, .inl md)), (a_mb, .inl (cI, 56, .inl mb)), (a_ms, .inl (cI, 56, .inl ms)), (a_mp, .inl (cI, 448, .inl mp)), (a_mi, .inl (cI, 112, .inl mi)), (a_mn, .inl (cI, 12, .inl mn)), (a_mh, .inl (cI, 42, .inl mh)), (a_mg, .inl (cI, 56, .inl mg)), (a_mr, .inl (cI, 6, .inl mr)), (a_mx, .inl (cI, 6, .inl mx))] := hD
        exact hret (mo, ms, (0 : Int32), (0 : Int32), (0 : Int32)) _ _ _ ls h hP hD hS dX6_lays_67
      · have h := h.2 c_5
        refine lv_aload_n hx hb dX6_lays_34 rfl (lv_at hl 0 rfl) ?_
        refine va_get (D := D) (ci := 6) (v := .ref a_ms) (C := RX6) (T := TX6) (N := 17) hx hb hts hin6 hown hK.1 hP 0 rfl rfl 5 (by decide) (k_5) (fun _ h9 => h9) rfl dX6_lays_35 ?_
        refine lv_iload_n hx hb dX6_lays_38 rfl (lv_at hl 1 rfl) ?_
        refine lv_aload_n hx hb dX6_lays_39 rfl (lv_at hl 0 rfl) ?_
        refine va_get (D := D) (ci := 6) (v := .ref a_mb) (C := RX6) (T := TX6) (N := 17) hx hb hts hin6 hown hK.1 hP 0 rfl rfl 4 (by decide) (k_6) (fun _ h9 => h9) rfl dX6_lays_40 ?_
        refine lv_iload_n hx hb dX6_lays_43 rfl (lv_at hl 1 rfl) ?_
        refine z_iald (k := x1.toNatClampNeg) hx hb hK.1 hP 4 rfl rfl h.1 dX6_lays_44 ?_
        have h := h.2
        refine z_iast (k := x1.toNatClampNeg) hx hb hK.1 hP hD hS 5 rfl rfl h.1 dX6_lays_45 (fun H locs hP hD hS => ?_)
        have h := h.2
        have hP : va_P D vwCl [(h6, .inr (6, [.ref a_mt, .int my, .ref a_mo, .ref a_md, .ref a_mb, .ref a_ms, .ref a_mp, .int mk, .ref a_mi, .int mq, .ref a_mn, .int mz, .int ma, .ref a_mh, .ref a_mg, .ref a_mr, .ref a_mx])), (a_mt, .inl (cI, 200, .inl mt)), (a_mo, .inl (cI, 16, .inl mo)), (a_md, .inl (cI, 16, .inl md)), (a_mb, .inl (cI, 56, .inl mb)), (a_ms, .inl (cI, 56, .inl (upd ms x1.toNatClampNeg (mb x1.toNatClampNeg)))), (a_mp, .inl (cI, 448, .inl mp)), (a_mi, .inl (cI, 112, .inl mi)), (a_mn, .inl (cI, 12, .inl mn)), (a_mh, .inl (cI, 42, .inl mh)), (a_mg, .inl (cI, 56, .inl mg)), (a_mr, .inl (cI, 6, .inl mr)), (a_mx, .inl (cI, 6, .inl mx))] H := hP
        have hD : va_D A [(h6, .inr (6, [.ref a_mt, .int my, .ref a_mo, .ref a_md, .ref a_mb, .ref a_ms, .ref a_mp, .int mk, .ref a_mi, .int mq, .ref a_mn, .int mz, .int ma, .ref a_mh, .ref a_mg, .ref a_mr, .ref a_mx])), (a_mt, .inl (cI, 200, .inl mt)), (a_mo, .inl (cI, 16, .inl mo)), (a_md, .inl (cI, 16, .inl md)), (a_mb, .inl (cI, 56, .inl mb)), (a_ms, .inl (cI, 56, .inl (upd ms x1.toNatClampNeg (mb x1.toNatClampNeg)))), (a_mp, .inl (cI, 448, .inl mp)), (a_mi, .inl (cI, 112, .inl mi)), (a_mn, .inl (cI, 12, .inl mn)), (a_mh, .inl (cI, 42, .inl mh)), (a_mg, .inl (cI, 56, .inl mg)), (a_mr, .inl (cI, 6, .inl mr)), (a_mx, .inl (cI, 6, .inl mx))] := hD
        refine lv_iinc (v := (x1 + (1 : Int32))) (lv' := [(1, .int (x1 + (1 : Int32))), (0, .ref h6)]) hx hb dX6_lays_46 hl (k := 1) rfl rfl (by decide) rfl (fun ls hl => ?_)
        refine lv_goto (tgt := 28) hx hb dX6_lays_49 (by decide) ?_
        exact ih h hP hD hS (lv_sub hl [1, 0] rfl)
  refine lv_iconst (v := 0) hx hb dX6_lays_0 (by decide) ?_
  refine lv_istore_n (lv' := [(1, .int (0 : Int32)), (0, .ref h6)]) hx hb dX6_lays_1 rfl hl (by decide) rfl (fun ls hl => ?_)
  obtain ⟨n_7, h⟩ := h
  refine L2 n_7 h hP hD hS (lv_sub hl [1, 0] rfl) (fun mo_3 H locs ls h hP hD hS hl => ?_)
  refine lv_iconst (v := 0) hx hb dX6_lays_26 (by decide) ?_
  refine lv_istore_n (lv' := [(1, .int (0 : Int32)), (0, .ref h6)]) hx hb dX6_lays_27 rfl hl (by decide) rfl (fun ls hl => ?_)
  obtain ⟨n_6, h⟩ := h
  exact L28 n_6 h hP hD hS (lv_sub hl [1, 0] rfl)

/-! DoubtCourtModel.lay -/
abbrev rmX6_lay : Room := { frames := 5, cells := 0, slots := 0, locals := 113 }
theorem yoX6_lay : yX6_lay.cls ≠ "java/lang/invoke/MethodHandle" ∧ yX6_lay.cls ≠ "java/lang/invoke/VarHandle" ∧ (parseMethodDescriptor yX6_lay.desc).map (fun d => d.parameters.length) = some 0 := by decide +kernel
set_option maxHeartbeats 4000000 in
set_option maxRecDepth 100000 in
theorem c_X6_lay (l : Launch) (D : va_G) (cI cC cQ : ClassId) (h6 : Nat) (a_mt : Nat) (a_mo : Nat) (a_md : Nat) (a_mb : Nat) (a_ms : Nat) (a_mp : Nat) (a_mi : Nat) (a_mn : Nat) (a_mh : Nat) (a_mg : Nat) (a_mr : Nat) (a_mx : Nat) (mt : Nat → Int32) (my : Int32) (mo : Nat → Int32) (md : Nat → Int32) (mb : Nat → Int32) (ms : Nat → Int32) (mp : Nat → Int32) (mk : Int32) (mi : Nat → Int32) (mq : Int32) (mn : Nat → Int32) (mz : Int32) (ma : Int32) (mh : Nat → Int32) (mg : Nat → Int32) (mr : Nat → Int32) (mx : Nat → Int32) (Q : Int32 → (Nat → Int32) → (Nat → Int32) → (Nat → Int32) → (Nat → Int32) → Int32 → Int32 → Int32 → Int32 → Prop) (h : wX6_lay mt my mo md mb ms mk mq mz Q) : Ci (S := (Nat → Int32) × (Nat → Int32) × (Nat → Int32) × (Nat → Int32) × (Int32) × (Int32) × (Int32) × (Int32)) l D cI cC cQ yX6_lay wsX6_lay rmX6_lay [.ref h6] [(h6, .inr (6, [.ref a_mt, .int my, .ref a_mo, .ref a_md, .ref a_mb, .ref a_ms, .ref a_mp, .int mk, .ref a_mi, .int mq, .ref a_mn, .int mz, .int ma, .ref a_mh, .ref a_mg, .ref a_mr, .ref a_mx])), (a_mt, .inl (cI, 200, .inl mt)), (a_mo, .inl (cI, 16, .inl mo)), (a_md, .inl (cI, 16, .inl md)), (a_mb, .inl (cI, 56, .inl mb)), (a_ms, .inl (cI, 56, .inl ms)), (a_mp, .inl (cI, 448, .inl mp)), (a_mi, .inl (cI, 112, .inl mi)), (a_mn, .inl (cI, 12, .inl mn)), (a_mh, .inl (cI, 42, .inl mh)), (a_mg, .inl (cI, 56, .inl mg)), (a_mr, .inl (cI, 6, .inl mr)), (a_mx, .inl (cI, 6, .inl mx))] (fun u => [(h6, .inr (6, [.ref a_mt, .int my, .ref a_mo, .ref a_md, .ref a_mb, .ref a_ms, .ref a_mp, .int u.2.2.2.2.1, .ref a_mi, .int u.2.2.2.2.2.1, .ref a_mn, .int u.2.2.2.2.2.2.1, .int u.2.2.2.2.2.2.2, .ref a_mh, .ref a_mg, .ref a_mr, .ref a_mx])), (a_mt, .inl (cI, 200, .inl mt)), (a_mo, .inl (cI, 16, .inl u.1)), (a_md, .inl (cI, 16, .inl u.2.1)), (a_mb, .inl (cI, 56, .inl u.2.2.1)), (a_ms, .inl (cI, 56, .inl u.2.2.2.1)), (a_mp, .inl (cI, 448, .inl mp)), (a_mi, .inl (cI, 112, .inl mi)), (a_mn, .inl (cI, 12, .inl mn)), (a_mh, .inl (cI, 42, .inl mh)), (a_mg, .inl (cI, 56, .inl mg)), (a_mr, .inl (cI, 6, .inl mr)), (a_mx, .inl (cI, 6, .inl mx))]) (fun r u => Q r u.1 u.2.1 u.2.2.1 u.2.2.2.1 u.2.2.2.2.1 u.2.2.2.2.2.1 u.2.2.2.2.2.2.1 u.2.2.2.2.2.2.2) := by
  refine Ci_mk (cc := cX6_lay) (maxL := 1) (by decide) rfl (Nat.le_of_ble_eq_true rfl) ?_
  intro p e s m args below meth c A Z ls hx hb hml hown hts hK hA hP hD hret hl
  have hS : va_S A s.heap s.heap [] := va_S.rf
  have hin6 : ∀ w ∈ u_ws RX6 TX6 17, w ∈ wsX6_lay := by decide +kernel
  have k_0 := hts (.fieldLink RX6 16 "DoubtCourtModel" "draft" "[I") (by decide +kernel)
  have k_1 := hts (.fieldLink RX6 13 "DoubtCourtModel" "told" "[I") (by decide +kernel)
  have hl : lv_has ls 1 [(0, .ref h6)] := hl
  refine lv_aload_n hx hb dX6_lay_0 rfl (lv_at hl 0 rfl) ?_
  refine k0V_i (As := []) (n := 0) ⟨hx, hb, hml, hown, hts⟩ hK hP hD hS hA (c_X6_readsAll l D cI cC cQ h6 a_mt a_mo a_md a_mb a_ms a_mp a_mi a_mn a_mh a_mg a_mr a_mx mt my mo md mb ms mp mk mi mq mn mz ma mh mg mr mx  _ h) gX6_lay_X6_readsAll rfl rfl ⟨rfl, rfl⟩ yoX6_readsAll ⟨Nat.le_of_ble_eq_true rfl, Nat.le_of_ble_eq_true rfl⟩ (q0 := 0) (ci := 6) rfl rfl rfl rfl hl.1 rfl (Nat.le_of_ble_eq_true rfl) dX6_lay_1 ⟨Nat.zero_le _, Nat.zero_le _⟩ (fun r_1 u H locs h hP hD hS => ?_)
  obtain ⟨md_2, mb_3, ma_4⟩ := u
  have hP : va_P D vwCl [(h6, .inr (6, [.ref a_mt, .int my, .ref a_mo, .ref a_md, .ref a_mb, .ref a_ms, .ref a_mp, .int mk, .ref a_mi, .int mq, .ref a_mn, .int mz, .int ma_4, .ref a_mh, .ref a_mg, .ref a_mr, .ref a_mx])), (a_mt, .inl (cI, 200, .inl mt)), (a_mo, .inl (cI, 16, .inl mo)), (a_md, .inl (cI, 16, .inl md_2)), (a_mb, .inl (cI, 56, .inl mb_3)), (a_ms, .inl (cI, 56, .inl ms)), (a_mp, .inl (cI, 448, .inl mp)), (a_mi, .inl (cI, 112, .inl mi)), (a_mn, .inl (cI, 12, .inl mn)), (a_mh, .inl (cI, 42, .inl mh)), (a_mg, .inl (cI, 56, .inl mg)), (a_mr, .inl (cI, 6, .inl mr)), (a_mx, .inl (cI, 6, .inl mx))] H := hP
  have hD : va_D A [(h6, .inr (6, [.ref a_mt, .int my, .ref a_mo, .ref a_md, .ref a_mb, .ref a_ms, .ref a_mp, .int mk, .ref a_mi, .int mq, .ref a_mn, .int mz, .int ma_4, .ref a_mh, .ref a_mg, .ref a_mr, .ref a_mx])), (a_mt, .inl (cI, 200, .inl mt)), (a_mo, .inl (cI, 16, .inl mo)), (a_md, .inl (cI, 16, .inl md_2)), (a_mb, .inl (cI, 56, .inl mb_3)), (a_ms, .inl (cI, 56, .inl ms)), (a_mp, .inl (cI, 448, .inl mp)), (a_mi, .inl (cI, 112, .inl mi)), (a_mn, .inl (cI, 12, .inl mn)), (a_mh, .inl (cI, 42, .inl mh)), (a_mg, .inl (cI, 56, .inl mg)), (a_mr, .inl (cI, 6, .inl mr)), (a_mx, .inl (cI, 6, .inl mx))] := hD
  refine lv_bipush (v := -4) hx hb dX6_lay_4 (by decide) ?_
  refine lv_icmp_ne (tgt := 27) hx hb dX6_lay_6 (by decide) (fun c_5 => ?_) (fun c_5 => ?_)
  · have h := h.2 c_5
    refine lv_bipush (v := -2) hx hb dX6_lay_27 (by decide) ?_
    exact hret (-2 : Int32) (mo, md_2, mb_3, ms, mk, mq, mz, ma_4) _ _ _ ls h hP hD hS dX6_lay_29
  · have h := h.1 c_5
    refine lv_aload_n hx hb dX6_lay_9 rfl (lv_at hl 0 rfl) ?_
    refine va_get (D := D) (ci := 6) (v := .ref a_md) (C := RX6) (T := TX6) (N := 17) hx hb hts hin6 hown hK.1 hP 0 rfl rfl 3 (by decide) (k_0) (fun _ h9 => h9) rfl dX6_lay_10 ?_
    refine lv_iconst (v := 0) hx hb dX6_lay_13 (by decide) ?_
    refine z_iald (k := 0) hx hb hK.1 hP 3 rfl (by decide) vi_0_16 dX6_lay_14 ?_
    refine lv_if_eq (tgt := 27) hx hb dX6_lay_15 (by decide) (fun c_6 => ?_) (fun c_6 => ?_)
    · have h := h.1 c_6
      refine lv_bipush (v := -2) hx hb dX6_lay_27 (by decide) ?_
      exact hret (-2 : Int32) (mo, md_2, mb_3, ms, mk, mq, mz, ma_4) _ _ _ ls h hP hD hS dX6_lay_29
    · have h := h.2 c_6
      refine lv_aload_n hx hb dX6_lay_18 rfl (lv_at hl 0 rfl) ?_
      refine va_get (D := D) (ci := 6) (v := .ref a_md) (C := RX6) (T := TX6) (N := 17) hx hb hts hin6 hown hK.1 hP 0 rfl rfl 3 (by decide) (k_0) (fun _ h9 => h9) rfl dX6_lay_19 ?_
      refine lv_iconst (v := 1) hx hb dX6_lay_22 (by decide) ?_
      refine z_iald (k := 1) hx hb hK.1 hP 3 rfl (by decide) vi_1_16 dX6_lay_23 ?_
      refine lv_if_ne (tgt := 30) hx hb dX6_lay_24 (by decide) (fun c_7 => ?_) (fun c_7 => ?_)
      · have h := h.2 c_7
        refine lv_aload_n hx hb dX6_lay_30 rfl (lv_at hl 0 rfl) ?_
        refine k0V_v (As := []) (n := 0) ⟨hx, hb, hml, hown, hts⟩ hK hP hD hS hA (c_X6_lays l D cI cC cQ h6 a_mt a_mo a_md a_mb a_ms a_mp a_mi a_mn a_mh a_mg a_mr a_mx mt my mo md_2 mb_3 ms mp mk mi mq mn mz ma_4 mh mg mr mx  _ h) gX6_lay_X6_lays rfl rfl ⟨rfl, rfl⟩ yoX6_lays ⟨Nat.le_of_ble_eq_true rfl, Nat.le_of_ble_eq_true rfl⟩ (q0 := 0) (ci := 6) rfl rfl rfl rfl hl.1 rfl (Nat.le_of_ble_eq_true rfl) dX6_lay_31 ⟨Nat.zero_le _, Nat.zero_le _⟩ (fun u H locs h hP hD hS => ?_)
        obtain ⟨mo_8, ms_9, mk_10, mq_11, mz_12⟩ := u
        have hP : va_P D vwCl [(h6, .inr (6, [.ref a_mt, .int my, .ref a_mo, .ref a_md, .ref a_mb, .ref a_ms, .ref a_mp, .int mk_10, .ref a_mi, .int mq_11, .ref a_mn, .int mz_12, .int ma_4, .ref a_mh, .ref a_mg, .ref a_mr, .ref a_mx])), (a_mt, .inl (cI, 200, .inl mt)), (a_mo, .inl (cI, 16, .inl mo_8)), (a_md, .inl (cI, 16, .inl md_2)), (a_mb, .inl (cI, 56, .inl mb_3)), (a_ms, .inl (cI, 56, .inl ms_9)), (a_mp, .inl (cI, 448, .inl mp)), (a_mi, .inl (cI, 112, .inl mi)), (a_mn, .inl (cI, 12, .inl mn)), (a_mh, .inl (cI, 42, .inl mh)), (a_mg, .inl (cI, 56, .inl mg)), (a_mr, .inl (cI, 6, .inl mr)), (a_mx, .inl (cI, 6, .inl mx))] H := hP
        have hD : va_D A [(h6, .inr (6, [.ref a_mt, .int my, .ref a_mo, .ref a_md, .ref a_mb, .ref a_ms, .ref a_mp, .int mk_10, .ref a_mi, .int mq_11, .ref a_mn, .int mz_12, .int ma_4, .ref a_mh, .ref a_mg, .ref a_mr, .ref a_mx])), (a_mt, .inl (cI, 200, .inl mt)), (a_mo, .inl (cI, 16, .inl mo_8)), (a_md, .inl (cI, 16, .inl md_2)), (a_mb, .inl (cI, 56, .inl mb_3)), (a_ms, .inl (cI, 56, .inl ms_9)), (a_mp, .inl (cI, 448, .inl mp)), (a_mi, .inl (cI, 112, .inl mi)), (a_mn, .inl (cI, 12, .inl mn)), (a_mh, .inl (cI, 42, .inl mh)), (a_mg, .inl (cI, 56, .inl mg)), (a_mr, .inl (cI, 6, .inl mr)), (a_mx, .inl (cI, 6, .inl mx))] := hD
        refine lv_aload_n hx hb dX6_lay_34 rfl (lv_at hl 0 rfl) ?_
        refine va_get (D := D) (ci := 6) (v := .ref a_mo) (C := RX6) (T := TX6) (N := 17) hx hb hts hin6 hown hK.1 hP 0 rfl rfl 2 (by decide) (k_1) (fun _ h9 => h9) rfl dX6_lay_35 ?_
        refine lv_iconst (v := 0) hx hb dX6_lay_38 (by decide) ?_
        refine z_iald (k := 0) hx hb hK.1 hP 2 rfl (by decide) vi_0_16 dX6_lay_39 ?_
        exact hret (mo_8 0) (mo_8, md_2, mb_3, ms_9, mk_10, mq_11, mz_12, ma_4) _ _ _ ls h hP hD hS dX6_lay_40
      · have h := h.1 c_7
        refine lv_bipush (v := -2) hx hb dX6_lay_27 (by decide) ?_
        exact hret (-2 : Int32) (mo, md_2, mb_3, ms, mk, mq, mz, ma_4) _ _ _ ls h hP hD hS dX6_lay_29

/-! DoubtCourtModel.heeded -/
abbrev rmX6_heeded : Room := { frames := 0, cells := 0, slots := 0, locals := 0 }
theorem yoX6_heeded : yX6_heeded.cls ≠ "java/lang/invoke/MethodHandle" ∧ yX6_heeded.cls ≠ "java/lang/invoke/VarHandle" ∧ (parseMethodDescriptor yX6_heeded.desc).map (fun d => d.parameters.length) = some 1 := by decide +kernel
set_option maxHeartbeats 4000000 in
set_option maxRecDepth 100000 in
theorem c_X6_heeded (l : Launch) (D : va_G) (cI cC cQ : ClassId) (h6 : Nat) (a_mt : Nat) (a_mo : Nat) (a_md : Nat) (a_mb : Nat) (a_ms : Nat) (a_mp : Nat) (a_mi : Nat) (a_mn : Nat) (a_mh : Nat) (a_mg : Nat) (a_mr : Nat) (a_mx : Nat) (mt : Nat → Int32) (my : Int32) (mo : Nat → Int32) (md : Nat → Int32) (mb : Nat → Int32) (ms : Nat → Int32) (mp : Nat → Int32) (mk : Int32) (mi : Nat → Int32) (mq : Int32) (mn : Nat → Int32) (mz : Int32) (ma : Int32) (mh : Nat → Int32) (mg : Nat → Int32) (mr : Nat → Int32) (mx : Nat → Int32) (x1 : Int32) (Q : Int32 → Prop) (h : wX6_heeded x1 mo Q) : Ci (S := Unit) l D cI cC cQ yX6_heeded wsX6_heeded rmX6_heeded [.ref h6, .int x1] [(h6, .inr (6, [.ref a_mt, .int my, .ref a_mo, .ref a_md, .ref a_mb, .ref a_ms, .ref a_mp, .int mk, .ref a_mi, .int mq, .ref a_mn, .int mz, .int ma, .ref a_mh, .ref a_mg, .ref a_mr, .ref a_mx])), (a_mt, .inl (cI, 200, .inl mt)), (a_mo, .inl (cI, 16, .inl mo)), (a_md, .inl (cI, 16, .inl md)), (a_mb, .inl (cI, 56, .inl mb)), (a_ms, .inl (cI, 56, .inl ms)), (a_mp, .inl (cI, 448, .inl mp)), (a_mi, .inl (cI, 112, .inl mi)), (a_mn, .inl (cI, 12, .inl mn)), (a_mh, .inl (cI, 42, .inl mh)), (a_mg, .inl (cI, 56, .inl mg)), (a_mr, .inl (cI, 6, .inl mr)), (a_mx, .inl (cI, 6, .inl mx))] (fun _ => [(h6, .inr (6, [.ref a_mt, .int my, .ref a_mo, .ref a_md, .ref a_mb, .ref a_ms, .ref a_mp, .int mk, .ref a_mi, .int mq, .ref a_mn, .int mz, .int ma, .ref a_mh, .ref a_mg, .ref a_mr, .ref a_mx])), (a_mt, .inl (cI, 200, .inl mt)), (a_mo, .inl (cI, 16, .inl mo)), (a_md, .inl (cI, 16, .inl md)), (a_mb, .inl (cI, 56, .inl mb)), (a_ms, .inl (cI, 56, .inl ms)), (a_mp, .inl (cI, 448, .inl mp)), (a_mi, .inl (cI, 112, .inl mi)), (a_mn, .inl (cI, 12, .inl mn)), (a_mh, .inl (cI, 42, .inl mh)), (a_mg, .inl (cI, 56, .inl mg)), (a_mr, .inl (cI, 6, .inl mr)), (a_mx, .inl (cI, 6, .inl mx))]) (fun r _ => Q r) := by
  refine Ci_mk (cc := cX6_heeded) (maxL := 3) (by decide) rfl (Nat.le_of_ble_eq_true rfl) ?_
  intro p e s m args below meth c A Z ls hx hb hml hown hts hK hA hP hD hret hl
  have hS : va_S A s.heap s.heap [] := va_S.rf
  have hin6 : ∀ w ∈ u_ws RX6 TX6 17, w ∈ wsX6_heeded := by decide +kernel
  have k_0 := hts (.fieldLink RX6 13 "DoubtCourtModel" "told" "[I") (by decide +kernel)
  have hl : lv_has ls 3 [(0, .ref h6), (1, .int x1)] := hl
  refine lv_aload_n hx hb dX6_heeded_0 rfl (lv_at hl 0 rfl) ?_
  refine va_get (D := D) (ci := 6) (v := .ref a_mo) (C := RX6) (T := TX6) (N := 17) hx hb hts hin6 hown hK.1 hP 0 rfl rfl 2 (by decide) (k_0) (fun _ h9 => h9) rfl dX6_heeded_1 ?_
  refine lv_bipush (v := 9) hx hb dX6_heeded_4 (by decide) ?_
  refine lv_iload_n hx hb dX6_heeded_6 rfl (lv_at hl 1 rfl) ?_
  refine lv_iadd hx hb dX6_heeded_7 ?_
  refine z_iald (k := ((9 : Int32) + x1).toNatClampNeg) hx hb hK.1 hP 2 rfl rfl h.1 dX6_heeded_8 ?_
  have h := h.2
  refine lv_topi (fun v_1 ev_1 => ?_)
  have h := h v_1 ev_1
  refine lv_istore_n (lv' := [(2, .int v_1), (0, .ref h6), (1, .int x1)]) hx hb dX6_heeded_9 rfl hl (by decide) rfl (fun ls hl => ?_)
  refine lv_iload_n hx hb dX6_heeded_10 rfl (lv_at hl 0 rfl) ?_
  refine lv_aload_n hx hb dX6_heeded_11 rfl (lv_at hl 1 rfl) ?_
  refine va_get (D := D) (ci := 6) (v := .ref a_mo) (C := RX6) (T := TX6) (N := 17) hx hb hts hin6 hown hK.1 hP 0 rfl rfl 2 (by decide) (k_0) (fun _ h9 => h9) rfl dX6_heeded_12 ?_
  refine lv_iconst (v := 0) hx hb dX6_heeded_15 (by decide) ?_
  refine z_iald (k := 0) hx hb hK.1 hP 2 rfl (by decide) vi_0_16 dX6_heeded_16 ?_
  refine lv_icmp_ge (tgt := 25) hx hb dX6_heeded_17 (by decide) (fun c_2 => ?_) (fun c_2 => ?_)
  · have h := h.1 c_2
    refine lv_bipush (v := -4) hx hb dX6_heeded_25 (by decide) ?_
    refine lv_goto (tgt := 31) hx hb dX6_heeded_27 (by decide) ?_
    exact hret (-4 : Int32) () _ _ _ ls h hP hD hS dX6_heeded_31
  · have h := h.2 c_2
    refine lv_iload_n hx hb dX6_heeded_20 rfl (lv_at hl 0 rfl) ?_
    refine lv_iload_n hx hb dX6_heeded_21 rfl (lv_at hl 2 rfl) ?_
    refine lv_icmp_ne (tgt := 30) hx hb dX6_heeded_22 (by decide) (fun c_3 => ?_) (fun c_3 => ?_)
    · have h := h.2 c_3
      refine lv_iload_n hx hb dX6_heeded_30 rfl (lv_at hl 0 rfl) ?_
      exact hret v_1 () _ _ _ ls h hP hD hS dX6_heeded_31
    · have h := h.1 c_3
      refine lv_bipush (v := -4) hx hb dX6_heeded_25 (by decide) ?_
      refine lv_goto (tgt := 31) hx hb dX6_heeded_27 (by decide) ?_
      exact hret (-4 : Int32) () _ _ _ ls h hP hD hS dX6_heeded_31

/-! DoubtCourtModel.doubts -/
abbrev rmX6_doubts : Room := { frames := 0, cells := 0, slots := 0, locals := 0 }
theorem yoX6_doubts : yX6_doubts.cls ≠ "java/lang/invoke/MethodHandle" ∧ yX6_doubts.cls ≠ "java/lang/invoke/VarHandle" ∧ (parseMethodDescriptor yX6_doubts.desc).map (fun d => d.parameters.length) = some 2 := by decide +kernel
set_option maxHeartbeats 4000000 in
set_option maxRecDepth 100000 in
theorem c_X6_doubts (l : Launch) (D : va_G) (cI cC cQ : ClassId) (h6 : Nat) (a_mt : Nat) (a_mo : Nat) (a_md : Nat) (a_mb : Nat) (a_ms : Nat) (a_mp : Nat) (a_mi : Nat) (a_mn : Nat) (a_mh : Nat) (a_mg : Nat) (a_mr : Nat) (a_mx : Nat) (mt : Nat → Int32) (my : Int32) (mo : Nat → Int32) (md : Nat → Int32) (mb : Nat → Int32) (ms : Nat → Int32) (mp : Nat → Int32) (mk : Int32) (mi : Nat → Int32) (mq : Int32) (mn : Nat → Int32) (mz : Int32) (ma : Int32) (mh : Nat → Int32) (mg : Nat → Int32) (mr : Nat → Int32) (mx : Nat → Int32) (x1 : Int32) (x2 : Int32) (Q : Int32 → Prop) (h : wX6_doubts x1 x2 ms Q) : Ci (S := Unit) l D cI cC cQ yX6_doubts wsX6_doubts rmX6_doubts [.ref h6, .int x1, .int x2] [(h6, .inr (6, [.ref a_mt, .int my, .ref a_mo, .ref a_md, .ref a_mb, .ref a_ms, .ref a_mp, .int mk, .ref a_mi, .int mq, .ref a_mn, .int mz, .int ma, .ref a_mh, .ref a_mg, .ref a_mr, .ref a_mx])), (a_mt, .inl (cI, 200, .inl mt)), (a_mo, .inl (cI, 16, .inl mo)), (a_md, .inl (cI, 16, .inl md)), (a_mb, .inl (cI, 56, .inl mb)), (a_ms, .inl (cI, 56, .inl ms)), (a_mp, .inl (cI, 448, .inl mp)), (a_mi, .inl (cI, 112, .inl mi)), (a_mn, .inl (cI, 12, .inl mn)), (a_mh, .inl (cI, 42, .inl mh)), (a_mg, .inl (cI, 56, .inl mg)), (a_mr, .inl (cI, 6, .inl mr)), (a_mx, .inl (cI, 6, .inl mx))] (fun _ => [(h6, .inr (6, [.ref a_mt, .int my, .ref a_mo, .ref a_md, .ref a_mb, .ref a_ms, .ref a_mp, .int mk, .ref a_mi, .int mq, .ref a_mn, .int mz, .int ma, .ref a_mh, .ref a_mg, .ref a_mr, .ref a_mx])), (a_mt, .inl (cI, 200, .inl mt)), (a_mo, .inl (cI, 16, .inl mo)), (a_md, .inl (cI, 16, .inl md)), (a_mb, .inl (cI, 56, .inl mb)), (a_ms, .inl (cI, 56, .inl ms)), (a_mp, .inl (cI, 448, .inl mp)), (a_mi, .inl (cI, 112, .inl mi)), (a_mn, .inl (cI, 12, .inl mn)), (a_mh, .inl (cI, 42, .inl mh)), (a_mg, .inl (cI, 56, .inl mg)), (a_mr, .inl (cI, 6, .inl mr)), (a_mx, .inl (cI, 6, .inl mx))]) (fun r _ => (r = 0 ∨ r = 1) ∧ Q r) := by
  refine Cz_mk (cc := cX6_doubts) (maxL := 3) (by decide) rfl (Nat.le_of_ble_eq_true rfl) ?_
  intro p e s m args below meth c A Z ls hx hb hml hown hts hK hA hP hD hret hl
  have hS : va_S A s.heap s.heap [] := va_S.rf
  have hin6 : ∀ w ∈ u_ws RX6 TX6 17, w ∈ wsX6_doubts := by decide +kernel
  have k_0 := hts (.fieldLink RX6 22 "DoubtCourtModel" "s" "[I") (by decide +kernel)
  have hl : lv_has ls 3 [(0, .ref h6), (1, .int x1), (2, .int x2)] := hl
  refine lv_aload_n hx hb dX6_doubts_0 rfl (lv_at hl 0 rfl) ?_
  refine va_get (D := D) (ci := 6) (v := .ref a_ms) (C := RX6) (T := TX6) (N := 17) hx hb hts hin6 hown hK.1 hP 0 rfl rfl 5 (by decide) (k_0) (fun _ h9 => h9) rfl dX6_doubts_1 ?_
  refine lv_bipush (v := 14) hx hb dX6_doubts_4 (by decide) ?_
  refine lv_bipush (v := 7) hx hb dX6_doubts_6 (by decide) ?_
  refine lv_iload_n hx hb dX6_doubts_8 rfl (lv_at hl 2 rfl) ?_
  refine lv_imul hx hb dX6_doubts_9 ?_
  refine lv_iadd hx hb dX6_doubts_10 ?_
  refine lv_iload_n hx hb dX6_doubts_11 rfl (lv_at hl 1 rfl) ?_
  refine lv_iadd hx hb dX6_doubts_12 ?_
  refine z_iald (k := (((14 : Int32) + ((7 : Int32) * x2)) + x1).toNatClampNeg) hx hb hK.1 hP 5 rfl rfl h.1 dX6_doubts_13 ?_
  have h := h.2
  refine lv_iconst (v := 4) hx hb dX6_doubts_14 (by decide) ?_
  refine lv_icmp_gt (tgt := 22) hx hb dX6_doubts_15 (by decide) (fun c_1 => ?_) (fun c_1 => ?_)
  · have h := h.1 c_1
    refine lv_iconst (v := 0) hx hb dX6_doubts_22 (by decide) ?_
    exact hret (0 : Int32) () _ _ _ ls (by decide) h hP hD hS dX6_doubts_23
  · have h := h.2 c_1
    refine lv_iconst (v := 1) hx hb dX6_doubts_18 (by decide) ?_
    refine lv_goto (tgt := 23) hx hb dX6_doubts_19 (by decide) ?_
    exact hret (1 : Int32) () _ _ _ ls (by decide) h hP hD hS dX6_doubts_23

/-! DoubtCourtModel.doubters -/
abbrev rmX6_doubters : Room := { frames := 1, cells := 0, slots := 0, locals := 22 }
theorem yoX6_doubters : yX6_doubters.cls ≠ "java/lang/invoke/MethodHandle" ∧ yX6_doubters.cls ≠ "java/lang/invoke/VarHandle" ∧ (parseMethodDescriptor yX6_doubters.desc).map (fun d => d.parameters.length) = some 1 := by decide +kernel
set_option maxHeartbeats 4000000 in
set_option maxRecDepth 100000 in
theorem c_X6_doubters (l : Launch) (D : va_G) (cI cC cQ : ClassId) (h6 : Nat) (a_mt : Nat) (a_mo : Nat) (a_md : Nat) (a_mb : Nat) (a_ms : Nat) (a_mp : Nat) (a_mi : Nat) (a_mn : Nat) (a_mh : Nat) (a_mg : Nat) (a_mr : Nat) (a_mx : Nat) (mt : Nat → Int32) (my : Int32) (mo : Nat → Int32) (md : Nat → Int32) (mb : Nat → Int32) (ms : Nat → Int32) (mp : Nat → Int32) (mk : Int32) (mi : Nat → Int32) (mq : Int32) (mn : Nat → Int32) (mz : Int32) (ma : Int32) (mh : Nat → Int32) (mg : Nat → Int32) (mr : Nat → Int32) (mx : Nat → Int32) (x1 : Int32) (Q : Int32 → Prop) (h : wX6_doubters x1 mo ms Q) : Ci (S := Unit) l D cI cC cQ yX6_doubters wsX6_doubters rmX6_doubters [.ref h6, .int x1] [(h6, .inr (6, [.ref a_mt, .int my, .ref a_mo, .ref a_md, .ref a_mb, .ref a_ms, .ref a_mp, .int mk, .ref a_mi, .int mq, .ref a_mn, .int mz, .int ma, .ref a_mh, .ref a_mg, .ref a_mr, .ref a_mx])), (a_mt, .inl (cI, 200, .inl mt)), (a_mo, .inl (cI, 16, .inl mo)), (a_md, .inl (cI, 16, .inl md)), (a_mb, .inl (cI, 56, .inl mb)), (a_ms, .inl (cI, 56, .inl ms)), (a_mp, .inl (cI, 448, .inl mp)), (a_mi, .inl (cI, 112, .inl mi)), (a_mn, .inl (cI, 12, .inl mn)), (a_mh, .inl (cI, 42, .inl mh)), (a_mg, .inl (cI, 56, .inl mg)), (a_mr, .inl (cI, 6, .inl mr)), (a_mx, .inl (cI, 6, .inl mx))] (fun _ => [(h6, .inr (6, [.ref a_mt, .int my, .ref a_mo, .ref a_md, .ref a_mb, .ref a_ms, .ref a_mp, .int mk, .ref a_mi, .int mq, .ref a_mn, .int mz, .int ma, .ref a_mh, .ref a_mg, .ref a_mr, .ref a_mx])), (a_mt, .inl (cI, 200, .inl mt)), (a_mo, .inl (cI, 16, .inl mo)), (a_md, .inl (cI, 16, .inl md)), (a_mb, .inl (cI, 56, .inl mb)), (a_ms, .inl (cI, 56, .inl ms)), (a_mp, .inl (cI, 448, .inl mp)), (a_mi, .inl (cI, 112, .inl mi)), (a_mn, .inl (cI, 12, .inl mn)), (a_mh, .inl (cI, 42, .inl mh)), (a_mg, .inl (cI, 56, .inl mg)), (a_mr, .inl (cI, 6, .inl mr)), (a_mx, .inl (cI, 6, .inl mx))]) (fun r _ => Q r) := by
  refine Ci_mk (cc := cX6_doubters) (maxL := 4) (by decide) rfl (Nat.le_of_ble_eq_true rfl) ?_
  intro p e s m args below meth c A Z ls hx hb hml hown hts hK hA hP hD hret hl
  have hS : va_S A s.heap s.heap [] := va_S.rf
  have hin6 : ∀ w ∈ u_ws RX6 TX6 17, w ∈ wsX6_doubters := by decide +kernel
  have k_0 := hts (.fieldLink RX6 13 "DoubtCourtModel" "told" "[I") (by decide +kernel)
  have hl : lv_has ls 4 [(0, .ref h6), (1, .int x1)] := hl
  have L4 : ∀ (n : Nat) {x1 : Int32} {x2 : Int32} {x3 : Int32} {H : Heap} {locs : List Loc} {ls : Array Slot}, wX6_doubters_L4 x1 mo ms Q n x2 x3 → va_P D vwCl [(h6, .inr (6, [.ref a_mt, .int my, .ref a_mo, .ref a_md, .ref a_mb, .ref a_ms, .ref a_mp, .int mk, .ref a_mi, .int mq, .ref a_mn, .int mz, .int ma, .ref a_mh, .ref a_mg, .ref a_mr, .ref a_mx])), (a_mt, .inl (cI, 200, .inl mt)), (a_mo, .inl (cI, 16, .inl mo)), (a_md, .inl (cI, 16, .inl md)), (a_mb, .inl (cI, 56, .inl mb)), (a_ms, .inl (cI, 56, .inl ms)), (a_mp, .inl (cI, 448, .inl mp)), (a_mi, .inl (cI, 112, .inl mi)), (a_mn, .inl (cI, 12, .inl mn)), (a_mh, .inl (cI, 42, .inl mh)), (a_mg, .inl (cI, 56, .inl mg)), (a_mr, .inl (cI, 6, .inl mr)), (a_mx, .inl (cI, 6, .inl mx))] H → va_D A [(h6, .inr (6, [.ref a_mt, .int my, .ref a_mo, .ref a_md, .ref a_mb, .ref a_ms, .ref a_mp, .int mk, .ref a_mi, .int mq, .ref a_mn, .int mz, .int ma, .ref a_mh, .ref a_mg, .ref a_mr, .ref a_mx])), (a_mt, .inl (cI, 200, .inl mt)), (a_mo, .inl (cI, 16, .inl mo)), (a_md, .inl (cI, 16, .inl md)), (a_mb, .inl (cI, 56, .inl mb)), (a_ms, .inl (cI, 56, .inl ms)), (a_mp, .inl (cI, 448, .inl mp)), (a_mi, .inl (cI, 112, .inl mi)), (a_mn, .inl (cI, 12, .inl mn)), (a_mh, .inl (cI, 42, .inl mh)), (a_mg, .inl (cI, 56, .inl mg)), (a_mr, .inl (cI, 6, .inl mr)), (a_mx, .inl (cI, 6, .inl mx))] → va_S A s.heap H locs → lv_has ls 4 [(0, .ref h6), (1, .int x1), (2, .int x2), (3, .int x3)] → W p l e rmX6_doubters s m args below meth c H locs 0 0 Z (F0 m 4 ls []) := by
    intro n
    induction n with
    | zero =>
      intro x1 x2 x3 H locs ls h hP hD hS hl
      exact (show False from h).elim
    | succ n ih =>
      intro x1 x2 x3 H locs ls h hP hD hS hl
      refine lv_iload_n hx hb dX6_doubters_4 rfl (lv_at hl 3 rfl) ?_
      refine lv_aload_n hx hb dX6_doubters_5 rfl (lv_at hl 0 rfl) ?_
      refine va_get (D := D) (ci := 6) (v := .ref a_mo) (C := RX6) (T := TX6) (N := 17) hx hb hts hin6 hown hK.1 hP 0 rfl rfl 2 (by decide) (k_0) (fun _ h9 => h9) rfl dX6_doubters_6 ?_
      refine lv_iconst (v := 0) hx hb dX6_doubters_9 (by decide) ?_
      refine z_iald (k := 0) hx hb hK.1 hP 2 rfl (by decide) vi_0_16 dX6_doubters_10 ?_
      refine lv_icmp_ge (tgt := 39) hx hb dX6_doubters_11 (by decide) (fun c_7 => ?_) (fun c_7 => ?_)
      · have h := h.1 c_7
        refine lv_iload_n hx hb dX6_doubters_39 rfl (lv_at hl 2 rfl) ?_
        exact hret x2 () _ _ _ ls h hP hD hS dX6_doubters_40
      · have h := h.2 c_7
        refine lv_iload_n hx hb dX6_doubters_14 rfl (lv_at hl 2 rfl) ?_
        refine lv_aload_n hx hb dX6_doubters_15 rfl (lv_at hl 0 rfl) ?_
        refine lv_iload_n hx hb dX6_doubters_16 rfl (lv_at hl 3 rfl) ?_
        refine lv_iload_n hx hb dX6_doubters_17 rfl (lv_at hl 1 rfl) ?_
        refine k0V_i (As := [.int x3, .int x1]) (n := 2) ⟨hx, hb, hml, hown, hts⟩ hK hP hD hS hA (c_X6_doubts l D cI cC cQ h6 a_mt a_mo a_md a_mb a_ms a_mp a_mi a_mn a_mh a_mg a_mr a_mx mt my mo md mb ms mp mk mi mq mn mz ma mh mg mr mx x3 x1 _ h) gX6_doubters_X6_doubts rfl rfl ⟨rfl, rfl⟩ yoX6_doubts ⟨Nat.le_of_ble_eq_true rfl, Nat.le_of_ble_eq_true rfl⟩ (q0 := 0) (ci := 6) rfl rfl rfl rfl hl.1 rfl (Nat.le_of_ble_eq_true rfl) dX6_doubters_18 ⟨Nat.zero_le _, Nat.zero_le _⟩ (fun r_8 u H locs h hP hD hS => ?_)
        obtain ⟨b_9, h⟩ := h
        refine lv_if_eq (tgt := 30) hx hb dX6_doubters_21 (by decide) (fun c_10 => ?_) (fun c_10 => ?_)
        · have h := h.1 c_10
          refine lv_iconst (v := 0) hx hb dX6_doubters_30 (by decide) ?_
          refine lv_ior hx hb dX6_doubters_31 ?_
          refine lv_topi (fun v_11 ev_11 => ?_)
          have h := h v_11 ev_11
          refine lv_istore_n (lv' := [(2, .int v_11), (0, .ref h6), (1, .int x1), (3, .int x3)]) hx hb dX6_doubters_32 rfl hl (by decide) rfl (fun ls hl => ?_)
          refine lv_iinc (v := (x3 + (1 : Int32))) (lv' := [(3, .int (x3 + (1 : Int32))), (2, .int v_11), (0, .ref h6), (1, .int x1)]) hx hb dX6_doubters_33 hl (k := 3) rfl rfl (by decide) rfl (fun ls hl => ?_)
          refine lv_goto (tgt := 4) hx hb dX6_doubters_36 (by decide) ?_
          exact ih h hP hD hS (lv_sub hl [2, 3, 1, 0] rfl)
        · have h := h.2 c_10
          refine lv_iconst (v := 1) hx hb dX6_doubters_24 (by decide) ?_
          refine lv_iload_n hx hb dX6_doubters_25 rfl (lv_at hl 3 rfl) ?_
          refine lv_ishl hx hb dX6_doubters_26 ?_
          refine lv_goto (tgt := 31) hx hb dX6_doubters_27 (by decide) ?_
          refine lv_ior hx hb dX6_doubters_31 ?_
          refine lv_topi (fun v_12 ev_12 => ?_)
          have h := h v_12 ev_12
          refine lv_istore_n (lv' := [(2, .int v_12), (0, .ref h6), (1, .int x1), (3, .int x3)]) hx hb dX6_doubters_32 rfl hl (by decide) rfl (fun ls hl => ?_)
          refine lv_iinc (v := (x3 + (1 : Int32))) (lv' := [(3, .int (x3 + (1 : Int32))), (2, .int v_12), (0, .ref h6), (1, .int x1)]) hx hb dX6_doubters_33 hl (k := 3) rfl rfl (by decide) rfl (fun ls hl => ?_)
          refine lv_goto (tgt := 4) hx hb dX6_doubters_36 (by decide) ?_
          exact ih h hP hD hS (lv_sub hl [2, 3, 1, 0] rfl)
  refine lv_iconst (v := 0) hx hb dX6_doubters_0 (by decide) ?_
  refine lv_istore_n (lv' := [(2, .int (0 : Int32)), (0, .ref h6), (1, .int x1)]) hx hb dX6_doubters_1 rfl hl (by decide) rfl (fun ls hl => ?_)
  refine lv_iconst (v := 0) hx hb dX6_doubters_2 (by decide) ?_
  refine lv_istore_n (lv' := [(3, .int (0 : Int32)), (2, .int (0 : Int32)), (0, .ref h6), (1, .int x1)]) hx hb dX6_doubters_3 rfl hl (by decide) rfl (fun ls hl => ?_)
  obtain ⟨n_13, h⟩ := h
  exact L4 n_13 h hP hD hS (lv_sub hl [2, 3, 1, 0] rfl)

/-! DoubtCourtModel.courtier -/
abbrev rmX6_courtier : Room := { frames := 2, cells := 0, slots := 0, locals := 43 }
theorem yoX6_courtier : yX6_courtier.cls ≠ "java/lang/invoke/MethodHandle" ∧ yX6_courtier.cls ≠ "java/lang/invoke/VarHandle" ∧ (parseMethodDescriptor yX6_courtier.desc).map (fun d => d.parameters.length) = some 2 := by decide +kernel
set_option maxHeartbeats 4000000 in
set_option maxRecDepth 100000 in
theorem c_X6_courtier (l : Launch) (D : va_G) (cI cC cQ : ClassId) (h6 : Nat) (a_mt : Nat) (a_mo : Nat) (a_md : Nat) (a_mb : Nat) (a_ms : Nat) (a_mp : Nat) (a_mi : Nat) (a_mn : Nat) (a_mh : Nat) (a_mg : Nat) (a_mr : Nat) (a_mx : Nat) (mt : Nat → Int32) (my : Int32) (mo : Nat → Int32) (md : Nat → Int32) (mb : Nat → Int32) (ms : Nat → Int32) (mp : Nat → Int32) (mk : Int32) (mi : Nat → Int32) (mq : Int32) (mn : Nat → Int32) (mz : Int32) (ma : Int32) (mh : Nat → Int32) (mg : Nat → Int32) (mr : Nat → Int32) (mx : Nat → Int32) (x1 : Int32) (x2 : Int32) (Q : Int32 → Prop) (h : wX6_courtier x1 x2 mo ms Q) : Ci (S := Unit) l D cI cC cQ yX6_courtier wsX6_courtier rmX6_courtier [.ref h6, .int x1, .int x2] [(h6, .inr (6, [.ref a_mt, .int my, .ref a_mo, .ref a_md, .ref a_mb, .ref a_ms, .ref a_mp, .int mk, .ref a_mi, .int mq, .ref a_mn, .int mz, .int ma, .ref a_mh, .ref a_mg, .ref a_mr, .ref a_mx])), (a_mt, .inl (cI, 200, .inl mt)), (a_mo, .inl (cI, 16, .inl mo)), (a_md, .inl (cI, 16, .inl md)), (a_mb, .inl (cI, 56, .inl mb)), (a_ms, .inl (cI, 56, .inl ms)), (a_mp, .inl (cI, 448, .inl mp)), (a_mi, .inl (cI, 112, .inl mi)), (a_mn, .inl (cI, 12, .inl mn)), (a_mh, .inl (cI, 42, .inl mh)), (a_mg, .inl (cI, 56, .inl mg)), (a_mr, .inl (cI, 6, .inl mr)), (a_mx, .inl (cI, 6, .inl mx))] (fun _ => [(h6, .inr (6, [.ref a_mt, .int my, .ref a_mo, .ref a_md, .ref a_mb, .ref a_ms, .ref a_mp, .int mk, .ref a_mi, .int mq, .ref a_mn, .int mz, .int ma, .ref a_mh, .ref a_mg, .ref a_mr, .ref a_mx])), (a_mt, .inl (cI, 200, .inl mt)), (a_mo, .inl (cI, 16, .inl mo)), (a_md, .inl (cI, 16, .inl md)), (a_mb, .inl (cI, 56, .inl mb)), (a_ms, .inl (cI, 56, .inl ms)), (a_mp, .inl (cI, 448, .inl mp)), (a_mi, .inl (cI, 112, .inl mi)), (a_mn, .inl (cI, 12, .inl mn)), (a_mh, .inl (cI, 42, .inl mh)), (a_mg, .inl (cI, 56, .inl mg)), (a_mr, .inl (cI, 6, .inl mr)), (a_mx, .inl (cI, 6, .inl mx))]) (fun r _ => Q r) := by
  refine Ci_mk (cc := cX6_courtier) (maxL := 6) (by decide) rfl (Nat.le_of_ble_eq_true rfl) ?_
  intro p e s m args below meth c A Z ls hx hb hml hown hts hK hA hP hD hret hl
  have hS : va_S A s.heap s.heap [] := va_S.rf
  have hin6 : ∀ w ∈ u_ws RX6 TX6 17, w ∈ wsX6_courtier := by decide +kernel
  have k_0 := hts (.fieldLink RX6 13 "DoubtCourtModel" "told" "[I") (by decide +kernel)
  have k_1 := hts (.fieldLink RX6 22 "DoubtCourtModel" "s" "[I") (by decide +kernel)
  have hl : lv_has ls 6 [(0, .ref h6), (1, .int x1), (2, .int x2)] := hl
  have L27 : ∀ {K92 : Int32 → Int32 → Prop} (n : Nat) {x1 : Int32} {x2 : Int32} {x3 : Int32} {x4 : Int32} {x5 : Int32} {H : Heap} {locs : List Loc} {ls : Array Slot}, wX6_courtier_L27 x1 mo ms K92 n x3 x4 x5 → va_P D vwCl [(h6, .inr (6, [.ref a_mt, .int my, .ref a_mo, .ref a_md, .ref a_mb, .ref a_ms, .ref a_mp, .int mk, .ref a_mi, .int mq, .ref a_mn, .int mz, .int ma, .ref a_mh, .ref a_mg, .ref a_mr, .ref a_mx])), (a_mt, .inl (cI, 200, .inl mt)), (a_mo, .inl (cI, 16, .inl mo)), (a_md, .inl (cI, 16, .inl md)), (a_mb, .inl (cI, 56, .inl mb)), (a_ms, .inl (cI, 56, .inl ms)), (a_mp, .inl (cI, 448, .inl mp)), (a_mi, .inl (cI, 112, .inl mi)), (a_mn, .inl (cI, 12, .inl mn)), (a_mh, .inl (cI, 42, .inl mh)), (a_mg, .inl (cI, 56, .inl mg)), (a_mr, .inl (cI, 6, .inl mr)), (a_mx, .inl (cI, 6, .inl mx))] H → va_D A [(h6, .inr (6, [.ref a_mt, .int my, .ref a_mo, .ref a_md, .ref a_mb, .ref a_ms, .ref a_mp, .int mk, .ref a_mi, .int mq, .ref a_mn, .int mz, .int ma, .ref a_mh, .ref a_mg, .ref a_mr, .ref a_mx])), (a_mt, .inl (cI, 200, .inl mt)), (a_mo, .inl (cI, 16, .inl mo)), (a_md, .inl (cI, 16, .inl md)), (a_mb, .inl (cI, 56, .inl mb)), (a_ms, .inl (cI, 56, .inl ms)), (a_mp, .inl (cI, 448, .inl mp)), (a_mi, .inl (cI, 112, .inl mi)), (a_mn, .inl (cI, 12, .inl mn)), (a_mh, .inl (cI, 42, .inl mh)), (a_mg, .inl (cI, 56, .inl mg)), (a_mr, .inl (cI, 6, .inl mr)), (a_mx, .inl (cI, 6, .inl mx))] → va_S A s.heap H locs → lv_has ls 6 [(0, .ref h6), (1, .int x1), (2, .int x2), (3, .int x3), (4, .int x4), (5, .int x5)] → (∀ (x3 : Int32) (x4 : Int32) (H : Heap) (locs : List Loc) (ls : Array Slot), K92 x3 x4 → va_P D vwCl [(h6, .inr (6, [.ref a_mt, .int my, .ref a_mo, .ref a_md, .ref a_mb, .ref a_ms, .ref a_mp, .int mk, .ref a_mi, .int mq, .ref a_mn, .int mz, .int ma, .ref a_mh, .ref a_mg, .ref a_mr, .ref a_mx])), (a_mt, .inl (cI, 200, .inl mt)), (a_mo, .inl (cI, 16, .inl mo)), (a_md, .inl (cI, 16, .inl md)), (a_mb, .inl (cI, 56, .inl mb)), (a_ms, .inl (cI, 56, .inl ms)), (a_mp, .inl (cI, 448, .inl mp)), (a_mi, .inl (cI, 112, .inl mi)), (a_mn, .inl (cI, 12, .inl mn)), (a_mh, .inl (cI, 42, .inl mh)), (a_mg, .inl (cI, 56, .inl mg)), (a_mr, .inl (cI, 6, .inl mr)), (a_mx, .inl (cI, 6, .inl mx))] H → va_D A [(h6, .inr (6, [.ref a_mt, .int my, .ref a_mo, .ref a_md, .ref a_mb, .ref a_ms, .ref a_mp, .int mk, .ref a_mi, .int mq, .ref a_mn, .int mz, .int ma, .ref a_mh, .ref a_mg, .ref a_mr, .ref a_mx])), (a_mt, .inl (cI, 200, .inl mt)), (a_mo, .inl (cI, 16, .inl mo)), (a_md, .inl (cI, 16, .inl md)), (a_mb, .inl (cI, 56, .inl mb)), (a_ms, .inl (cI, 56, .inl ms)), (a_mp, .inl (cI, 448, .inl mp)), (a_mi, .inl (cI, 112, .inl mi)), (a_mn, .inl (cI, 12, .inl mn)), (a_mh, .inl (cI, 42, .inl mh)), (a_mg, .inl (cI, 56, .inl mg)), (a_mr, .inl (cI, 6, .inl mr)), (a_mx, .inl (cI, 6, .inl mx))] → va_S A s.heap H locs → lv_has ls 6 [(0, .ref h6), (1, .int x1), (2, .int x2), (3, .int x3), (4, .int x4)] → W p l e rmX6_courtier s m args below meth c H locs 0 0 Z (F0 m 92 ls [])) → W p l e rmX6_courtier s m args below meth c H locs 0 0 Z (F0 m 27 ls []) := by
    intro K92
    intro n
    induction n with
    | zero =>
      intro x1 x2 x3 x4 x5 H locs ls h hP hD hS hl hk92
      exact (show False from h).elim
    | succ n ih =>
      intro x1 x2 x3 x4 x5 H locs ls h hP hD hS hl hk92
      refine lv_iload hx hb dX6_courtier_27 (lv_at hl 5 rfl) ?_
      refine lv_aload_n hx hb dX6_courtier_29 rfl (lv_at hl 0 rfl) ?_
      refine va_get (D := D) (ci := 6) (v := .ref a_mo) (C := RX6) (T := TX6) (N := 17) hx hb hts hin6 hown hK.1 hP 0 rfl rfl 2 (by decide) (k_0) (fun _ h9 => h9) rfl dX6_courtier_30 ?_
      refine lv_iconst (v := 1) hx hb dX6_courtier_33 (by decide) ?_
      refine z_iald (k := 1) hx hb hK.1 hP 2 rfl (by decide) vi_1_16 dX6_courtier_34 ?_
      refine lv_icmp_ge (tgt := 92) hx hb dX6_courtier_35 (by decide) (fun c_21 => ?_) (fun c_21 => ?_)
      · have h := h.1 c_21
        exact hk92 x3 x4 _ _ _ h hP hD hS (lv_sub hl [0, 1, 2, 3, 4] rfl)
      · have h := h.2 c_21
        refine lv_iload_n hx hb dX6_courtier_38 rfl (lv_at hl 3 rfl) ?_
        refine lv_aload_n hx hb dX6_courtier_39 rfl (lv_at hl 0 rfl) ?_
        refine va_get (D := D) (ci := 6) (v := .ref a_ms) (C := RX6) (T := TX6) (N := 17) hx hb hts hin6 hown hK.1 hP 0 rfl rfl 5 (by decide) (k_1) (fun _ h9 => h9) rfl dX6_courtier_40 ?_
        refine lv_bipush (v := 8) hx hb dX6_courtier_43 (by decide) ?_
        refine lv_iload hx hb dX6_courtier_45 (lv_at hl 5 rfl) ?_
        refine lv_iadd hx hb dX6_courtier_47 ?_
        refine z_iald (k := ((8 : Int32) + x5).toNatClampNeg) hx hb hK.1 hP 5 rfl rfl h.1 dX6_courtier_48 ?_
        have h := h.2
        refine lv_iload_n hx hb dX6_courtier_49 rfl (lv_at hl 1 rfl) ?_
        refine lv_icmp_ne (tgt := 60) hx hb dX6_courtier_50 (by decide) (fun c_22 => ?_) (fun c_22 => ?_)
        · have h := h.2 c_22
          refine lv_iconst (v := 0) hx hb dX6_courtier_60 (by decide) ?_
          refine lv_ior hx hb dX6_courtier_61 ?_
          refine lv_topi (fun v_23 ev_23 => ?_)
          have h := h v_23 ev_23
          refine lv_istore_n (lv' := [(3, .int v_23), (0, .ref h6), (1, .int x1), (2, .int x2), (4, .int x4), (5, .int x5)]) hx hb dX6_courtier_62 rfl hl (by decide) rfl (fun ls hl => ?_)
          refine lv_iload hx hb dX6_courtier_63 (lv_at hl 4 rfl) ?_
          refine lv_aload_n hx hb dX6_courtier_65 rfl (lv_at hl 1 rfl) ?_
          refine lv_iload_n hx hb dX6_courtier_66 rfl (lv_at hl 2 rfl) ?_
          refine lv_iload hx hb dX6_courtier_67 (lv_at hl 5 rfl) ?_
          refine k0V_i (As := [.int x1, .int x5]) (n := 2) ⟨hx, hb, hml, hown, hts⟩ hK hP hD hS hA (c_X6_doubts l D cI cC cQ h6 a_mt a_mo a_md a_mb a_ms a_mp a_mi a_mn a_mh a_mg a_mr a_mx mt my mo md mb ms mp mk mi mq mn mz ma mh mg mr mx x1 x5 _ h) gX6_courtier_X6_doubts rfl rfl ⟨rfl, rfl⟩ yoX6_doubts ⟨Nat.le_of_ble_eq_true rfl, Nat.le_of_ble_eq_true rfl⟩ (q0 := 0) (ci := 6) rfl rfl rfl rfl hl.1 rfl (Nat.le_of_ble_eq_true rfl) dX6_courtier_69 ⟨Nat.zero_le _, Nat.zero_le _⟩ (fun r_24 u H locs h hP hD hS => ?_)
          obtain ⟨b_25, h⟩ := h
          refine lv_if_eq (tgt := 82) hx hb dX6_courtier_72 (by decide) (fun c_26 => ?_) (fun c_26 => ?_)
          · have h := h.1 c_26
            refine lv_iconst (v := 0) hx hb dX6_courtier_82 (by decide) ?_
            refine lv_ior hx hb dX6_courtier_83 ?_
            refine lv_topi (fun v_27 ev_27 => ?_)
            have h := h v_27 ev_27
            refine lv_istore (lv' := [(4, .int v_27), (3, .int v_23), (0, .ref h6), (1, .int x1), (2, .int x2), (5, .int x5)]) hx hb dX6_courtier_84 hl (by decide) rfl (fun ls hl => ?_)
            refine lv_iinc (v := (x5 + (1 : Int32))) (lv' := [(5, .int (x5 + (1 : Int32))), (4, .int v_27), (3, .int v_23), (0, .ref h6), (1, .int x1), (2, .int x2)]) hx hb dX6_courtier_86 hl (k := 5) rfl rfl (by decide) rfl (fun ls hl => ?_)
            refine lv_goto (tgt := 27) hx hb dX6_courtier_89 (by decide) ?_
            exact ih h hP hD hS (lv_sub hl [3, 4, 5, 2, 1, 0] rfl) hk92
          · have h := h.2 c_26
            refine lv_iconst (v := 1) hx hb dX6_courtier_75 (by decide) ?_
            refine lv_iload hx hb dX6_courtier_76 (lv_at hl 5 rfl) ?_
            refine lv_ishl hx hb dX6_courtier_78 ?_
            refine lv_goto (tgt := 83) hx hb dX6_courtier_79 (by decide) ?_
            refine lv_ior hx hb dX6_courtier_83 ?_
            refine lv_topi (fun v_28 ev_28 => ?_)
            have h := h v_28 ev_28
            refine lv_istore (lv' := [(4, .int v_28), (3, .int v_23), (0, .ref h6), (1, .int x1), (2, .int x2), (5, .int x5)]) hx hb dX6_courtier_84 hl (by decide) rfl (fun ls hl => ?_)
            refine lv_iinc (v := (x5 + (1 : Int32))) (lv' := [(5, .int (x5 + (1 : Int32))), (4, .int v_28), (3, .int v_23), (0, .ref h6), (1, .int x1), (2, .int x2)]) hx hb dX6_courtier_86 hl (k := 5) rfl rfl (by decide) rfl (fun ls hl => ?_)
            refine lv_goto (tgt := 27) hx hb dX6_courtier_89 (by decide) ?_
            exact ih h hP hD hS (lv_sub hl [3, 4, 5, 2, 1, 0] rfl) hk92
        · have h := h.1 c_22
          refine lv_iconst (v := 1) hx hb dX6_courtier_53 (by decide) ?_
          refine lv_iload hx hb dX6_courtier_54 (lv_at hl 5 rfl) ?_
          refine lv_ishl hx hb dX6_courtier_56 ?_
          refine lv_goto (tgt := 61) hx hb dX6_courtier_57 (by decide) ?_
          refine lv_ior hx hb dX6_courtier_61 ?_
          refine lv_topi (fun v_29 ev_29 => ?_)
          have h := h v_29 ev_29
          refine lv_istore_n (lv' := [(3, .int v_29), (0, .ref h6), (1, .int x1), (2, .int x2), (4, .int x4), (5, .int x5)]) hx hb dX6_courtier_62 rfl hl (by decide) rfl (fun ls hl => ?_)
          refine lv_iload hx hb dX6_courtier_63 (lv_at hl 4 rfl) ?_
          refine lv_aload_n hx hb dX6_courtier_65 rfl (lv_at hl 1 rfl) ?_
          refine lv_iload_n hx hb dX6_courtier_66 rfl (lv_at hl 2 rfl) ?_
          refine lv_iload hx hb dX6_courtier_67 (lv_at hl 5 rfl) ?_
          refine k0V_i (As := [.int x1, .int x5]) (n := 2) ⟨hx, hb, hml, hown, hts⟩ hK hP hD hS hA (c_X6_doubts l D cI cC cQ h6 a_mt a_mo a_md a_mb a_ms a_mp a_mi a_mn a_mh a_mg a_mr a_mx mt my mo md mb ms mp mk mi mq mn mz ma mh mg mr mx x1 x5 _ h) gX6_courtier_X6_doubts rfl rfl ⟨rfl, rfl⟩ yoX6_doubts ⟨Nat.le_of_ble_eq_true rfl, Nat.le_of_ble_eq_true rfl⟩ (q0 := 0) (ci := 6) rfl rfl rfl rfl hl.1 rfl (Nat.le_of_ble_eq_true rfl) dX6_courtier_69 ⟨Nat.zero_le _, Nat.zero_le _⟩ (fun r_30 u H locs h hP hD hS => ?_)
          obtain ⟨b_31, h⟩ := h
          refine lv_if_eq (tgt := 82) hx hb dX6_courtier_72 (by decide) (fun c_32 => ?_) (fun c_32 => ?_)
          · have h := h.1 c_32
            refine lv_iconst (v := 0) hx hb dX6_courtier_82 (by decide) ?_
            refine lv_ior hx hb dX6_courtier_83 ?_
            refine lv_topi (fun v_33 ev_33 => ?_)
            have h := h v_33 ev_33
            refine lv_istore (lv' := [(4, .int v_33), (3, .int v_29), (0, .ref h6), (1, .int x1), (2, .int x2), (5, .int x5)]) hx hb dX6_courtier_84 hl (by decide) rfl (fun ls hl => ?_)
            refine lv_iinc (v := (x5 + (1 : Int32))) (lv' := [(5, .int (x5 + (1 : Int32))), (4, .int v_33), (3, .int v_29), (0, .ref h6), (1, .int x1), (2, .int x2)]) hx hb dX6_courtier_86 hl (k := 5) rfl rfl (by decide) rfl (fun ls hl => ?_)
            refine lv_goto (tgt := 27) hx hb dX6_courtier_89 (by decide) ?_
            exact ih h hP hD hS (lv_sub hl [3, 4, 5, 2, 1, 0] rfl) hk92
          · have h := h.2 c_32
            refine lv_iconst (v := 1) hx hb dX6_courtier_75 (by decide) ?_
            refine lv_iload hx hb dX6_courtier_76 (lv_at hl 5 rfl) ?_
            refine lv_ishl hx hb dX6_courtier_78 ?_
            refine lv_goto (tgt := 83) hx hb dX6_courtier_79 (by decide) ?_
            refine lv_ior hx hb dX6_courtier_83 ?_
            refine lv_topi (fun v_34 ev_34 => ?_)
            have h := h v_34 ev_34
            refine lv_istore (lv' := [(4, .int v_34), (3, .int v_29), (0, .ref h6), (1, .int x1), (2, .int x2), (5, .int x5)]) hx hb dX6_courtier_84 hl (by decide) rfl (fun ls hl => ?_)
            refine lv_iinc (v := (x5 + (1 : Int32))) (lv' := [(5, .int (x5 + (1 : Int32))), (4, .int v_34), (3, .int v_29), (0, .ref h6), (1, .int x1), (2, .int x2)]) hx hb dX6_courtier_86 hl (k := 5) rfl rfl (by decide) rfl (fun ls hl => ?_)
            refine lv_goto (tgt := 27) hx hb dX6_courtier_89 (by decide) ?_
            exact ih h hP hD hS (lv_sub hl [3, 4, 5, 2, 1, 0] rfl) hk92
  refine lv_aload_n hx hb dX6_courtier_0 rfl (lv_at hl 0 rfl) ?_
  refine lv_iload_n hx hb dX6_courtier_1 rfl (lv_at hl 1 rfl) ?_
  refine k0V_i (As := [.int x1]) (n := 1) ⟨hx, hb, hml, hown, hts⟩ hK hP hD hS hA (c_X6_isCourtier l D cI cC cQ h6 a_mt a_mo a_md a_mb a_ms a_mp a_mi a_mn a_mh a_mg a_mr a_mx mt my mo md mb ms mp mk mi mq mn mz ma mh mg mr mx x1 _ h) gX6_courtier_X6_isCourtier rfl rfl ⟨rfl, rfl⟩ yoX6_isCourtier ⟨Nat.le_of_ble_eq_true rfl, Nat.le_of_ble_eq_true rfl⟩ (q0 := 0) (ci := 6) rfl rfl rfl rfl hl.1 rfl (Nat.le_of_ble_eq_true rfl) dX6_courtier_2 ⟨Nat.zero_le _, Nat.zero_le _⟩ (fun r_1 u H locs h hP hD hS => ?_)
  obtain ⟨b_2, h⟩ := h
  refine lv_if_eq (tgt := 17) hx hb dX6_courtier_5 (by decide) (fun c_3 => ?_) (fun c_3 => ?_)
  · have h := h.1 c_3
    refine lv_iconst (v := -1) hx hb dX6_courtier_17 (by decide) ?_
    exact hret (-1 : Int32) () _ _ _ ls h hP hD hS dX6_courtier_18
  · have h := h.2 c_3
    refine lv_iload_n hx hb dX6_courtier_8 rfl (lv_at hl 2 rfl) ?_
    refine lv_iconst (v := 0) hx hb dX6_courtier_9 (by decide) ?_
    refine lv_iconst (v := 4) hx hb dX6_courtier_10 (by decide) ?_
    refine kS_i (wr := [(h6, .inr (6, [.ref a_mt, .int my, .ref a_mo, .ref a_md, .ref a_mb, .ref a_ms, .ref a_mp, .int mk, .ref a_mi, .int mq, .ref a_mn, .int mz, .int ma, .ref a_mh, .ref a_mg, .ref a_mr, .ref a_mx])), (a_mt, .inl (cI, 200, .inl mt)), (a_mo, .inl (cI, 16, .inl mo)), (a_md, .inl (cI, 16, .inl md)), (a_mb, .inl (cI, 56, .inl mb)), (a_ms, .inl (cI, 56, .inl ms)), (a_mp, .inl (cI, 448, .inl mp)), (a_mi, .inl (cI, 112, .inl mi)), (a_mn, .inl (cI, 12, .inl mn)), (a_mh, .inl (cI, 42, .inl mh)), (a_mg, .inl (cI, 56, .inl mg)), (a_mr, .inl (cI, 6, .inl mr)), (a_mx, .inl (cI, 6, .inl mx))]) (As := [.int x2, .int (0 : Int32), .int (4 : Int32)]) (n := 3) ⟨hx, hb, hml, hown, hts⟩ hK hP hD hS hA (c_X6_in l D cI cC cQ   x2 (0 : Int32) (4 : Int32) _ h) gX6_courtier_X6_in rfl ⟨rfl, rfl⟩ yoX6_in ⟨Nat.le_of_ble_eq_true rfl, Nat.le_of_ble_eq_true rfl⟩ rfl hl.1 rfl (Nat.le_of_ble_eq_true rfl) dX6_courtier_11 ⟨Nat.zero_le _, Nat.zero_le _⟩ [] [0, 1, 2, 3, 4, 5, 6, 7, 8, 9, 10, 11, 12] rfl (by decide) rfl (by decide) (by decide) (fun r_4 u H locs h hP hD hS => ?_)
    have hP : va_P D vwCl [(h6, .inr (6, [.ref a_mt, .int my, .ref a_mo, .ref a_md, .ref a_mb, .ref a_ms, .ref a_mp, .int mk, .ref a_mi, .int mq, .ref a_mn, .int mz, .int ma, .ref a_mh, .ref a_mg, .ref a_mr, .ref a_mx])), (a_mt, .inl (cI, 200, .inl mt)), (a_mo, .inl (cI, 16, .inl mo)), (a_md, .inl (cI, 16, .inl md)), (a_mb, .inl (cI, 56, .inl mb)), (a_ms, .inl (cI, 56, .inl ms)), (a_mp, .inl (cI, 448, .inl mp)), (a_mi, .inl (cI, 112, .inl mi)), (a_mn, .inl (cI, 12, .inl mn)), (a_mh, .inl (cI, 42, .inl mh)), (a_mg, .inl (cI, 56, .inl mg)), (a_mr, .inl (cI, 6, .inl mr)), (a_mx, .inl (cI, 6, .inl mx))] H := hP
    have hD : va_D A [(h6, .inr (6, [.ref a_mt, .int my, .ref a_mo, .ref a_md, .ref a_mb, .ref a_ms, .ref a_mp, .int mk, .ref a_mi, .int mq, .ref a_mn, .int mz, .int ma, .ref a_mh, .ref a_mg, .ref a_mr, .ref a_mx])), (a_mt, .inl (cI, 200, .inl mt)), (a_mo, .inl (cI, 16, .inl mo)), (a_md, .inl (cI, 16, .inl md)), (a_mb, .inl (cI, 56, .inl mb)), (a_ms, .inl (cI, 56, .inl ms)), (a_mp, .inl (cI, 448, .inl mp)), (a_mi, .inl (cI, 112, .inl mi)), (a_mn, .inl (cI, 12, .inl mn)), (a_mh, .inl (cI, 42, .inl mh)), (a_mg, .inl (cI, 56, .inl mg)), (a_mr, .inl (cI, 6, .inl mr)), (a_mx, .inl (cI, 6, .inl mx))] := hD
    obtain ⟨b_5, h⟩ := h
    refine lv_if_ne (tgt := 19) hx hb dX6_courtier_14 (by decide) (fun c_6 => ?_) (fun c_6 => ?_)
    · have h := h.2 c_6
      refine lv_iconst (v := 0) hx hb dX6_courtier_19 (by decide) ?_
      refine lv_istore_n (lv' := [(3, .int (0 : Int32)), (0, .ref h6), (1, .int x1), (2, .int x2)]) hx hb dX6_courtier_20 rfl hl (by decide) rfl (fun ls hl => ?_)
      refine lv_iconst (v := 0) hx hb dX6_courtier_21 (by decide) ?_
      refine lv_istore (lv' := [(4, .int (0 : Int32)), (3, .int (0 : Int32)), (0, .ref h6), (1, .int x1), (2, .int x2)]) hx hb dX6_courtier_22 hl (by decide) rfl (fun ls hl => ?_)
      refine lv_iconst (v := 0) hx hb dX6_courtier_24 (by decide) ?_
      refine lv_istore (lv' := [(5, .int (0 : Int32)), (4, .int (0 : Int32)), (3, .int (0 : Int32)), (0, .ref h6), (1, .int x1), (2, .int x2)]) hx hb dX6_courtier_25 hl (by decide) rfl (fun ls hl => ?_)
      obtain ⟨n_42, h⟩ := h
      refine L27 n_42 h hP hD hS (lv_sub hl [3, 4, 5, 2, 1, 0] rfl) (fun x3_35 x4_36 H locs ls h hP hD hS hl => ?_)
      refine lv_iload_n hx hb dX6_courtier_92 rfl (lv_at hl 2 rfl) ?_
      refine lv_if_ne (tgt := 107) hx hb dX6_courtier_93 (by decide) (fun c_37 => ?_) (fun c_37 => ?_)
      · have h := h.2 c_37
        refine lv_iload_n hx hb dX6_courtier_107 rfl (lv_at hl 2 rfl) ?_
        refine lv_iconst (v := 1) hx hb dX6_courtier_108 (by decide) ?_
        refine lv_icmp_ne (tgt := 120) hx hb dX6_courtier_109 (by decide) (fun c_38 => ?_) (fun c_38 => ?_)
        · have h := h.2 c_38
          refine lv_iload_n hx hb dX6_courtier_120 rfl (lv_at hl 2 rfl) ?_
          refine lv_iconst (v := 2) hx hb dX6_courtier_121 (by decide) ?_
          refine lv_icmp_ne (tgt := 136) hx hb dX6_courtier_122 (by decide) (fun c_39 => ?_) (fun c_39 => ?_)
          · have h := h.2 c_39
            refine lv_iload_n hx hb dX6_courtier_136 rfl (lv_at hl 2 rfl) ?_
            refine lv_iconst (v := 3) hx hb dX6_courtier_137 (by decide) ?_
            refine lv_icmp_ne (tgt := 145) hx hb dX6_courtier_138 (by decide) (fun c_40 => ?_) (fun c_40 => ?_)
            · have h := h.2 c_40
              refine lv_iload hx hb dX6_courtier_145 (lv_at hl 4 rfl) ?_
              exact hret x4_36 () _ _ _ ls h hP hD hS dX6_courtier_147
            · have h := h.1 c_40
              refine lv_iload_n hx hb dX6_courtier_141 rfl (lv_at hl 3 rfl) ?_
              refine lv_goto (tgt := 147) hx hb dX6_courtier_142 (by decide) ?_
              exact hret x3_35 () _ _ _ ls h hP hD hS dX6_courtier_147
          · have h := h.1 c_39
            refine lv_aload_n hx hb dX6_courtier_125 rfl (lv_at hl 0 rfl) ?_
            refine va_get (D := D) (ci := 6) (v := .ref a_ms) (C := RX6) (T := TX6) (N := 17) hx hb hts hin6 hown hK.1 hP 0 rfl rfl 5 (by decide) (k_1) (fun _ h9 => h9) rfl dX6_courtier_126 ?_
            refine lv_iconst (v := 1) hx hb dX6_courtier_129 (by decide) ?_
            refine lv_iload_n hx hb dX6_courtier_130 rfl (lv_at hl 1 rfl) ?_
            refine lv_iadd hx hb dX6_courtier_131 ?_
            refine z_iald (k := ((1 : Int32) + x1).toNatClampNeg) hx hb hK.1 hP 5 rfl rfl h.1 dX6_courtier_132 ?_
            have h := h.2
            refine lv_goto (tgt := 147) hx hb dX6_courtier_133 (by decide) ?_
            exact hret (ms (((1 : Int32) + x1).toNatClampNeg)) () _ _ _ ls h hP hD hS dX6_courtier_147
        · have h := h.1 c_38
          refine lv_aload_n hx hb dX6_courtier_112 rfl (lv_at hl 0 rfl) ?_
          refine lv_iload_n hx hb dX6_courtier_113 rfl (lv_at hl 1 rfl) ?_
          refine k0V_i (As := [.int x1]) (n := 1) ⟨hx, hb, hml, hown, hts⟩ hK hP hD hS hA (c_X6_heeded l D cI cC cQ h6 a_mt a_mo a_md a_mb a_ms a_mp a_mi a_mn a_mh a_mg a_mr a_mx mt my mo md mb ms mp mk mi mq mn mz ma mh mg mr mx x1 _ h) gX6_courtier_X6_heeded rfl rfl ⟨rfl, rfl⟩ yoX6_heeded ⟨Nat.le_of_ble_eq_true rfl, Nat.le_of_ble_eq_true rfl⟩ (q0 := 0) (ci := 6) rfl rfl rfl rfl hl.1 rfl (Nat.le_of_ble_eq_true rfl) dX6_courtier_114 ⟨Nat.zero_le _, Nat.zero_le _⟩ (fun r_41 u H locs h hP hD hS => ?_)
          refine lv_goto (tgt := 147) hx hb dX6_courtier_117 (by decide) ?_
          exact hret r_41 () _ _ _ ls h hP hD hS dX6_courtier_147
      · have h := h.1 c_37
        refine lv_aload_n hx hb dX6_courtier_96 rfl (lv_at hl 0 rfl) ?_
        refine va_get (D := D) (ci := 6) (v := .ref a_mo) (C := RX6) (T := TX6) (N := 17) hx hb hts hin6 hown hK.1 hP 0 rfl rfl 2 (by decide) (k_0) (fun _ h9 => h9) rfl dX6_courtier_97 ?_
        refine lv_iconst (v := 2) hx hb dX6_courtier_100 (by decide) ?_
        refine lv_iload_n hx hb dX6_courtier_101 rfl (lv_at hl 1 rfl) ?_
        refine lv_iadd hx hb dX6_courtier_102 ?_
        refine z_iald (k := ((2 : Int32) + x1).toNatClampNeg) hx hb hK.1 hP 2 rfl rfl h.1 dX6_courtier_103 ?_
        have h := h.2
        refine lv_goto (tgt := 147) hx hb dX6_courtier_104 (by decide) ?_
        exact hret (mo (((2 : Int32) + x1).toNatClampNeg)) () _ _ _ ls h hP hD hS dX6_courtier_147
    · have h := h.1 c_6
      refine lv_iconst (v := -1) hx hb dX6_courtier_17 (by decide) ?_
      exact hret (-1 : Int32) () _ _ _ ls h hP hD hS dX6_courtier_18

/-! DoubtCourtModel.news -/
abbrev rmX6_news : Room := { frames := 2, cells := 0, slots := 0, locals := 45 }
theorem yoX6_news : yX6_news.cls ≠ "java/lang/invoke/MethodHandle" ∧ yX6_news.cls ≠ "java/lang/invoke/VarHandle" ∧ (parseMethodDescriptor yX6_news.desc).map (fun d => d.parameters.length) = some 2 := by decide +kernel
set_option maxHeartbeats 4000000 in
set_option maxRecDepth 100000 in
theorem c_X6_news (l : Launch) (D : va_G) (cI cC cQ : ClassId) (h6 : Nat) (a_mt : Nat) (a_mo : Nat) (a_md : Nat) (a_mb : Nat) (a_ms : Nat) (a_mp : Nat) (a_mi : Nat) (a_mn : Nat) (a_mh : Nat) (a_mg : Nat) (a_mr : Nat) (a_mx : Nat) (mt : Nat → Int32) (my : Int32) (mo : Nat → Int32) (md : Nat → Int32) (mb : Nat → Int32) (ms : Nat → Int32) (mp : Nat → Int32) (mk : Int32) (mi : Nat → Int32) (mq : Int32) (mn : Nat → Int32) (mz : Int32) (ma : Int32) (mh : Nat → Int32) (mg : Nat → Int32) (mr : Nat → Int32) (mx : Nat → Int32) (x1 : Int32) (x2 : Int32) (Q : Int32 → Prop) (h : wX6_news x1 x2 mo ms Q) : Ci (S := Unit) l D cI cC cQ yX6_news wsX6_news rmX6_news [.ref h6, .int x1, .int x2] [(h6, .inr (6, [.ref a_mt, .int my, .ref a_mo, .ref a_md, .ref a_mb, .ref a_ms, .ref a_mp, .int mk, .ref a_mi, .int mq, .ref a_mn, .int mz, .int ma, .ref a_mh, .ref a_mg, .ref a_mr, .ref a_mx])), (a_mt, .inl (cI, 200, .inl mt)), (a_mo, .inl (cI, 16, .inl mo)), (a_md, .inl (cI, 16, .inl md)), (a_mb, .inl (cI, 56, .inl mb)), (a_ms, .inl (cI, 56, .inl ms)), (a_mp, .inl (cI, 448, .inl mp)), (a_mi, .inl (cI, 112, .inl mi)), (a_mn, .inl (cI, 12, .inl mn)), (a_mh, .inl (cI, 42, .inl mh)), (a_mg, .inl (cI, 56, .inl mg)), (a_mr, .inl (cI, 6, .inl mr)), (a_mx, .inl (cI, 6, .inl mx))] (fun _ => [(h6, .inr (6, [.ref a_mt, .int my, .ref a_mo, .ref a_md, .ref a_mb, .ref a_ms, .ref a_mp, .int mk, .ref a_mi, .int mq, .ref a_mn, .int mz, .int ma, .ref a_mh, .ref a_mg, .ref a_mr, .ref a_mx])), (a_mt, .inl (cI, 200, .inl mt)), (a_mo, .inl (cI, 16, .inl mo)), (a_md, .inl (cI, 16, .inl md)), (a_mb, .inl (cI, 56, .inl mb)), (a_ms, .inl (cI, 56, .inl ms)), (a_mp, .inl (cI, 448, .inl mp)), (a_mi, .inl (cI, 112, .inl mi)), (a_mn, .inl (cI, 12, .inl mn)), (a_mh, .inl (cI, 42, .inl mh)), (a_mg, .inl (cI, 56, .inl mg)), (a_mr, .inl (cI, 6, .inl mr)), (a_mx, .inl (cI, 6, .inl mx))]) (fun r _ => Q r) := by
  refine Ci_mk (cc := cX6_news) (maxL := 3) (by decide) rfl (Nat.le_of_ble_eq_true rfl) ?_
  intro p e s m args below meth c A Z ls hx hb hml hown hts hK hA hP hD hret hl
  have hS : va_S A s.heap s.heap [] := va_S.rf
  have hin6 : ∀ w ∈ u_ws RX6 TX6 17, w ∈ wsX6_news := by decide +kernel
  have k_0 := hts (.fieldLink RX6 22 "DoubtCourtModel" "s" "[I") (by decide +kernel)
  have hl : lv_has ls 3 [(0, .ref h6), (1, .int x1), (2, .int x2)] := hl
  refine lv_aload_n hx hb dX6_news_0 rfl (lv_at hl 0 rfl) ?_
  refine lv_iload_n hx hb dX6_news_1 rfl (lv_at hl 1 rfl) ?_
  refine k0V_i (As := [.int x1]) (n := 1) ⟨hx, hb, hml, hown, hts⟩ hK hP hD hS hA (c_X6_isNews l D cI cC cQ h6 a_mt a_mo a_md a_mb a_ms a_mp a_mi a_mn a_mh a_mg a_mr a_mx mt my mo md mb ms mp mk mi mq mn mz ma mh mg mr mx x1 _ h) gX6_news_X6_isNews rfl rfl ⟨rfl, rfl⟩ yoX6_isNews ⟨Nat.le_of_ble_eq_true rfl, Nat.le_of_ble_eq_true rfl⟩ (q0 := 0) (ci := 6) rfl rfl rfl rfl hl.1 rfl (Nat.le_of_ble_eq_true rfl) dX6_news_2 ⟨Nat.zero_le _, Nat.zero_le _⟩ (fun r_1 u H locs h hP hD hS => ?_)
  obtain ⟨b_2, h⟩ := h
  refine lv_if_eq (tgt := 17) hx hb dX6_news_5 (by decide) (fun c_3 => ?_) (fun c_3 => ?_)
  · have h := h.1 c_3
    refine lv_iconst (v := -1) hx hb dX6_news_17 (by decide) ?_
    refine lv_goto (tgt := 42) hx hb dX6_news_18 (by decide) ?_
    exact hret (-1 : Int32) () _ _ _ ls h hP hD hS dX6_news_42
  · have h := h.2 c_3
    refine lv_iload_n hx hb dX6_news_8 rfl (lv_at hl 2 rfl) ?_
    refine lv_iconst (v := 0) hx hb dX6_news_9 (by decide) ?_
    refine lv_iconst (v := 1) hx hb dX6_news_10 (by decide) ?_
    refine kS_i (wr := [(h6, .inr (6, [.ref a_mt, .int my, .ref a_mo, .ref a_md, .ref a_mb, .ref a_ms, .ref a_mp, .int mk, .ref a_mi, .int mq, .ref a_mn, .int mz, .int ma, .ref a_mh, .ref a_mg, .ref a_mr, .ref a_mx])), (a_mt, .inl (cI, 200, .inl mt)), (a_mo, .inl (cI, 16, .inl mo)), (a_md, .inl (cI, 16, .inl md)), (a_mb, .inl (cI, 56, .inl mb)), (a_ms, .inl (cI, 56, .inl ms)), (a_mp, .inl (cI, 448, .inl mp)), (a_mi, .inl (cI, 112, .inl mi)), (a_mn, .inl (cI, 12, .inl mn)), (a_mh, .inl (cI, 42, .inl mh)), (a_mg, .inl (cI, 56, .inl mg)), (a_mr, .inl (cI, 6, .inl mr)), (a_mx, .inl (cI, 6, .inl mx))]) (As := [.int x2, .int (0 : Int32), .int (1 : Int32)]) (n := 3) ⟨hx, hb, hml, hown, hts⟩ hK hP hD hS hA (c_X6_in l D cI cC cQ   x2 (0 : Int32) (1 : Int32) _ h) gX6_news_X6_in rfl ⟨rfl, rfl⟩ yoX6_in ⟨Nat.le_of_ble_eq_true rfl, Nat.le_of_ble_eq_true rfl⟩ rfl hl.1 rfl (Nat.le_of_ble_eq_true rfl) dX6_news_11 ⟨Nat.zero_le _, Nat.zero_le _⟩ [] [0, 1, 2, 3, 4, 5, 6, 7, 8, 9, 10, 11, 12] rfl (by decide) rfl (by decide) (by decide) (fun r_4 u H locs h hP hD hS => ?_)
    have hP : va_P D vwCl [(h6, .inr (6, [.ref a_mt, .int my, .ref a_mo, .ref a_md, .ref a_mb, .ref a_ms, .ref a_mp, .int mk, .ref a_mi, .int mq, .ref a_mn, .int mz, .int ma, .ref a_mh, .ref a_mg, .ref a_mr, .ref a_mx])), (a_mt, .inl (cI, 200, .inl mt)), (a_mo, .inl (cI, 16, .inl mo)), (a_md, .inl (cI, 16, .inl md)), (a_mb, .inl (cI, 56, .inl mb)), (a_ms, .inl (cI, 56, .inl ms)), (a_mp, .inl (cI, 448, .inl mp)), (a_mi, .inl (cI, 112, .inl mi)), (a_mn, .inl (cI, 12, .inl mn)), (a_mh, .inl (cI, 42, .inl mh)), (a_mg, .inl (cI, 56, .inl mg)), (a_mr, .inl (cI, 6, .inl mr)), (a_mx, .inl (cI, 6, .inl mx))] H := hP
    have hD : va_D A [(h6, .inr (6, [.ref a_mt, .int my, .ref a_mo, .ref a_md, .ref a_mb, .ref a_ms, .ref a_mp, .int mk, .ref a_mi, .int mq, .ref a_mn, .int mz, .int ma, .ref a_mh, .ref a_mg, .ref a_mr, .ref a_mx])), (a_mt, .inl (cI, 200, .inl mt)), (a_mo, .inl (cI, 16, .inl mo)), (a_md, .inl (cI, 16, .inl md)), (a_mb, .inl (cI, 56, .inl mb)), (a_ms, .inl (cI, 56, .inl ms)), (a_mp, .inl (cI, 448, .inl mp)), (a_mi, .inl (cI, 112, .inl mi)), (a_mn, .inl (cI, 12, .inl mn)), (a_mh, .inl (cI, 42, .inl mh)), (a_mg, .inl (cI, 56, .inl mg)), (a_mr, .inl (cI, 6, .inl mr)), (a_mx, .inl (cI, 6, .inl mx))] := hD
    obtain ⟨b_5, h⟩ := h
    refine lv_if_ne (tgt := 21) hx hb dX6_news_14 (by decide) (fun c_6 => ?_) (fun c_6 => ?_)
    · have h := h.2 c_6
      refine lv_iload_n hx hb dX6_news_21 rfl (lv_at hl 2 rfl) ?_
      refine lv_if_ne (tgt := 37) hx hb dX6_news_22 (by decide) (fun c_7 => ?_) (fun c_7 => ?_)
      · have h := h.2 c_7
        refine lv_aload_n hx hb dX6_news_37 rfl (lv_at hl 0 rfl) ?_
        refine lv_iload_n hx hb dX6_news_38 rfl (lv_at hl 1 rfl) ?_
        refine k0V_i (As := [.int x1]) (n := 1) ⟨hx, hb, hml, hown, hts⟩ hK hP hD hS hA (c_X6_doubters l D cI cC cQ h6 a_mt a_mo a_md a_mb a_ms a_mp a_mi a_mn a_mh a_mg a_mr a_mx mt my mo md mb ms mp mk mi mq mn mz ma mh mg mr mx x1 _ h) gX6_news_X6_doubters rfl rfl ⟨rfl, rfl⟩ yoX6_doubters ⟨Nat.le_of_ble_eq_true rfl, Nat.le_of_ble_eq_true rfl⟩ (q0 := 0) (ci := 6) rfl rfl rfl rfl hl.1 rfl (Nat.le_of_ble_eq_true rfl) dX6_news_39 ⟨Nat.zero_le _, Nat.zero_le _⟩ (fun r_8 u H locs h hP hD hS => ?_)
        exact hret r_8 () _ _ _ ls h hP hD hS dX6_news_42
      · have h := h.1 c_7
        refine lv_aload_n hx hb dX6_news_25 rfl (lv_at hl 0 rfl) ?_
        refine va_get (D := D) (ci := 6) (v := .ref a_ms) (C := RX6) (T := TX6) (N := 17) hx hb hts hin6 hown hK.1 hP 0 rfl rfl 5 (by decide) (k_0) (fun _ h9 => h9) rfl dX6_news_26 ?_
        refine lv_bipush (v := 8) hx hb dX6_news_29 (by decide) ?_
        refine lv_iload_n hx hb dX6_news_31 rfl (lv_at hl 1 rfl) ?_
        refine lv_iadd hx hb dX6_news_32 ?_
        refine z_iald (k := ((8 : Int32) + x1).toNatClampNeg) hx hb hK.1 hP 5 rfl rfl h.1 dX6_news_33 ?_
        have h := h.2
        refine lv_goto (tgt := 42) hx hb dX6_news_34 (by decide) ?_
        exact hret (ms (((8 : Int32) + x1).toNatClampNeg)) () _ _ _ ls h hP hD hS dX6_news_42
    · have h := h.1 c_6
      refine lv_iconst (v := -1) hx hb dX6_news_17 (by decide) ?_
      refine lv_goto (tgt := 42) hx hb dX6_news_18 (by decide) ?_
      exact hret (-1 : Int32) () _ _ _ ls h hP hD hS dX6_news_42

/-! DoubtCourtModel.belief -/
abbrev rmX6_belief : Room := { frames := 2, cells := 0, slots := 0, locals := 43 }
theorem yoX6_belief : yX6_belief.cls ≠ "java/lang/invoke/MethodHandle" ∧ yX6_belief.cls ≠ "java/lang/invoke/VarHandle" ∧ (parseMethodDescriptor yX6_belief.desc).map (fun d => d.parameters.length) = some 2 := by decide +kernel
set_option maxHeartbeats 4000000 in
set_option maxRecDepth 100000 in
theorem c_X6_belief (l : Launch) (D : va_G) (cI cC cQ : ClassId) (h6 : Nat) (a_mt : Nat) (a_mo : Nat) (a_md : Nat) (a_mb : Nat) (a_ms : Nat) (a_mp : Nat) (a_mi : Nat) (a_mn : Nat) (a_mh : Nat) (a_mg : Nat) (a_mr : Nat) (a_mx : Nat) (mt : Nat → Int32) (my : Int32) (mo : Nat → Int32) (md : Nat → Int32) (mb : Nat → Int32) (ms : Nat → Int32) (mp : Nat → Int32) (mk : Int32) (mi : Nat → Int32) (mq : Int32) (mn : Nat → Int32) (mz : Int32) (ma : Int32) (mh : Nat → Int32) (mg : Nat → Int32) (mr : Nat → Int32) (mx : Nat → Int32) (x1 : Int32) (x2 : Int32) (Q : Int32 → Prop) (h : wX6_belief x1 x2 mo ms Q) : Ci (S := Unit) l D cI cC cQ yX6_belief wsX6_belief rmX6_belief [.ref h6, .int x1, .int x2] [(h6, .inr (6, [.ref a_mt, .int my, .ref a_mo, .ref a_md, .ref a_mb, .ref a_ms, .ref a_mp, .int mk, .ref a_mi, .int mq, .ref a_mn, .int mz, .int ma, .ref a_mh, .ref a_mg, .ref a_mr, .ref a_mx])), (a_mt, .inl (cI, 200, .inl mt)), (a_mo, .inl (cI, 16, .inl mo)), (a_md, .inl (cI, 16, .inl md)), (a_mb, .inl (cI, 56, .inl mb)), (a_ms, .inl (cI, 56, .inl ms)), (a_mp, .inl (cI, 448, .inl mp)), (a_mi, .inl (cI, 112, .inl mi)), (a_mn, .inl (cI, 12, .inl mn)), (a_mh, .inl (cI, 42, .inl mh)), (a_mg, .inl (cI, 56, .inl mg)), (a_mr, .inl (cI, 6, .inl mr)), (a_mx, .inl (cI, 6, .inl mx))] (fun _ => [(h6, .inr (6, [.ref a_mt, .int my, .ref a_mo, .ref a_md, .ref a_mb, .ref a_ms, .ref a_mp, .int mk, .ref a_mi, .int mq, .ref a_mn, .int mz, .int ma, .ref a_mh, .ref a_mg, .ref a_mr, .ref a_mx])), (a_mt, .inl (cI, 200, .inl mt)), (a_mo, .inl (cI, 16, .inl mo)), (a_md, .inl (cI, 16, .inl md)), (a_mb, .inl (cI, 56, .inl mb)), (a_ms, .inl (cI, 56, .inl ms)), (a_mp, .inl (cI, 448, .inl mp)), (a_mi, .inl (cI, 112, .inl mi)), (a_mn, .inl (cI, 12, .inl mn)), (a_mh, .inl (cI, 42, .inl mh)), (a_mg, .inl (cI, 56, .inl mg)), (a_mr, .inl (cI, 6, .inl mr)), (a_mx, .inl (cI, 6, .inl mx))]) (fun r _ => Q r) := by
  refine Ci_mk (cc := cX6_belief) (maxL := 3) (by decide) rfl (Nat.le_of_ble_eq_true rfl) ?_
  intro p e s m args below meth c A Z ls hx hb hml hown hts hK hA hP hD hret hl
  have hS : va_S A s.heap s.heap [] := va_S.rf
  have hin6 : ∀ w ∈ u_ws RX6 TX6 17, w ∈ wsX6_belief := by decide +kernel
  have k_0 := hts (.fieldLink RX6 22 "DoubtCourtModel" "s" "[I") (by decide +kernel)
  have hl : lv_has ls 3 [(0, .ref h6), (1, .int x1), (2, .int x2)] := hl
  refine lv_aload_n hx hb dX6_belief_0 rfl (lv_at hl 0 rfl) ?_
  refine lv_iload_n hx hb dX6_belief_1 rfl (lv_at hl 1 rfl) ?_
  refine k0V_i (As := [.int x1]) (n := 1) ⟨hx, hb, hml, hown, hts⟩ hK hP hD hS hA (c_X6_isCourtier l D cI cC cQ h6 a_mt a_mo a_md a_mb a_ms a_mp a_mi a_mn a_mh a_mg a_mr a_mx mt my mo md mb ms mp mk mi mq mn mz ma mh mg mr mx x1 _ h) gX6_belief_X6_isCourtier rfl rfl ⟨rfl, rfl⟩ yoX6_isCourtier ⟨Nat.le_of_ble_eq_true rfl, Nat.le_of_ble_eq_true rfl⟩ (q0 := 0) (ci := 6) rfl rfl rfl rfl hl.1 rfl (Nat.le_of_ble_eq_true rfl) dX6_belief_2 ⟨Nat.zero_le _, Nat.zero_le _⟩ (fun r_1 u H locs h hP hD hS => ?_)
  obtain ⟨b_2, h⟩ := h
  refine lv_if_eq (tgt := 33) hx hb dX6_belief_5 (by decide) (fun c_3 => ?_) (fun c_3 => ?_)
  · have h := h.1 c_3
    refine lv_iconst (v := -1) hx hb dX6_belief_33 (by decide) ?_
    exact hret (-1 : Int32) () _ _ _ ls h hP hD hS dX6_belief_34
  · have h := h.2 c_3
    refine lv_aload_n hx hb dX6_belief_8 rfl (lv_at hl 0 rfl) ?_
    refine lv_iload_n hx hb dX6_belief_9 rfl (lv_at hl 2 rfl) ?_
    refine k0V_i (As := [.int x2]) (n := 1) ⟨hx, hb, hml, hown, hts⟩ hK hP hD hS hA (c_X6_isNews l D cI cC cQ h6 a_mt a_mo a_md a_mb a_ms a_mp a_mi a_mn a_mh a_mg a_mr a_mx mt my mo md mb ms mp mk mi mq mn mz ma mh mg mr mx x2 _ h) gX6_belief_X6_isNews rfl rfl ⟨rfl, rfl⟩ yoX6_isNews ⟨Nat.le_of_ble_eq_true rfl, Nat.le_of_ble_eq_true rfl⟩ (q0 := 0) (ci := 6) rfl rfl rfl rfl hl.1 rfl (Nat.le_of_ble_eq_true rfl) dX6_belief_10 ⟨Nat.zero_le _, Nat.zero_le _⟩ (fun r_4 u H locs h hP hD hS => ?_)
    obtain ⟨b_5, h⟩ := h
    refine lv_if_eq (tgt := 33) hx hb dX6_belief_13 (by decide) (fun c_6 => ?_) (fun c_6 => ?_)
    · have h := h.1 c_6
      refine lv_iconst (v := -1) hx hb dX6_belief_33 (by decide) ?_
      exact hret (-1 : Int32) () _ _ _ ls h hP hD hS dX6_belief_34
    · have h := h.2 c_6
      refine lv_aload_n hx hb dX6_belief_16 rfl (lv_at hl 0 rfl) ?_
      refine va_get (D := D) (ci := 6) (v := .ref a_ms) (C := RX6) (T := TX6) (N := 17) hx hb hts hin6 hown hK.1 hP 0 rfl rfl 5 (by decide) (k_0) (fun _ h9 => h9) rfl dX6_belief_17 ?_
      refine lv_bipush (v := 14) hx hb dX6_belief_20 (by decide) ?_
      refine lv_bipush (v := 7) hx hb dX6_belief_22 (by decide) ?_
      refine lv_iload_n hx hb dX6_belief_24 rfl (lv_at hl 2 rfl) ?_
      refine lv_imul hx hb dX6_belief_25 ?_
      refine lv_iadd hx hb dX6_belief_26 ?_
      refine lv_iload_n hx hb dX6_belief_27 rfl (lv_at hl 1 rfl) ?_
      refine lv_iadd hx hb dX6_belief_28 ?_
      refine z_iald (k := (((14 : Int32) + ((7 : Int32) * x2)) + x1).toNatClampNeg) hx hb hK.1 hP 5 rfl rfl h.1 dX6_belief_29 ?_
      have h := h.2
      refine lv_goto (tgt := 34) hx hb dX6_belief_30 (by decide) ?_
      exact hret (ms ((((14 : Int32) + ((7 : Int32) * x2)) + x1).toNatClampNeg)) () _ _ _ ls h hP hD hS dX6_belief_34

/-! DoubtCourtModel.whoAt -/
abbrev rmX6_whoAt : Room := { frames := 0, cells := 0, slots := 0, locals := 0 }
theorem yoX6_whoAt : yX6_whoAt.cls ≠ "java/lang/invoke/MethodHandle" ∧ yX6_whoAt.cls ≠ "java/lang/invoke/VarHandle" ∧ (parseMethodDescriptor yX6_whoAt.desc).map (fun d => d.parameters.length) = some 1 := by decide +kernel
set_option maxHeartbeats 4000000 in
set_option maxRecDepth 100000 in
theorem c_X6_whoAt (l : Launch) (D : va_G) (cI cC cQ : ClassId) (h6 : Nat) (a_mt : Nat) (a_mo : Nat) (a_md : Nat) (a_mb : Nat) (a_ms : Nat) (a_mp : Nat) (a_mi : Nat) (a_mn : Nat) (a_mh : Nat) (a_mg : Nat) (a_mr : Nat) (a_mx : Nat) (mt : Nat → Int32) (my : Int32) (mo : Nat → Int32) (md : Nat → Int32) (mb : Nat → Int32) (ms : Nat → Int32) (mp : Nat → Int32) (mk : Int32) (mi : Nat → Int32) (mq : Int32) (mn : Nat → Int32) (mz : Int32) (ma : Int32) (mh : Nat → Int32) (mg : Nat → Int32) (mr : Nat → Int32) (mx : Nat → Int32) (x1 : Int32) (Q : Int32 → Prop) (h : wX6_whoAt x1 mo ms Q) : Ci (S := Unit) l D cI cC cQ yX6_whoAt wsX6_whoAt rmX6_whoAt [.ref h6, .int x1] [(h6, .inr (6, [.ref a_mt, .int my, .ref a_mo, .ref a_md, .ref a_mb, .ref a_ms, .ref a_mp, .int mk, .ref a_mi, .int mq, .ref a_mn, .int mz, .int ma, .ref a_mh, .ref a_mg, .ref a_mr, .ref a_mx])), (a_mt, .inl (cI, 200, .inl mt)), (a_mo, .inl (cI, 16, .inl mo)), (a_md, .inl (cI, 16, .inl md)), (a_mb, .inl (cI, 56, .inl mb)), (a_ms, .inl (cI, 56, .inl ms)), (a_mp, .inl (cI, 448, .inl mp)), (a_mi, .inl (cI, 112, .inl mi)), (a_mn, .inl (cI, 12, .inl mn)), (a_mh, .inl (cI, 42, .inl mh)), (a_mg, .inl (cI, 56, .inl mg)), (a_mr, .inl (cI, 6, .inl mr)), (a_mx, .inl (cI, 6, .inl mx))] (fun _ => [(h6, .inr (6, [.ref a_mt, .int my, .ref a_mo, .ref a_md, .ref a_mb, .ref a_ms, .ref a_mp, .int mk, .ref a_mi, .int mq, .ref a_mn, .int mz, .int ma, .ref a_mh, .ref a_mg, .ref a_mr, .ref a_mx])), (a_mt, .inl (cI, 200, .inl mt)), (a_mo, .inl (cI, 16, .inl mo)), (a_md, .inl (cI, 16, .inl md)), (a_mb, .inl (cI, 56, .inl mb)), (a_ms, .inl (cI, 56, .inl ms)), (a_mp, .inl (cI, 448, .inl mp)), (a_mi, .inl (cI, 112, .inl mi)), (a_mn, .inl (cI, 12, .inl mn)), (a_mh, .inl (cI, 42, .inl mh)), (a_mg, .inl (cI, 56, .inl mg)), (a_mr, .inl (cI, 6, .inl mr)), (a_mx, .inl (cI, 6, .inl mx))]) (fun r _ => Q r) := by
  refine Ci_mk (cc := cX6_whoAt) (maxL := 4) (by decide) rfl (Nat.le_of_ble_eq_true rfl) ?_
  intro p e s m args below meth c A Z ls hx hb hml hown hts hK hA hP hD hret hl
  have hS : va_S A s.heap s.heap [] := va_S.rf
  have hin6 : ∀ w ∈ u_ws RX6 TX6 17, w ∈ wsX6_whoAt := by decide +kernel
  have k_0 := hts (.fieldLink RX6 13 "DoubtCourtModel" "told" "[I") (by decide +kernel)
  have k_1 := hts (.fieldLink RX6 22 "DoubtCourtModel" "s" "[I") (by decide +kernel)
  have hl : lv_has ls 4 [(0, .ref h6), (1, .int x1)] := hl
  have L5 : ∀ (n : Nat) {x1 : Int32} {x2 : Int32} {x3 : Int32} {H : Heap} {locs : List Loc} {ls : Array Slot}, wX6_whoAt_L5 x1 mo ms Q n x2 x3 → va_P D vwCl [(h6, .inr (6, [.ref a_mt, .int my, .ref a_mo, .ref a_md, .ref a_mb, .ref a_ms, .ref a_mp, .int mk, .ref a_mi, .int mq, .ref a_mn, .int mz, .int ma, .ref a_mh, .ref a_mg, .ref a_mr, .ref a_mx])), (a_mt, .inl (cI, 200, .inl mt)), (a_mo, .inl (cI, 16, .inl mo)), (a_md, .inl (cI, 16, .inl md)), (a_mb, .inl (cI, 56, .inl mb)), (a_ms, .inl (cI, 56, .inl ms)), (a_mp, .inl (cI, 448, .inl mp)), (a_mi, .inl (cI, 112, .inl mi)), (a_mn, .inl (cI, 12, .inl mn)), (a_mh, .inl (cI, 42, .inl mh)), (a_mg, .inl (cI, 56, .inl mg)), (a_mr, .inl (cI, 6, .inl mr)), (a_mx, .inl (cI, 6, .inl mx))] H → va_D A [(h6, .inr (6, [.ref a_mt, .int my, .ref a_mo, .ref a_md, .ref a_mb, .ref a_ms, .ref a_mp, .int mk, .ref a_mi, .int mq, .ref a_mn, .int mz, .int ma, .ref a_mh, .ref a_mg, .ref a_mr, .ref a_mx])), (a_mt, .inl (cI, 200, .inl mt)), (a_mo, .inl (cI, 16, .inl mo)), (a_md, .inl (cI, 16, .inl md)), (a_mb, .inl (cI, 56, .inl mb)), (a_ms, .inl (cI, 56, .inl ms)), (a_mp, .inl (cI, 448, .inl mp)), (a_mi, .inl (cI, 112, .inl mi)), (a_mn, .inl (cI, 12, .inl mn)), (a_mh, .inl (cI, 42, .inl mh)), (a_mg, .inl (cI, 56, .inl mg)), (a_mr, .inl (cI, 6, .inl mr)), (a_mx, .inl (cI, 6, .inl mx))] → va_S A s.heap H locs → lv_has ls 4 [(0, .ref h6), (1, .int x1), (2, .int x2), (3, .int x3)] → W p l e rmX6_whoAt s m args below meth c H locs 0 0 Z (F0 m 5 ls []) := by
    intro n
    induction n with
    | zero =>
      intro x1 x2 x3 H locs ls h hP hD hS hl
      exact (show False from h).elim
    | succ n ih =>
      intro x1 x2 x3 H locs ls h hP hD hS hl
      refine lv_iload_n hx hb dX6_whoAt_5 rfl (lv_at hl 3 rfl) ?_
      refine lv_aload_n hx hb dX6_whoAt_6 rfl (lv_at hl 0 rfl) ?_
      refine va_get (D := D) (ci := 6) (v := .ref a_mo) (C := RX6) (T := TX6) (N := 17) hx hb hts hin6 hown hK.1 hP 0 rfl rfl 2 (by decide) (k_0) (fun _ h9 => h9) rfl dX6_whoAt_7 ?_
      refine lv_iconst (v := 0) hx hb dX6_whoAt_10 (by decide) ?_
      refine z_iald (k := 0) hx hb hK.1 hP 2 rfl (by decide) vi_0_16 dX6_whoAt_11 ?_
      refine lv_icmp_ge (tgt := 39) hx hb dX6_whoAt_12 (by decide) (fun c_3 => ?_) (fun c_3 => ?_)
      · have h := h.1 c_3
        refine lv_iload_n hx hb dX6_whoAt_39 rfl (lv_at hl 2 rfl) ?_
        exact hret x2 () _ _ _ ls h hP hD hS dX6_whoAt_40
      · have h := h.2 c_3
        refine lv_aload_n hx hb dX6_whoAt_15 rfl (lv_at hl 0 rfl) ?_
        refine va_get (D := D) (ci := 6) (v := .ref a_ms) (C := RX6) (T := TX6) (N := 17) hx hb hts hin6 hown hK.1 hP 0 rfl rfl 5 (by decide) (k_1) (fun _ h9 => h9) rfl dX6_whoAt_16 ?_
        refine lv_iconst (v := 1) hx hb dX6_whoAt_19 (by decide) ?_
        refine lv_iload_n hx hb dX6_whoAt_20 rfl (lv_at hl 3 rfl) ?_
        refine lv_iadd hx hb dX6_whoAt_21 ?_
        refine z_iald (k := ((1 : Int32) + x3).toNatClampNeg) hx hb hK.1 hP 5 rfl rfl h.1 dX6_whoAt_22 ?_
        have h := h.2
        refine lv_iload_n hx hb dX6_whoAt_23 rfl (lv_at hl 1 rfl) ?_
        refine lv_icmp_ne (tgt := 31) hx hb dX6_whoAt_24 (by decide) (fun c_4 => ?_) (fun c_4 => ?_)
        · have h := h.2 c_4
          refine lv_iload_n hx hb dX6_whoAt_31 rfl (lv_at hl 2 rfl) ?_
          refine lv_istore_n (lv' := [(2, .int x2), (0, .ref h6), (1, .int x1), (3, .int x3)]) hx hb dX6_whoAt_32 rfl hl (by decide) rfl (fun ls hl => ?_)
          refine lv_iinc (v := (x3 + (1 : Int32))) (lv' := [(3, .int (x3 + (1 : Int32))), (2, .int x2), (0, .ref h6), (1, .int x1)]) hx hb dX6_whoAt_33 hl (k := 3) rfl rfl (by decide) rfl (fun ls hl => ?_)
          refine lv_goto (tgt := 5) hx hb dX6_whoAt_36 (by decide) ?_
          exact ih h hP hD hS (lv_sub hl [2, 3, 1, 0] rfl)
        · have h := h.1 c_4
          refine lv_iload_n hx hb dX6_whoAt_27 rfl (lv_at hl 3 rfl) ?_
          refine lv_goto (tgt := 32) hx hb dX6_whoAt_28 (by decide) ?_
          refine lv_istore_n (lv' := [(2, .int x3), (0, .ref h6), (1, .int x1), (3, .int x3)]) hx hb dX6_whoAt_32 rfl hl (by decide) rfl (fun ls hl => ?_)
          refine lv_iinc (v := (x3 + (1 : Int32))) (lv' := [(3, .int (x3 + (1 : Int32))), (2, .int x3), (0, .ref h6), (1, .int x1)]) hx hb dX6_whoAt_33 hl (k := 3) rfl rfl (by decide) rfl (fun ls hl => ?_)
          refine lv_goto (tgt := 5) hx hb dX6_whoAt_36 (by decide) ?_
          exact ih h hP hD hS (lv_sub hl [2, 3, 1, 0] rfl)
  refine lv_bipush (v := 9) hx hb dX6_whoAt_0 (by decide) ?_
  refine lv_istore_n (lv' := [(2, .int (9 : Int32)), (0, .ref h6), (1, .int x1)]) hx hb dX6_whoAt_2 rfl hl (by decide) rfl (fun ls hl => ?_)
  refine lv_iconst (v := 0) hx hb dX6_whoAt_3 (by decide) ?_
  refine lv_istore_n (lv' := [(3, .int (0 : Int32)), (2, .int (9 : Int32)), (0, .ref h6), (1, .int x1)]) hx hb dX6_whoAt_4 rfl hl (by decide) rfl (fun ls hl => ?_)
  obtain ⟨n_5, h⟩ := h
  exact L5 n_5 h hP hD hS (lv_sub hl [2, 3, 1, 0] rfl)

/-! DoubtCourtModel.apart -/
abbrev rmX6_apart : Room := { frames := 0, cells := 0, slots := 0, locals := 0 }
theorem yoX6_apart : yX6_apart.cls ≠ "java/lang/invoke/MethodHandle" ∧ yX6_apart.cls ≠ "java/lang/invoke/VarHandle" ∧ (parseMethodDescriptor yX6_apart.desc).map (fun d => d.parameters.length) = some 2 := by decide +kernel
set_option maxHeartbeats 4000000 in
set_option maxRecDepth 100000 in
theorem c_X6_apart (l : Launch) (D : va_G) (cI cC cQ : ClassId) (x0 : Int32) (x1 : Int32) (Q : Int32 → Prop) (h : wX6_apart x0 x1 Q) : Ci (S := Unit) l D cI cC cQ yX6_apart wsX6_apart rmX6_apart [.int x0, .int x1] [] (fun _ => []) (fun r _ => Q r) := by
  refine Ci_mk (cc := cX6_apart) (maxL := 2) (by decide) rfl (Nat.le_of_ble_eq_true rfl) ?_
  intro p e s m args below meth c A Z ls hx hb hml hown hts hK hA hP hD hret hl
  have hS : va_S A s.heap s.heap [] := va_S.rf
  have hl : lv_has ls 2 [(0, .int x0), (1, .int x1)] := hl
  refine lv_iload_n hx hb dX6_apart_0 rfl (lv_at hl 0 rfl) ?_
  refine lv_iload_n hx hb dX6_apart_1 rfl (lv_at hl 1 rfl) ?_
  refine lv_icmp_ge (tgt := 11) hx hb dX6_apart_2 (by decide) (fun c_1 => ?_) (fun c_1 => ?_)
  · have h := h.1 c_1
    refine lv_iload_n hx hb dX6_apart_11 rfl (lv_at hl 0 rfl) ?_
    refine lv_iload_n hx hb dX6_apart_12 rfl (lv_at hl 1 rfl) ?_
    refine lv_isub hx hb dX6_apart_13 ?_
    exact hret (x0 - x1) () _ _ _ ls h hP hD hS dX6_apart_14
  · have h := h.2 c_1
    refine lv_iload_n hx hb dX6_apart_5 rfl (lv_at hl 1 rfl) ?_
    refine lv_iload_n hx hb dX6_apart_6 rfl (lv_at hl 0 rfl) ?_
    refine lv_isub hx hb dX6_apart_7 ?_
    refine lv_goto (tgt := 14) hx hb dX6_apart_8 (by decide) ?_
    exact hret (x1 - x0) () _ _ _ ls h hP hD hS dX6_apart_14

/-! DoubtCourtModel.goesTo -/
abbrev rmX6_goesTo : Room := { frames := 1, cells := 0, slots := 0, locals := 23 }
theorem yoX6_goesTo : yX6_goesTo.cls ≠ "java/lang/invoke/MethodHandle" ∧ yX6_goesTo.cls ≠ "java/lang/invoke/VarHandle" ∧ (parseMethodDescriptor yX6_goesTo.desc).map (fun d => d.parameters.length) = some 1 := by decide +kernel
set_option maxHeartbeats 4000000 in
set_option maxRecDepth 100000 in
theorem c_X6_goesTo (l : Launch) (D : va_G) (cI cC cQ : ClassId) (h6 : Nat) (a_mt : Nat) (a_mo : Nat) (a_md : Nat) (a_mb : Nat) (a_ms : Nat) (a_mp : Nat) (a_mi : Nat) (a_mn : Nat) (a_mh : Nat) (a_mg : Nat) (a_mr : Nat) (a_mx : Nat) (mt : Nat → Int32) (my : Int32) (mo : Nat → Int32) (md : Nat → Int32) (mb : Nat → Int32) (ms : Nat → Int32) (mp : Nat → Int32) (mk : Int32) (mi : Nat → Int32) (mq : Int32) (mn : Nat → Int32) (mz : Int32) (ma : Int32) (mh : Nat → Int32) (mg : Nat → Int32) (mr : Nat → Int32) (mx : Nat → Int32) (x1 : Int32) (Q : Int32 → Prop) (h : wX6_goesTo x1 mo ms Q) : Ci (S := Unit) l D cI cC cQ yX6_goesTo wsX6_goesTo rmX6_goesTo [.ref h6, .int x1] [(h6, .inr (6, [.ref a_mt, .int my, .ref a_mo, .ref a_md, .ref a_mb, .ref a_ms, .ref a_mp, .int mk, .ref a_mi, .int mq, .ref a_mn, .int mz, .int ma, .ref a_mh, .ref a_mg, .ref a_mr, .ref a_mx])), (a_mt, .inl (cI, 200, .inl mt)), (a_mo, .inl (cI, 16, .inl mo)), (a_md, .inl (cI, 16, .inl md)), (a_mb, .inl (cI, 56, .inl mb)), (a_ms, .inl (cI, 56, .inl ms)), (a_mp, .inl (cI, 448, .inl mp)), (a_mi, .inl (cI, 112, .inl mi)), (a_mn, .inl (cI, 12, .inl mn)), (a_mh, .inl (cI, 42, .inl mh)), (a_mg, .inl (cI, 56, .inl mg)), (a_mr, .inl (cI, 6, .inl mr)), (a_mx, .inl (cI, 6, .inl mx))] (fun _ => [(h6, .inr (6, [.ref a_mt, .int my, .ref a_mo, .ref a_md, .ref a_mb, .ref a_ms, .ref a_mp, .int mk, .ref a_mi, .int mq, .ref a_mn, .int mz, .int ma, .ref a_mh, .ref a_mg, .ref a_mr, .ref a_mx])), (a_mt, .inl (cI, 200, .inl mt)), (a_mo, .inl (cI, 16, .inl mo)), (a_md, .inl (cI, 16, .inl md)), (a_mb, .inl (cI, 56, .inl mb)), (a_ms, .inl (cI, 56, .inl ms)), (a_mp, .inl (cI, 448, .inl mp)), (a_mi, .inl (cI, 112, .inl mi)), (a_mn, .inl (cI, 12, .inl mn)), (a_mh, .inl (cI, 42, .inl mh)), (a_mg, .inl (cI, 56, .inl mg)), (a_mr, .inl (cI, 6, .inl mr)), (a_mx, .inl (cI, 6, .inl mx))]) (fun r _ => Q r) := by
  refine Ci_mk (cc := cX6_goesTo) (maxL := 8) (by decide) rfl (Nat.le_of_ble_eq_true rfl) ?_
  intro p e s m args below meth c A Z ls hx hb hml hown hts hK hA hP hD hret hl
  have hS : va_S A s.heap s.heap [] := va_S.rf
  have hin6 : ∀ w ∈ u_ws RX6 TX6 17, w ∈ wsX6_goesTo := by decide +kernel
  have k_0 := hts (.fieldLink RX6 22 "DoubtCourtModel" "s" "[I") (by decide +kernel)
  have k_1 := hts (.fieldLink RX6 13 "DoubtCourtModel" "told" "[I") (by decide +kernel)
  have hl : lv_has ls 8 [(0, .ref h6), (1, .int x1)] := hl
  have L55 : ∀ (n : Nat) {x1 : Int32} {x3 : Int32} {x4 : Int32} {x5 : Int32} {x6 : Int32} {H : Heap} {locs : List Loc} {ls : Array Slot}, wX6_goesTo_L55 x1 x3 mo ms Q n x4 x5 x6 → va_P D vwCl [(h6, .inr (6, [.ref a_mt, .int my, .ref a_mo, .ref a_md, .ref a_mb, .ref a_ms, .ref a_mp, .int mk, .ref a_mi, .int mq, .ref a_mn, .int mz, .int ma, .ref a_mh, .ref a_mg, .ref a_mr, .ref a_mx])), (a_mt, .inl (cI, 200, .inl mt)), (a_mo, .inl (cI, 16, .inl mo)), (a_md, .inl (cI, 16, .inl md)), (a_mb, .inl (cI, 56, .inl mb)), (a_ms, .inl (cI, 56, .inl ms)), (a_mp, .inl (cI, 448, .inl mp)), (a_mi, .inl (cI, 112, .inl mi)), (a_mn, .inl (cI, 12, .inl mn)), (a_mh, .inl (cI, 42, .inl mh)), (a_mg, .inl (cI, 56, .inl mg)), (a_mr, .inl (cI, 6, .inl mr)), (a_mx, .inl (cI, 6, .inl mx))] H → va_D A [(h6, .inr (6, [.ref a_mt, .int my, .ref a_mo, .ref a_md, .ref a_mb, .ref a_ms, .ref a_mp, .int mk, .ref a_mi, .int mq, .ref a_mn, .int mz, .int ma, .ref a_mh, .ref a_mg, .ref a_mr, .ref a_mx])), (a_mt, .inl (cI, 200, .inl mt)), (a_mo, .inl (cI, 16, .inl mo)), (a_md, .inl (cI, 16, .inl md)), (a_mb, .inl (cI, 56, .inl mb)), (a_ms, .inl (cI, 56, .inl ms)), (a_mp, .inl (cI, 448, .inl mp)), (a_mi, .inl (cI, 112, .inl mi)), (a_mn, .inl (cI, 12, .inl mn)), (a_mh, .inl (cI, 42, .inl mh)), (a_mg, .inl (cI, 56, .inl mg)), (a_mr, .inl (cI, 6, .inl mr)), (a_mx, .inl (cI, 6, .inl mx))] → va_S A s.heap H locs → lv_has ls 8 [(0, .ref h6), (1, .int x1), (3, .int x3), (4, .int x4), (5, .int x5), (6, .int x6)] → W p l e rmX6_goesTo s m args below meth c H locs 0 0 Z (F0 m 55 ls []) := by
    intro n
    induction n with
    | zero =>
      intro x1 x3 x4 x5 x6 H locs ls h hP hD hS hl
      exact (show False from h).elim
    | succ n ih =>
      intro x1 x3 x4 x5 x6 H locs ls h hP hD hS hl
      refine lv_iload hx hb dX6_goesTo_55 (lv_at hl 5 rfl) ?_
      refine lv_aload_n hx hb dX6_goesTo_57 rfl (lv_at hl 0 rfl) ?_
      refine va_get (D := D) (ci := 6) (v := .ref a_mo) (C := RX6) (T := TX6) (N := 17) hx hb hts hin6 hown hK.1 hP 0 rfl rfl 2 (by decide) (k_1) (fun _ h9 => h9) rfl dX6_goesTo_58 ?_
      refine lv_iconst (v := 0) hx hb dX6_goesTo_61 (by decide) ?_
      refine z_iald (k := 0) hx hb hK.1 hP 2 rfl (by decide) vi_0_16 dX6_goesTo_62 ?_
      refine lv_icmp_ge (tgt := 113) hx hb dX6_goesTo_63 (by decide) (fun c_15 => ?_) (fun c_15 => ?_)
      · have h := h.1 c_15
        refine lv_iload hx hb dX6_goesTo_113 (lv_at hl 3 rfl) ?_
        exact hret x4 () _ _ _ ls h hP hD hS dX6_goesTo_115
      · have h := h.2 c_15
        refine lv_aload_n hx hb dX6_goesTo_66 rfl (lv_at hl 0 rfl) ?_
        refine lv_iload hx hb dX6_goesTo_67 (lv_at hl 5 rfl) ?_
        refine k0V_i (As := [.int x6]) (n := 1) ⟨hx, hb, hml, hown, hts⟩ hK hP hD hS hA (c_X6_whoAt l D cI cC cQ h6 a_mt a_mo a_md a_mb a_ms a_mp a_mi a_mn a_mh a_mg a_mr a_mx mt my mo md mb ms mp mk mi mq mn mz ma mh mg mr mx x6 _ h) gX6_goesTo_X6_whoAt rfl rfl ⟨rfl, rfl⟩ yoX6_whoAt ⟨Nat.le_of_ble_eq_true rfl, Nat.le_of_ble_eq_true rfl⟩ (q0 := 0) (ci := 6) rfl rfl rfl rfl hl.1 rfl (Nat.le_of_ble_eq_true rfl) dX6_goesTo_69 ⟨Nat.zero_le _, Nat.zero_le _⟩ (fun r_16 u H locs h hP hD hS => ?_)
        refine lv_istore (lv' := [(7, .int r_16), (0, .ref h6), (1, .int x1), (3, .int x3), (4, .int x4), (5, .int x5), (6, .int x6)]) hx hb dX6_goesTo_72 hl (by decide) rfl (fun ls hl => ?_)
        refine lv_aload_n hx hb dX6_goesTo_74 rfl (lv_at hl 1 rfl) ?_
        refine lv_iload hx hb dX6_goesTo_75 (lv_at hl 0 rfl) ?_
        refine lv_iload_n hx hb dX6_goesTo_77 rfl (lv_at hl 2 rfl) ?_
        refine k0V_i (As := [.int r_16, .int x1]) (n := 2) ⟨hx, hb, hml, hown, hts⟩ hK hP hD hS hA (c_X6_doubts l D cI cC cQ h6 a_mt a_mo a_md a_mb a_ms a_mp a_mi a_mn a_mh a_mg a_mr a_mx mt my mo md mb ms mp mk mi mq mn mz ma mh mg mr mx r_16 x1 _ h) gX6_goesTo_X6_doubts rfl rfl ⟨rfl, rfl⟩ yoX6_doubts ⟨Nat.le_of_ble_eq_true rfl, Nat.le_of_ble_eq_true rfl⟩ (q0 := 0) (ci := 6) rfl rfl rfl rfl hl.1 rfl (Nat.le_of_ble_eq_true rfl) dX6_goesTo_78 ⟨Nat.zero_le _, Nat.zero_le _⟩ (fun r_17 u H locs h hP hD hS => ?_)
        obtain ⟨b_18, h⟩ := h
        refine lv_if_eq (tgt := 107) hx hb dX6_goesTo_81 (by decide) (fun c_19 => ?_) (fun c_19 => ?_)
        · have h := h.1 c_19
          refine lv_iinc (v := (x6 + (1 : Int32))) (lv' := [(6, .int (x6 + (1 : Int32))), (7, .int r_16), (0, .ref h6), (1, .int x1), (3, .int x3), (4, .int x4), (5, .int x5)]) hx hb dX6_goesTo_107 hl (k := 6) rfl rfl (by decide) rfl (fun ls hl => ?_)
          refine lv_goto (tgt := 55) hx hb dX6_goesTo_110 (by decide) ?_
          exact ih h hP hD hS (lv_sub hl [2, 3, 4, 5, 6, 0] rfl)
        · have h := h.2 c_19
          refine lv_iload hx hb dX6_goesTo_84 (lv_at hl 6 rfl) ?_
          refine lv_iload_n hx hb dX6_goesTo_86 rfl (lv_at hl 3 rfl) ?_
          refine kS_i (wr := [(h6, .inr (6, [.ref a_mt, .int my, .ref a_mo, .ref a_md, .ref a_mb, .ref a_ms, .ref a_mp, .int mk, .ref a_mi, .int mq, .ref a_mn, .int mz, .int ma, .ref a_mh, .ref a_mg, .ref a_mr, .ref a_mx])), (a_mt, .inl (cI, 200, .inl mt)), (a_mo, .inl (cI, 16, .inl mo)), (a_md, .inl (cI, 16, .inl md)), (a_mb, .inl (cI, 56, .inl mb)), (a_ms, .inl (cI, 56, .inl ms)), (a_mp, .inl (cI, 448, .inl mp)), (a_mi, .inl (cI, 112, .inl mi)), (a_mn, .inl (cI, 12, .inl mn)), (a_mh, .inl (cI, 42, .inl mh)), (a_mg, .inl (cI, 56, .inl mg)), (a_mr, .inl (cI, 6, .inl mr)), (a_mx, .inl (cI, 6, .inl mx))]) (As := [.int x6, .int x3]) (n := 2) ⟨hx, hb, hml, hown, hts⟩ hK hP hD hS hA (c_X6_apart l D cI cC cQ   x6 x3 _ h) gX6_goesTo_X6_apart rfl ⟨rfl, rfl⟩ yoX6_apart ⟨Nat.le_of_ble_eq_true rfl, Nat.le_of_ble_eq_true rfl⟩ rfl hl.1 rfl (Nat.le_of_ble_eq_true rfl) dX6_goesTo_87 ⟨Nat.zero_le _, Nat.zero_le _⟩ [] [0, 1, 2, 3, 4, 5, 6, 7, 8, 9, 10, 11, 12] rfl (by decide) rfl (by decide) (by decide) (fun r_20 u H locs h hP hD hS => ?_)
          have hP : va_P D vwCl [(h6, .inr (6, [.ref a_mt, .int my, .ref a_mo, .ref a_md, .ref a_mb, .ref a_ms, .ref a_mp, .int mk, .ref a_mi, .int mq, .ref a_mn, .int mz, .int ma, .ref a_mh, .ref a_mg, .ref a_mr, .ref a_mx])), (a_mt, .inl (cI, 200, .inl mt)), (a_mo, .inl (cI, 16, .inl mo)), (a_md, .inl (cI, 16, .inl md)), (a_mb, .inl (cI, 56, .inl mb)), (a_ms, .inl (cI, 56, .inl ms)), (a_mp, .inl (cI, 448, .inl mp)), (a_mi, .inl (cI, 112, .inl mi)), (a_mn, .inl (cI, 12, .inl mn)), (a_mh, .inl (cI, 42, .inl mh)), (a_mg, .inl (cI, 56, .inl mg)), (a_mr, .inl (cI, 6, .inl mr)), (a_mx, .inl (cI, 6, .inl mx))] H := hP
          have hD : va_D A [(h6, .inr (6, [.ref a_mt, .int my, .ref a_mo, .ref a_md, .ref a_mb, .ref a_ms, .ref a_mp, .int mk, .ref a_mi, .int mq, .ref a_mn, .int mz, .int ma, .ref a_mh, .ref a_mg, .ref a_mr, .ref a_mx])), (a_mt, .inl (cI, 200, .inl mt)), (a_mo, .inl (cI, 16, .inl mo)), (a_md, .inl (cI, 16, .inl md)), (a_mb, .inl (cI, 56, .inl mb)), (a_ms, .inl (cI, 56, .inl ms)), (a_mp, .inl (cI, 448, .inl mp)), (a_mi, .inl (cI, 112, .inl mi)), (a_mn, .inl (cI, 12, .inl mn)), (a_mh, .inl (cI, 42, .inl mh)), (a_mg, .inl (cI, 56, .inl mg)), (a_mr, .inl (cI, 6, .inl mr)), (a_mx, .inl (cI, 6, .inl mx))] := hD
          refine lv_iload hx hb dX6_goesTo_90 (lv_at hl 5 rfl) ?_
          refine lv_icmp_ge (tgt := 107) hx hb dX6_goesTo_92 (by decide) (fun c_21 => ?_) (fun c_21 => ?_)
          · have h := h.1 c_21
            refine lv_iinc (v := (x6 + (1 : Int32))) (lv' := [(6, .int (x6 + (1 : Int32))), (7, .int r_16), (0, .ref h6), (1, .int x1), (3, .int x3), (4, .int x4), (5, .int x5)]) hx hb dX6_goesTo_107 hl (k := 6) rfl rfl (by decide) rfl (fun ls hl => ?_)
            refine lv_goto (tgt := 55) hx hb dX6_goesTo_110 (by decide) ?_
            exact ih h hP hD hS (lv_sub hl [2, 3, 4, 5, 6, 0] rfl)
          · have h := h.2 c_21
            refine lv_iload hx hb dX6_goesTo_95 (lv_at hl 0 rfl) ?_
            refine lv_istore (lv' := [(4, .int r_16), (7, .int r_16), (0, .ref h6), (1, .int x1), (3, .int x3), (5, .int x5), (6, .int x6)]) hx hb dX6_goesTo_97 hl (by decide) rfl (fun ls hl => ?_)
            refine lv_iload hx hb dX6_goesTo_99 (lv_at hl 6 rfl) ?_
            refine lv_iload_n hx hb dX6_goesTo_101 rfl (lv_at hl 4 rfl) ?_
            refine kS_i (wr := [(h6, .inr (6, [.ref a_mt, .int my, .ref a_mo, .ref a_md, .ref a_mb, .ref a_ms, .ref a_mp, .int mk, .ref a_mi, .int mq, .ref a_mn, .int mz, .int ma, .ref a_mh, .ref a_mg, .ref a_mr, .ref a_mx])), (a_mt, .inl (cI, 200, .inl mt)), (a_mo, .inl (cI, 16, .inl mo)), (a_md, .inl (cI, 16, .inl md)), (a_mb, .inl (cI, 56, .inl mb)), (a_ms, .inl (cI, 56, .inl ms)), (a_mp, .inl (cI, 448, .inl mp)), (a_mi, .inl (cI, 112, .inl mi)), (a_mn, .inl (cI, 12, .inl mn)), (a_mh, .inl (cI, 42, .inl mh)), (a_mg, .inl (cI, 56, .inl mg)), (a_mr, .inl (cI, 6, .inl mr)), (a_mx, .inl (cI, 6, .inl mx))]) (As := [.int x6, .int x3]) (n := 2) ⟨hx, hb, hml, hown, hts⟩ hK hP hD hS hA (c_X6_apart l D cI cC cQ   x6 x3 _ h) gX6_goesTo_X6_apart rfl ⟨rfl, rfl⟩ yoX6_apart ⟨Nat.le_of_ble_eq_true rfl, Nat.le_of_ble_eq_true rfl⟩ rfl hl.1 rfl (Nat.le_of_ble_eq_true rfl) dX6_goesTo_102 ⟨Nat.zero_le _, Nat.zero_le _⟩ [] [0, 1, 2, 3, 4, 5, 6, 7, 8, 9, 10, 11, 12] rfl (by decide) rfl (by decide) (by decide) (fun r_22 u H locs h hP hD hS => ?_)
            have hP : va_P D vwCl [(h6, .inr (6, [.ref a_mt, .int my, .ref a_mo, .ref a_md, .ref a_mb, .ref a_ms, .ref a_mp, .int mk, .ref a_mi, .int mq, .ref a_mn, .int mz, .int ma, .ref a_mh, .ref a_mg, .ref a_mr, .ref a_mx])), (a_mt, .inl (cI, 200, .inl mt)), (a_mo, .inl (cI, 16, .inl mo)), (a_md, .inl (cI, 16, .inl md)), (a_mb, .inl (cI, 56, .inl mb)), (a_ms, .inl (cI, 56, .inl ms)), (a_mp, .inl (cI, 448, .inl mp)), (a_mi, .inl (cI, 112, .inl mi)), (a_mn, .inl (cI, 12, .inl mn)), (a_mh, .inl (cI, 42, .inl mh)), (a_mg, .inl (cI, 56, .inl mg)), (a_mr, .inl (cI, 6, .inl mr)), (a_mx, .inl (cI, 6, .inl mx))] H := hP
            have hD : va_D A [(h6, .inr (6, [.ref a_mt, .int my, .ref a_mo, .ref a_md, .ref a_mb, .ref a_ms, .ref a_mp, .int mk, .ref a_mi, .int mq, .ref a_mn, .int mz, .int ma, .ref a_mh, .ref a_mg, .ref a_mr, .ref a_mx])), (a_mt, .inl (cI, 200, .inl mt)), (a_mo, .inl (cI, 16, .inl mo)), (a_md, .inl (cI, 16, .inl md)), (a_mb, .inl (cI, 56, .inl mb)), (a_ms, .inl (cI, 56, .inl ms)), (a_mp, .inl (cI, 448, .inl mp)), (a_mi, .inl (cI, 112, .inl mi)), (a_mn, .inl (cI, 12, .inl mn)), (a_mh, .inl (cI, 42, .inl mh)), (a_mg, .inl (cI, 56, .inl mg)), (a_mr, .inl (cI, 6, .inl mr)), (a_mx, .inl (cI, 6, .inl mx))] := hD
            refine lv_istore (lv' := [(5, .int r_22), (4, .int r_16), (7, .int r_16), (0, .ref h6), (1, .int x1), (3, .int x3), (6, .int x6)]) hx hb dX6_goesTo_105 hl (by decide) rfl (fun ls hl => ?_)
            refine lv_iinc (v := (x6 + (1 : Int32))) (lv' := [(6, .int (x6 + (1 : Int32))), (5, .int r_22), (4, .int r_16), (7, .int r_16), (0, .ref h6), (1, .int x1), (3, .int x3)]) hx hb dX6_goesTo_107 hl (k := 6) rfl rfl (by decide) rfl (fun ls hl => ?_)
            refine lv_goto (tgt := 55) hx hb dX6_goesTo_110 (by decide) ?_
            exact ih h hP hD hS (lv_sub hl [4, 5, 6, 2, 1, 0] rfl)
  refine lv_aload_n hx hb dX6_goesTo_0 rfl (lv_at hl 0 rfl) ?_
  refine va_get (D := D) (ci := 6) (v := .ref a_ms) (C := RX6) (T := TX6) (N := 17) hx hb hts hin6 hown hK.1 hP 0 rfl rfl 5 (by decide) (k_0) (fun _ h9 => h9) rfl dX6_goesTo_1 ?_
  refine lv_bipush (v := 8) hx hb dX6_goesTo_4 (by decide) ?_
  refine lv_iload_n hx hb dX6_goesTo_6 rfl (lv_at hl 1 rfl) ?_
  refine lv_iadd hx hb dX6_goesTo_7 ?_
  refine z_iald (k := ((8 : Int32) + x1).toNatClampNeg) hx hb hK.1 hP 5 rfl rfl h.1 dX6_goesTo_8 ?_
  have h := h.2
  refine lv_topi (fun v_1 ev_1 => ?_)
  have h := h v_1 ev_1
  refine lv_istore_n (lv' := [(2, .int v_1), (0, .ref h6), (1, .int x1)]) hx hb dX6_goesTo_9 rfl hl (by decide) rfl (fun ls hl => ?_)
  refine lv_iload_n hx hb dX6_goesTo_10 rfl (lv_at hl 0 rfl) ?_
  refine lv_bipush (v := 9) hx hb dX6_goesTo_11 (by decide) ?_
  refine lv_icmp_ne (tgt := 19) hx hb dX6_goesTo_13 (by decide) (fun c_2 => ?_) (fun c_2 => ?_)
  · have h := h.2 c_2
    refine lv_aload_n hx hb dX6_goesTo_19 rfl (lv_at hl 1 rfl) ?_
    refine va_get (D := D) (ci := 6) (v := .ref a_ms) (C := RX6) (T := TX6) (N := 17) hx hb hts hin6 hown hK.1 hP 0 rfl rfl 5 (by decide) (k_0) (fun _ h9 => h9) rfl dX6_goesTo_20 ?_
    refine lv_iconst (v := 1) hx hb dX6_goesTo_23 (by decide) ?_
    refine lv_iload_n hx hb dX6_goesTo_24 rfl (lv_at hl 0 rfl) ?_
    refine lv_iadd hx hb dX6_goesTo_25 ?_
    refine z_iald (k := ((1 : Int32) + v_1).toNatClampNeg) hx hb hK.1 hP 5 rfl rfl h.1 dX6_goesTo_26 ?_
    have h := h.2
    refine lv_topi (fun v_3 ev_3 => ?_)
    have h := h v_3 ev_3
    refine lv_istore_n (lv' := [(3, .int v_3), (2, .int v_1), (0, .ref h6), (1, .int x1)]) hx hb dX6_goesTo_27 rfl hl (by decide) rfl (fun ls hl => ?_)
    refine lv_aload_n hx hb dX6_goesTo_28 rfl (lv_at hl 2 rfl) ?_
    refine lv_iload_n hx hb dX6_goesTo_29 rfl (lv_at hl 1 rfl) ?_
    refine lv_iload_n hx hb dX6_goesTo_30 rfl (lv_at hl 3 rfl) ?_
    refine k0V_i (As := [.int v_1, .int x1]) (n := 2) ⟨hx, hb, hml, hown, hts⟩ hK hP hD hS hA (c_X6_doubts l D cI cC cQ h6 a_mt a_mo a_md a_mb a_ms a_mp a_mi a_mn a_mh a_mg a_mr a_mx mt my mo md mb ms mp mk mi mq mn mz ma mh mg mr mx v_1 x1 _ h) gX6_goesTo_X6_doubts rfl rfl ⟨rfl, rfl⟩ yoX6_doubts ⟨Nat.le_of_ble_eq_true rfl, Nat.le_of_ble_eq_true rfl⟩ (q0 := 0) (ci := 6) rfl rfl rfl rfl hl.1 rfl (Nat.le_of_ble_eq_true rfl) dX6_goesTo_31 ⟨Nat.zero_le _, Nat.zero_le _⟩ (fun r_4 u H locs h hP hD hS => ?_)
    obtain ⟨b_5, h⟩ := h
    refine lv_if_eq (tgt := 45) hx hb dX6_goesTo_34 (by decide) (fun c_6 => ?_) (fun c_6 => ?_)
    · have h := h.1 c_6
      refine lv_iload_n hx hb dX6_goesTo_45 rfl (lv_at hl 1 rfl) ?_
      refine lv_istore (lv' := [(4, .int v_1), (3, .int v_3), (2, .int v_1), (0, .ref h6), (1, .int x1)]) hx hb dX6_goesTo_46 hl (by decide) rfl (fun ls hl => ?_)
      refine lv_bipush (v := 99) hx hb dX6_goesTo_48 (by decide) ?_
      refine lv_istore (lv' := [(5, .int (99 : Int32)), (4, .int v_1), (3, .int v_3), (2, .int v_1), (0, .ref h6), (1, .int x1)]) hx hb dX6_goesTo_50 hl (by decide) rfl (fun ls hl => ?_)
      refine lv_iconst (v := 0) hx hb dX6_goesTo_52 (by decide) ?_
      refine lv_istore (lv' := [(6, .int (0 : Int32)), (5, .int (99 : Int32)), (4, .int v_1), (3, .int v_3), (2, .int v_1), (0, .ref h6), (1, .int x1)]) hx hb dX6_goesTo_53 hl (by decide) rfl (fun ls hl => ?_)
      obtain ⟨n_23, h⟩ := h
      exact L55 n_23 h hP hD hS (lv_sub hl [5, 6, 3, 2, 1, 0] rfl)
    · have h := h.2 c_6
      refine lv_aload_n hx hb dX6_goesTo_37 rfl (lv_at hl 2 rfl) ?_
      refine lv_iload_n hx hb dX6_goesTo_38 rfl (lv_at hl 0 rfl) ?_
      refine lv_iconst (v := 1) hx hb dX6_goesTo_39 (by decide) ?_
      refine lv_isub hx hb dX6_goesTo_40 ?_
      refine k0V_i (As := [.int (v_3 - (1 : Int32))]) (n := 1) ⟨hx, hb, hml, hown, hts⟩ hK hP hD hS hA (c_X6_whoAt l D cI cC cQ h6 a_mt a_mo a_md a_mb a_ms a_mp a_mi a_mn a_mh a_mg a_mr a_mx mt my mo md mb ms mp mk mi mq mn mz ma mh mg mr mx (v_3 - (1 : Int32)) _ h) gX6_goesTo_X6_whoAt rfl rfl ⟨rfl, rfl⟩ yoX6_whoAt ⟨Nat.le_of_ble_eq_true rfl, Nat.le_of_ble_eq_true rfl⟩ (q0 := 0) (ci := 6) rfl rfl rfl rfl hl.1 rfl (Nat.le_of_ble_eq_true rfl) dX6_goesTo_41 ⟨Nat.zero_le _, Nat.zero_le _⟩ (fun r_24 u H locs h hP hD hS => ?_)
      exact hret r_24 () _ _ _ ls h hP hD hS dX6_goesTo_44
  · have h := h.1 c_2
    refine lv_bipush (v := 9) hx hb dX6_goesTo_16 (by decide) ?_
    exact hret (9 : Int32) () _ _ _ ls h hP hD hS dX6_goesTo_18

/-! DoubtCourtModel.within -/
abbrev rmX6_within : Room := { frames := 0, cells := 0, slots := 0, locals := 0 }
theorem yoX6_within : yX6_within.cls ≠ "java/lang/invoke/MethodHandle" ∧ yX6_within.cls ≠ "java/lang/invoke/VarHandle" ∧ (parseMethodDescriptor yX6_within.desc).map (fun d => d.parameters.length) = some 1 := by decide +kernel
set_option maxHeartbeats 4000000 in
set_option maxRecDepth 100000 in
theorem c_X6_within (l : Launch) (D : va_G) (cI cC cQ : ClassId) (x0 : Int32) (Q : Int32 → Prop) (h : wX6_within x0 Q) : Ci (S := Unit) l D cI cC cQ yX6_within wsX6_within rmX6_within [.int x0] [] (fun _ => []) (fun r _ => Q r) := by
  refine Ci_mk (cc := cX6_within) (maxL := 1) (by decide) rfl (Nat.le_of_ble_eq_true rfl) ?_
  intro p e s m args below meth c A Z ls hx hb hml hown hts hK hA hP hD hret hl
  have hS : va_S A s.heap s.heap [] := va_S.rf
  have hl : lv_has ls 1 [(0, .int x0)] := hl
  refine lv_iload_n hx hb dX6_within_0 rfl (lv_at hl 0 rfl) ?_
  refine lv_if_ge (tgt := 8) hx hb dX6_within_1 (by decide) (fun c_1 => ?_) (fun c_1 => ?_)
  · have h := h.1 c_1
    refine lv_iload_n hx hb dX6_within_8 rfl (lv_at hl 0 rfl) ?_
    refine lv_bipush (v := 9) hx hb dX6_within_9 (by decide) ?_
    refine lv_icmp_le (tgt := 19) hx hb dX6_within_11 (by decide) (fun c_2 => ?_) (fun c_2 => ?_)
    · have h := h.1 c_2
      refine lv_iload_n hx hb dX6_within_19 rfl (lv_at hl 0 rfl) ?_
      exact hret x0 () _ _ _ ls h hP hD hS dX6_within_20
    · have h := h.2 c_2
      refine lv_bipush (v := 9) hx hb dX6_within_14 (by decide) ?_
      refine lv_goto (tgt := 20) hx hb dX6_within_16 (by decide) ?_
      exact hret (9 : Int32) () _ _ _ ls h hP hD hS dX6_within_20
  · have h := h.2 c_1
    refine lv_iconst (v := 0) hx hb dX6_within_4 (by decide) ?_
    refine lv_goto (tgt := 20) hx hb dX6_within_5 (by decide) ?_
    exact hret (0 : Int32) () _ _ _ ls h hP hD hS dX6_within_20

/-! DoubtCourtModel.grows -/
abbrev rmX6_grows : Room := { frames := 1, cells := 0, slots := 0, locals := 22 }
theorem yoX6_grows : yX6_grows.cls ≠ "java/lang/invoke/MethodHandle" ∧ yX6_grows.cls ≠ "java/lang/invoke/VarHandle" ∧ (parseMethodDescriptor yX6_grows.desc).map (fun d => d.parameters.length) = some 2 := by decide +kernel
set_option maxHeartbeats 4000000 in
set_option maxRecDepth 100000 in
theorem c_X6_grows (l : Launch) (D : va_G) (cI cC cQ : ClassId) (h6 : Nat) (a_mt : Nat) (a_mo : Nat) (a_md : Nat) (a_mb : Nat) (a_ms : Nat) (a_mp : Nat) (a_mi : Nat) (a_mn : Nat) (a_mh : Nat) (a_mg : Nat) (a_mr : Nat) (a_mx : Nat) (mt : Nat → Int32) (my : Int32) (mo : Nat → Int32) (md : Nat → Int32) (mb : Nat → Int32) (ms : Nat → Int32) (mp : Nat → Int32) (mk : Int32) (mi : Nat → Int32) (mq : Int32) (mn : Nat → Int32) (mz : Int32) (ma : Int32) (mh : Nat → Int32) (mg : Nat → Int32) (mr : Nat → Int32) (mx : Nat → Int32) (x1 : Int32) (x2 : Int32) (Q : Int32 → Prop) (h : wX6_grows x1 x2 mo ms Q) : Ci (S := Unit) l D cI cC cQ yX6_grows wsX6_grows rmX6_grows [.ref h6, .int x1, .int x2] [(h6, .inr (6, [.ref a_mt, .int my, .ref a_mo, .ref a_md, .ref a_mb, .ref a_ms, .ref a_mp, .int mk, .ref a_mi, .int mq, .ref a_mn, .int mz, .int ma, .ref a_mh, .ref a_mg, .ref a_mr, .ref a_mx])), (a_mt, .inl (cI, 200, .inl mt)), (a_mo, .inl (cI, 16, .inl mo)), (a_md, .inl (cI, 16, .inl md)), (a_mb, .inl (cI, 56, .inl mb)), (a_ms, .inl (cI, 56, .inl ms)), (a_mp, .inl (cI, 448, .inl mp)), (a_mi, .inl (cI, 112, .inl mi)), (a_mn, .inl (cI, 12, .inl mn)), (a_mh, .inl (cI, 42, .inl mh)), (a_mg, .inl (cI, 56, .inl mg)), (a_mr, .inl (cI, 6, .inl mr)), (a_mx, .inl (cI, 6, .inl mx))] (fun _ => [(h6, .inr (6, [.ref a_mt, .int my, .ref a_mo, .ref a_md, .ref a_mb, .ref a_ms, .ref a_mp, .int mk, .ref a_mi, .int mq, .ref a_mn, .int mz, .int ma, .ref a_mh, .ref a_mg, .ref a_mr, .ref a_mx])), (a_mt, .inl (cI, 200, .inl mt)), (a_mo, .inl (cI, 16, .inl mo)), (a_md, .inl (cI, 16, .inl md)), (a_mb, .inl (cI, 56, .inl mb)), (a_ms, .inl (cI, 56, .inl ms)), (a_mp, .inl (cI, 448, .inl mp)), (a_mi, .inl (cI, 112, .inl mi)), (a_mn, .inl (cI, 12, .inl mn)), (a_mh, .inl (cI, 42, .inl mh)), (a_mg, .inl (cI, 56, .inl mg)), (a_mr, .inl (cI, 6, .inl mr)), (a_mx, .inl (cI, 6, .inl mx))]) (fun r _ => Q r) := by
  refine Ci_mk (cc := cX6_grows) (maxL := 5) (by decide) rfl (Nat.le_of_ble_eq_true rfl) ?_
  intro p e s m args below meth c A Z ls hx hb hml hown hts hK hA hP hD hret hl
  have hS : va_S A s.heap s.heap [] := va_S.rf
  have hin6 : ∀ w ∈ u_ws RX6 TX6 17, w ∈ wsX6_grows := by decide +kernel
  have k_0 := hts (.fieldLink RX6 13 "DoubtCourtModel" "told" "[I") (by decide +kernel)
  have k_1 := hts (.fieldLink RX6 22 "DoubtCourtModel" "s" "[I") (by decide +kernel)
  have hl : lv_has ls 5 [(0, .ref h6), (1, .int x1), (2, .int x2)] := hl
  have J26 : ∀ {x1 : Int32} {x2 : Int32} {s0 : Int32} {H : Heap} {locs : List Loc} {ls : Array Slot}, wX6_grows_J26 x1 x2 s0 mo ms Q → va_P D vwCl [(h6, .inr (6, [.ref a_mt, .int my, .ref a_mo, .ref a_md, .ref a_mb, .ref a_ms, .ref a_mp, .int mk, .ref a_mi, .int mq, .ref a_mn, .int mz, .int ma, .ref a_mh, .ref a_mg, .ref a_mr, .ref a_mx])), (a_mt, .inl (cI, 200, .inl mt)), (a_mo, .inl (cI, 16, .inl mo)), (a_md, .inl (cI, 16, .inl md)), (a_mb, .inl (cI, 56, .inl mb)), (a_ms, .inl (cI, 56, .inl ms)), (a_mp, .inl (cI, 448, .inl mp)), (a_mi, .inl (cI, 112, .inl mi)), (a_mn, .inl (cI, 12, .inl mn)), (a_mh, .inl (cI, 42, .inl mh)), (a_mg, .inl (cI, 56, .inl mg)), (a_mr, .inl (cI, 6, .inl mr)), (a_mx, .inl (cI, 6, .inl mx))] H → va_D A [(h6, .inr (6, [.ref a_mt, .int my, .ref a_mo, .ref a_md, .ref a_mb, .ref a_ms, .ref a_mp, .int mk, .ref a_mi, .int mq, .ref a_mn, .int mz, .int ma, .ref a_mh, .ref a_mg, .ref a_mr, .ref a_mx])), (a_mt, .inl (cI, 200, .inl mt)), (a_mo, .inl (cI, 16, .inl mo)), (a_md, .inl (cI, 16, .inl md)), (a_mb, .inl (cI, 56, .inl mb)), (a_ms, .inl (cI, 56, .inl ms)), (a_mp, .inl (cI, 448, .inl mp)), (a_mi, .inl (cI, 112, .inl mi)), (a_mn, .inl (cI, 12, .inl mn)), (a_mh, .inl (cI, 42, .inl mh)), (a_mg, .inl (cI, 56, .inl mg)), (a_mr, .inl (cI, 6, .inl mr)), (a_mx, .inl (cI, 6, .inl mx))] → va_S A s.heap H locs → lv_has ls 5 [(0, .ref h6), (1, .int x1), (2, .int x2)] → W p l e rmX6_grows s m args below meth c H locs 0 0 Z (F0 m 26 ls [.int s0]) := by
    intro x1 x2 s0 H locs ls h hP hD hS hl
    refine lv_istore (lv' := [(4, .int s0), (0, .ref h6), (1, .int x1), (2, .int x2)]) hx hb dX6_grows_26 hl (by decide) rfl (fun ls hl => ?_)
    refine lv_aload_n hx hb dX6_grows_28 rfl (lv_at hl 1 rfl) ?_
    refine va_get (D := D) (ci := 6) (v := .ref a_mo) (C := RX6) (T := TX6) (N := 17) hx hb hts hin6 hown hK.1 hP 0 rfl rfl 2 (by decide) (k_0) (fun _ h9 => h9) rfl dX6_grows_29 ?_
    refine lv_iconst (v := 2) hx hb dX6_grows_32 (by decide) ?_
    refine lv_iload_n hx hb dX6_grows_33 rfl (lv_at hl 2 rfl) ?_
    refine lv_iadd hx hb dX6_grows_34 ?_
    refine z_iald (k := ((2 : Int32) + x1).toNatClampNeg) hx hb hK.1 hP 2 rfl rfl h.1 dX6_grows_35 ?_
    have h := h.2
    rcases sw_2 (mo (((2 : Int32) + x1).toNatClampNeg)) with c_3 | c_3 | c_3 | c_3
    · have h := h.1 c_3
      refine lv_tableOut (tgt := 88) hx hb dX6_grows_36 c_3 (by decide) ?_
      refine lv_aload_n hx hb dX6_grows_88 rfl (lv_at hl 1 rfl) ?_
      refine va_get (D := D) (ci := 6) (v := .ref a_ms) (C := RX6) (T := TX6) (N := 17) hx hb hts hin6 hown hK.1 hP 0 rfl rfl 5 (by decide) (k_1) (fun _ h9 => h9) rfl dX6_grows_89 ?_
      refine lv_bipush (v := 8) hx hb dX6_grows_92 (by decide) ?_
      refine lv_iload_n hx hb dX6_grows_94 rfl (lv_at hl 3 rfl) ?_
      refine lv_iadd hx hb dX6_grows_95 ?_
      refine z_iald (k := ((8 : Int32) + x2).toNatClampNeg) hx hb hK.1 hP 5 rfl rfl h.1 dX6_grows_96 ?_
      have h := h.2
      refine lv_iload_n hx hb dX6_grows_97 rfl (lv_at hl 2 rfl) ?_
      refine lv_icmp_ne (tgt := 105) hx hb dX6_grows_98 (by decide) (fun c_4 => ?_) (fun c_4 => ?_)
      · have h := h.2 c_4
        refine lv_iconst (v := -1) hx hb dX6_grows_105 (by decide) ?_
        exact hret (-1 : Int32) () _ _ _ ls h hP hD hS dX6_grows_106
      · have h := h.1 c_4
        refine lv_iconst (v := 0) hx hb dX6_grows_101 (by decide) ?_
        refine lv_goto (tgt := 106) hx hb dX6_grows_102 (by decide) ?_
        exact hret (0 : Int32) () _ _ _ ls h hP hD hS dX6_grows_106
    · have h := h.2.1 c_3
      refine lv_tableIn (tgt := 64) (off := 28) hx hb dX6_grows_36 (by rw [c_3]; decide) (by rw [c_3]; decide) (by rw [c_3]; rfl) (by decide) ?_
      refine lv_iload hx hb dX6_grows_64 (lv_at hl 0 rfl) ?_
      refine lv_if_eq (tgt := 73) hx hb dX6_grows_66 (by decide) (fun c_5 => ?_) (fun c_5 => ?_)
      · have h := h.1 c_5
        refine lv_iconst (v := 0) hx hb dX6_grows_73 (by decide) ?_
        exact hret (0 : Int32) () _ _ _ ls h hP hD hS dX6_grows_74
      · have h := h.2 c_5
        refine lv_iconst (v := 1) hx hb dX6_grows_69 (by decide) ?_
        refine lv_goto (tgt := 74) hx hb dX6_grows_70 (by decide) ?_
        exact hret (1 : Int32) () _ _ _ ls h hP hD hS dX6_grows_74
    · have h := h.2.2.1 c_3
      refine lv_tableIn (tgt := 75) (off := 39) hx hb dX6_grows_36 (by rw [c_3]; decide) (by rw [c_3]; decide) (by rw [c_3]; rfl) (by decide) ?_
      refine lv_iload hx hb dX6_grows_75 (lv_at hl 0 rfl) ?_
      refine lv_if_eq (tgt := 84) hx hb dX6_grows_77 (by decide) (fun c_6 => ?_) (fun c_6 => ?_)
      · have h := h.1 c_6
        refine lv_iconst (v := 0) hx hb dX6_grows_84 (by decide) ?_
        exact hret (0 : Int32) () _ _ _ ls h hP hD hS dX6_grows_85
      · have h := h.2 c_6
        refine lv_iconst (v := 2) hx hb dX6_grows_80 (by decide) ?_
        refine lv_goto (tgt := 85) hx hb dX6_grows_81 (by decide) ?_
        exact hret (2 : Int32) () _ _ _ ls h hP hD hS dX6_grows_85
    · have h := h.2.2.2 c_3
      refine lv_tableIn (tgt := 86) (off := 50) hx hb dX6_grows_36 (by rw [c_3]; decide) (by rw [c_3]; decide) (by rw [c_3]; rfl) (by decide) ?_
      refine lv_iconst (v := 0) hx hb dX6_grows_86 (by decide) ?_
      exact hret (0 : Int32) () _ _ _ ls h hP hD hS dX6_grows_87
  refine lv_aload_n hx hb dX6_grows_0 rfl (lv_at hl 0 rfl) ?_
  refine lv_iload_n hx hb dX6_grows_1 rfl (lv_at hl 1 rfl) ?_
  refine k0V_i (As := [.int x1]) (n := 1) ⟨hx, hb, hml, hown, hts⟩ hK hP hD hS hA (c_X6_heeded l D cI cC cQ h6 a_mt a_mo a_md a_mb a_ms a_mp a_mi a_mn a_mh a_mg a_mr a_mx mt my mo md mb ms mp mk mi mq mn mz ma mh mg mr mx x1 _ h) gX6_grows_X6_heeded rfl rfl ⟨rfl, rfl⟩ yoX6_heeded ⟨Nat.le_of_ble_eq_true rfl, Nat.le_of_ble_eq_true rfl⟩ (q0 := 0) (ci := 6) rfl rfl rfl rfl hl.1 rfl (Nat.le_of_ble_eq_true rfl) dX6_grows_2 ⟨Nat.zero_le _, Nat.zero_le _⟩ (fun r_1 u H locs h hP hD hS => ?_)
  refine lv_istore_n (lv' := [(3, .int r_1), (0, .ref h6), (1, .int x1), (2, .int x2)]) hx hb dX6_grows_5 rfl hl (by decide) rfl (fun ls hl => ?_)
  refine lv_iload_n hx hb dX6_grows_6 rfl (lv_at hl 0 rfl) ?_
  refine lv_bipush (v := -4) hx hb dX6_grows_7 (by decide) ?_
  refine lv_icmp_eq (tgt := 25) hx hb dX6_grows_9 (by decide) (fun c_2 => ?_) (fun c_2 => ?_)
  · have h := h.1 c_2
    refine lv_iconst (v := 0) hx hb dX6_grows_25 (by decide) ?_
    exact J26 h hP hD hS (lv_sub hl [1, 2, 3] rfl)
  · have h := h.2 c_2
    refine lv_aload_n hx hb dX6_grows_12 rfl (lv_at hl 1 rfl) ?_
    refine lv_iload_n hx hb dX6_grows_13 rfl (lv_at hl 0 rfl) ?_
    refine lv_iload_n hx hb dX6_grows_14 rfl (lv_at hl 3 rfl) ?_
    refine k0V_i (As := [.int r_1, .int x2]) (n := 2) ⟨hx, hb, hml, hown, hts⟩ hK hP hD hS hA (c_X6_doubts l D cI cC cQ h6 a_mt a_mo a_md a_mb a_ms a_mp a_mi a_mn a_mh a_mg a_mr a_mx mt my mo md mb ms mp mk mi mq mn mz ma mh mg mr mx r_1 x2 _ h) gX6_grows_X6_doubts rfl rfl ⟨rfl, rfl⟩ yoX6_doubts ⟨Nat.le_of_ble_eq_true rfl, Nat.le_of_ble_eq_true rfl⟩ (q0 := 0) (ci := 6) rfl rfl rfl rfl hl.1 rfl (Nat.le_of_ble_eq_true rfl) dX6_grows_15 ⟨Nat.zero_le _, Nat.zero_le _⟩ (fun r_7 u H locs h hP hD hS => ?_)
    obtain ⟨b_8, h⟩ := h
    refine lv_if_ne (tgt := 25) hx hb dX6_grows_18 (by decide) (fun c_9 => ?_) (fun c_9 => ?_)
    · have h := h.2 c_9
      refine lv_iconst (v := 0) hx hb dX6_grows_25 (by decide) ?_
      exact J26 h hP hD hS (lv_sub hl [1, 2, 3] rfl)
    · have h := h.1 c_9
      refine lv_iconst (v := 1) hx hb dX6_grows_21 (by decide) ?_
      refine lv_goto (tgt := 26) hx hb dX6_grows_22 (by decide) ?_
      exact J26 h hP hD hS (lv_sub hl [1, 2, 3] rfl)

/-! DoubtCourtModel.passes -/
abbrev rmX6_passes : Room := { frames := 2, cells := 0, slots := 0, locals := 50 }
theorem yoX6_passes : yX6_passes.cls ≠ "java/lang/invoke/MethodHandle" ∧ yX6_passes.cls ≠ "java/lang/invoke/VarHandle" ∧ (parseMethodDescriptor yX6_passes.desc).map (fun d => d.parameters.length) = some 0 := by decide +kernel
set_option maxHeartbeats 4000000 in
set_option maxRecDepth 100000 in
theorem c_X6_passes (l : Launch) (D : va_G) (cI cC cQ : ClassId) (h6 : Nat) (a_mt : Nat) (a_mo : Nat) (a_md : Nat) (a_mb : Nat) (a_ms : Nat) (a_mp : Nat) (a_mi : Nat) (a_mn : Nat) (a_mh : Nat) (a_mg : Nat) (a_mr : Nat) (a_mx : Nat) (mt : Nat → Int32) (my : Int32) (mo : Nat → Int32) (md : Nat → Int32) (mb : Nat → Int32) (ms : Nat → Int32) (mp : Nat → Int32) (mk : Int32) (mi : Nat → Int32) (mq : Int32) (mn : Nat → Int32) (mz : Int32) (ma : Int32) (mh : Nat → Int32) (mg : Nat → Int32) (mr : Nat → Int32) (mx : Nat → Int32) (Q : (Nat → Int32) → (Nat → Int32) → Prop) (h : wX6_passes mo ms mh Q) : Cv (S := (Nat → Int32) × (Nat → Int32)) l D cI cC cQ yX6_passes wsX6_passes rmX6_passes [.ref h6] [(h6, .inr (6, [.ref a_mt, .int my, .ref a_mo, .ref a_md, .ref a_mb, .ref a_ms, .ref a_mp, .int mk, .ref a_mi, .int mq, .ref a_mn, .int mz, .int ma, .ref a_mh, .ref a_mg, .ref a_mr, .ref a_mx])), (a_mt, .inl (cI, 200, .inl mt)), (a_mo, .inl (cI, 16, .inl mo)), (a_md, .inl (cI, 16, .inl md)), (a_mb, .inl (cI, 56, .inl mb)), (a_ms, .inl (cI, 56, .inl ms)), (a_mp, .inl (cI, 448, .inl mp)), (a_mi, .inl (cI, 112, .inl mi)), (a_mn, .inl (cI, 12, .inl mn)), (a_mh, .inl (cI, 42, .inl mh)), (a_mg, .inl (cI, 56, .inl mg)), (a_mr, .inl (cI, 6, .inl mr)), (a_mx, .inl (cI, 6, .inl mx))] (fun u => [(h6, .inr (6, [.ref a_mt, .int my, .ref a_mo, .ref a_md, .ref a_mb, .ref a_ms, .ref a_mp, .int mk, .ref a_mi, .int mq, .ref a_mn, .int mz, .int ma, .ref a_mh, .ref a_mg, .ref a_mr, .ref a_mx])), (a_mt, .inl (cI, 200, .inl mt)), (a_mo, .inl (cI, 16, .inl mo)), (a_md, .inl (cI, 16, .inl md)), (a_mb, .inl (cI, 56, .inl mb)), (a_ms, .inl (cI, 56, .inl u.1)), (a_mp, .inl (cI, 448, .inl mp)), (a_mi, .inl (cI, 112, .inl mi)), (a_mn, .inl (cI, 12, .inl mn)), (a_mh, .inl (cI, 42, .inl u.2)), (a_mg, .inl (cI, 56, .inl mg)), (a_mr, .inl (cI, 6, .inl mr)), (a_mx, .inl (cI, 6, .inl mx))]) (fun u => Q u.1 u.2) := by
  refine Cv_mk (cc := cX6_passes) (maxL := 4) (by decide) rfl (Nat.le_of_ble_eq_true rfl) ?_
  intro p e s m args below meth c A Z ls hx hb hml hown hts hK hA hP hD hret hl
  have hS : va_S A s.heap s.heap [] := va_S.rf
  have hin6 : ∀ w ∈ u_ws RX6 TX6 17, w ∈ wsX6_passes := by decide +kernel
  have k_0 := hts (.fieldLink RX6 13 "DoubtCourtModel" "told" "[I") (by decide +kernel)
  have k_1 := hts (.fieldLink RX6 22 "DoubtCourtModel" "s" "[I") (by decide +kernel)
  have k_2 := hts (.fieldLink RX6 34 "DoubtCourtModel" "then" "[I") (by decide +kernel)
  have hl : lv_has ls 4 [(0, .ref h6)] := hl
  have L2 : ∀ {K32 : (Nat → Int32) → Prop} (n : Nat) {x1 : Int32} {ms : Nat → Int32} {mh : Nat → Int32} {H : Heap} {locs : List Loc} {ls : Array Slot}, wX6_passes_L2 mo K32 n x1 ms → va_P D vwCl [(h6, .inr (6, [.ref a_mt, .int my, .ref a_mo, .ref a_md, .ref a_mb, .ref a_ms, .ref a_mp, .int mk, .ref a_mi, .int mq, .ref a_mn, .int mz, .int ma, .ref a_mh, .ref a_mg, .ref a_mr, .ref a_mx])), (a_mt, .inl (cI, 200, .inl mt)), (a_mo, .inl (cI, 16, .inl mo)), (a_md, .inl (cI, 16, .inl md)), (a_mb, .inl (cI, 56, .inl mb)), (a_ms, .inl (cI, 56, .inl ms)), (a_mp, .inl (cI, 448, .inl mp)), (a_mi, .inl (cI, 112, .inl mi)), (a_mn, .inl (cI, 12, .inl mn)), (a_mh, .inl (cI, 42, .inl mh)), (a_mg, .inl (cI, 56, .inl mg)), (a_mr, .inl (cI, 6, .inl mr)), (a_mx, .inl (cI, 6, .inl mx))] H → va_D A [(h6, .inr (6, [.ref a_mt, .int my, .ref a_mo, .ref a_md, .ref a_mb, .ref a_ms, .ref a_mp, .int mk, .ref a_mi, .int mq, .ref a_mn, .int mz, .int ma, .ref a_mh, .ref a_mg, .ref a_mr, .ref a_mx])), (a_mt, .inl (cI, 200, .inl mt)), (a_mo, .inl (cI, 16, .inl mo)), (a_md, .inl (cI, 16, .inl md)), (a_mb, .inl (cI, 56, .inl mb)), (a_ms, .inl (cI, 56, .inl ms)), (a_mp, .inl (cI, 448, .inl mp)), (a_mi, .inl (cI, 112, .inl mi)), (a_mn, .inl (cI, 12, .inl mn)), (a_mh, .inl (cI, 42, .inl mh)), (a_mg, .inl (cI, 56, .inl mg)), (a_mr, .inl (cI, 6, .inl mr)), (a_mx, .inl (cI, 6, .inl mx))] → va_S A s.heap H locs → lv_has ls 4 [(0, .ref h6), (1, .int x1)] → (∀ (ms : Nat → Int32) (H : Heap) (locs : List Loc) (ls : Array Slot), K32 ms → va_P D vwCl [(h6, .inr (6, [.ref a_mt, .int my, .ref a_mo, .ref a_md, .ref a_mb, .ref a_ms, .ref a_mp, .int mk, .ref a_mi, .int mq, .ref a_mn, .int mz, .int ma, .ref a_mh, .ref a_mg, .ref a_mr, .ref a_mx])), (a_mt, .inl (cI, 200, .inl mt)), (a_mo, .inl (cI, 16, .inl mo)), (a_md, .inl (cI, 16, .inl md)), (a_mb, .inl (cI, 56, .inl mb)), (a_ms, .inl (cI, 56, .inl ms)), (a_mp, .inl (cI, 448, .inl mp)), (a_mi, .inl (cI, 112, .inl mi)), (a_mn, .inl (cI, 12, .inl mn)), (a_mh, .inl (cI, 42, .inl mh)), (a_mg, .inl (cI, 56, .inl mg)), (a_mr, .inl (cI, 6, .inl mr)), (a_mx, .inl (cI, 6, .inl mx))] H → va_D A [(h6, .inr (6, [.ref a_mt, .int my, .ref a_mo, .ref a_md, .ref a_mb, .ref a_ms, .ref a_mp, .int mk, .ref a_mi, .int mq, .ref a_mn, .int mz, .int ma, .ref a_mh, .ref a_mg, .ref a_mr, .ref a_mx])), (a_mt, .inl (cI, 200, .inl mt)), (a_mo, .inl (cI, 16, .inl mo)), (a_md, .inl (cI, 16, .inl md)), (a_mb, .inl (cI, 56, .inl mb)), (a_ms, .inl (cI, 56, .inl ms)), (a_mp, .inl (cI, 448, .inl mp)), (a_mi, .inl (cI, 112, .inl mi)), (a_mn, .inl (cI, 12, .inl mn)), (a_mh, .inl (cI, 42, .inl mh)), (a_mg, .inl (cI, 56, .inl mg)), (a_mr, .inl (cI, 6, .inl mr)), (a_mx, .inl (cI, 6, .inl mx))] → va_S A s.heap H locs → lv_has ls 4 [(0, .ref h6)] → W p l e rmX6_passes s m args below meth c H locs 0 0 Z (F0 m 32 ls [])) → W p l e rmX6_passes s m args below meth c H locs 0 0 Z (F0 m 2 ls []) := by
    intro K32
    intro n
    induction n with
    | zero =>
      intro x1 ms mh H locs ls h hP hD hS hl hk32
      exact (show False from h).elim
    | succ n ih =>
      intro x1 ms mh H locs ls h hP hD hS hl hk32
      refine lv_iload_n hx hb dX6_passes_2 rfl (lv_at hl 1 rfl) ?_
      refine lv_aload_n hx hb dX6_passes_3 rfl (lv_at hl 0 rfl) ?_
      refine va_get (D := D) (ci := 6) (v := .ref a_mo) (C := RX6) (T := TX6) (N := 17) hx hb hts hin6 hown hK.1 hP 0 rfl rfl 2 (by decide) (k_0) (fun _ h9 => h9) rfl dX6_passes_4 ?_
      refine lv_iconst (v := 1) hx hb dX6_passes_7 (by decide) ?_
      refine z_iald (k := 1) hx hb hK.1 hP 2 rfl (by decide) vi_1_16 dX6_passes_8 ?_
      refine lv_icmp_ge (tgt := 32) hx hb dX6_passes_9 (by decide) (fun c_3 => ?_) (fun c_3 => ?_)
      · have h := h.1 c_3
        exact hk32 ms _ _ _ h hP hD hS (lv_sub hl [0] rfl)
      · have h := h.2 c_3
        refine lv_aload_n hx hb dX6_passes_12 rfl (lv_at hl 0 rfl) ?_
        refine va_get (D := D) (ci := 6) (v := .ref a_ms) (C := RX6) (T := TX6) (N := 17) hx hb hts hin6 hown hK.1 hP 0 rfl rfl 5 (by decide) (k_1) (fun _ h9 => h9) rfl dX6_passes_13 ?_
        refine lv_bipush (v := 8) hx hb dX6_passes_16 (by decide) ?_
        refine lv_iload_n hx hb dX6_passes_18 rfl (lv_at hl 1 rfl) ?_
        refine lv_iadd hx hb dX6_passes_19 ?_
        refine lv_aload_n hx hb dX6_passes_20 rfl (lv_at hl 0 rfl) ?_
        refine lv_iload_n hx hb dX6_passes_21 rfl (lv_at hl 1 rfl) ?_
        refine k0V_i (As := [.int x1]) (n := 1) ⟨hx, hb, hml, hown, hts⟩ hK hP hD hS hA (c_X6_goesTo l D cI cC cQ h6 a_mt a_mo a_md a_mb a_ms a_mp a_mi a_mn a_mh a_mg a_mr a_mx mt my mo md mb ms mp mk mi mq mn mz ma mh mg mr mx x1 _ h) gX6_passes_X6_goesTo rfl rfl ⟨rfl, rfl⟩ yoX6_goesTo ⟨Nat.le_of_ble_eq_true rfl, Nat.le_of_ble_eq_true rfl⟩ (q0 := 0) (ci := 6) rfl rfl rfl rfl hl.1 rfl (Nat.le_of_ble_eq_true rfl) dX6_passes_22 ⟨Nat.zero_le _, Nat.zero_le _⟩ (fun r_4 u H locs h hP hD hS => ?_)
        refine z_iast (k := ((8 : Int32) + x1).toNatClampNeg) hx hb hK.1 hP hD hS 5 rfl rfl h.1 dX6_passes_25 (fun H locs hP hD hS => ?_)
        have h := h.2
        have hP : va_P D vwCl [(h6, .inr (6, [.ref a_mt, .int my, .ref a_mo, .ref a_md, .ref a_mb, .ref a_ms, .ref a_mp, .int mk, .ref a_mi, .int mq, .ref a_mn, .int mz, .int ma, .ref a_mh, .ref a_mg, .ref a_mr, .ref a_mx])), (a_mt, .inl (cI, 200, .inl mt)), (a_mo, .inl (cI, 16, .inl mo)), (a_md, .inl (cI, 16, .inl md)), (a_mb, .inl (cI, 56, .inl mb)), (a_ms, .inl (cI, 56, .inl (upd ms (((8 : Int32) + x1).toNatClampNeg) r_4))), (a_mp, .inl (cI, 448, .inl mp)), (a_mi, .inl (cI, 112, .inl mi)), (a_mn, .inl (cI, 12, .inl mn)), (a_mh, .inl (cI, 42, .inl mh)), (a_mg, .inl (cI, 56, .inl mg)), (a_mr, .inl (cI, 6, .inl mr)), (a_mx, .inl (cI, 6, .inl mx))] H := hP
        have hD : va_D A [(h6, .inr (6, [.ref a_mt, .int my, .ref a_mo, .ref a_md, .ref a_mb, .ref a_ms, .ref a_mp, .int mk, .ref a_mi, .int mq, .ref a_mn, .int mz, .int ma, .ref a_mh, .ref a_mg, .ref a_mr, .ref a_mx])), (a_mt, .inl (cI, 200, .inl mt)), (a_mo, .inl (cI, 16, .inl mo)), (a_md, .inl (cI, 16, .inl md)), (a_mb, .inl (cI, 56, .inl mb)), (a_ms, .inl (cI, 56, .inl (upd ms (((8 : Int32) + x1).toNatClampNeg) r_4))), (a_mp, .inl (cI, 448, .inl mp)), (a_mi, .inl (cI, 112, .inl mi)), (a_mn, .inl (cI, 12, .inl mn)), (a_mh, .inl (cI, 42, .inl mh)), (a_mg, .inl (cI, 56, .inl mg)), (a_mr, .inl (cI, 6, .inl mr)), (a_mx, .inl (cI, 6, .inl mx))] := hD
        refine lv_iinc (v := (x1 + (1 : Int32))) (lv' := [(1, .int (x1 + (1 : Int32))), (0, .ref h6)]) hx hb dX6_passes_26 hl (k := 1) rfl rfl (by decide) rfl (fun ls hl => ?_)
        refine lv_goto (tgt := 2) hx hb dX6_passes_29 (by decide) ?_
        exact ih h hP hD hS (lv_sub hl [1, 0] rfl) hk32
  have L46 : ∀ {K34 : Int32 → (Nat → Int32) → Prop} (n : Nat) {x1 : Int32} {x2 : Int32} {ms : Nat → Int32} {mh : Nat → Int32} {H : Heap} {locs : List Loc} {ls : Array Slot}, wX6_passes_L46 x1 mo ms K34 n x2 mh → va_P D vwCl [(h6, .inr (6, [.ref a_mt, .int my, .ref a_mo, .ref a_md, .ref a_mb, .ref a_ms, .ref a_mp, .int mk, .ref a_mi, .int mq, .ref a_mn, .int mz, .int ma, .ref a_mh, .ref a_mg, .ref a_mr, .ref a_mx])), (a_mt, .inl (cI, 200, .inl mt)), (a_mo, .inl (cI, 16, .inl mo)), (a_md, .inl (cI, 16, .inl md)), (a_mb, .inl (cI, 56, .inl mb)), (a_ms, .inl (cI, 56, .inl ms)), (a_mp, .inl (cI, 448, .inl mp)), (a_mi, .inl (cI, 112, .inl mi)), (a_mn, .inl (cI, 12, .inl mn)), (a_mh, .inl (cI, 42, .inl mh)), (a_mg, .inl (cI, 56, .inl mg)), (a_mr, .inl (cI, 6, .inl mr)), (a_mx, .inl (cI, 6, .inl mx))] H → va_D A [(h6, .inr (6, [.ref a_mt, .int my, .ref a_mo, .ref a_md, .ref a_mb, .ref a_ms, .ref a_mp, .int mk, .ref a_mi, .int mq, .ref a_mn, .int mz, .int ma, .ref a_mh, .ref a_mg, .ref a_mr, .ref a_mx])), (a_mt, .inl (cI, 200, .inl mt)), (a_mo, .inl (cI, 16, .inl mo)), (a_md, .inl (cI, 16, .inl md)), (a_mb, .inl (cI, 56, .inl mb)), (a_ms, .inl (cI, 56, .inl ms)), (a_mp, .inl (cI, 448, .inl mp)), (a_mi, .inl (cI, 112, .inl mi)), (a_mn, .inl (cI, 12, .inl mn)), (a_mh, .inl (cI, 42, .inl mh)), (a_mg, .inl (cI, 56, .inl mg)), (a_mr, .inl (cI, 6, .inl mr)), (a_mx, .inl (cI, 6, .inl mx))] → va_S A s.heap H locs → lv_has ls 4 [(0, .ref h6), (1, .int x1), (2, .int x2)] → (∀ (x1 : Int32) (mh : Nat → Int32) (H : Heap) (locs : List Loc) (ls : Array Slot), K34 x1 mh → va_P D vwCl [(h6, .inr (6, [.ref a_mt, .int my, .ref a_mo, .ref a_md, .ref a_mb, .ref a_ms, .ref a_mp, .int mk, .ref a_mi, .int mq, .ref a_mn, .int mz, .int ma, .ref a_mh, .ref a_mg, .ref a_mr, .ref a_mx])), (a_mt, .inl (cI, 200, .inl mt)), (a_mo, .inl (cI, 16, .inl mo)), (a_md, .inl (cI, 16, .inl md)), (a_mb, .inl (cI, 56, .inl mb)), (a_ms, .inl (cI, 56, .inl ms)), (a_mp, .inl (cI, 448, .inl mp)), (a_mi, .inl (cI, 112, .inl mi)), (a_mn, .inl (cI, 12, .inl mn)), (a_mh, .inl (cI, 42, .inl mh)), (a_mg, .inl (cI, 56, .inl mg)), (a_mr, .inl (cI, 6, .inl mr)), (a_mx, .inl (cI, 6, .inl mx))] H → va_D A [(h6, .inr (6, [.ref a_mt, .int my, .ref a_mo, .ref a_md, .ref a_mb, .ref a_ms, .ref a_mp, .int mk, .ref a_mi, .int mq, .ref a_mn, .int mz, .int ma, .ref a_mh, .ref a_mg, .ref a_mr, .ref a_mx])), (a_mt, .inl (cI, 200, .inl mt)), (a_mo, .inl (cI, 16, .inl mo)), (a_md, .inl (cI, 16, .inl md)), (a_mb, .inl (cI, 56, .inl mb)), (a_ms, .inl (cI, 56, .inl ms)), (a_mp, .inl (cI, 448, .inl mp)), (a_mi, .inl (cI, 112, .inl mi)), (a_mn, .inl (cI, 12, .inl mn)), (a_mh, .inl (cI, 42, .inl mh)), (a_mg, .inl (cI, 56, .inl mg)), (a_mr, .inl (cI, 6, .inl mr)), (a_mx, .inl (cI, 6, .inl mx))] → va_S A s.heap H locs → lv_has ls 4 [(0, .ref h6), (1, .int x1)] → W p l e rmX6_passes s m args below meth c H locs 0 0 Z (F0 m 34 ls [])) → W p l e rmX6_passes s m args below meth c H locs 0 0 Z (F0 m 46 ls []) := by
    intro K34
    intro n
    induction n with
    | zero =>
      intro x1 x2 ms mh H locs ls h hP hD hS hl hk34
      exact (show False from h).elim
    | succ n ih =>
      intro x1 x2 ms mh H locs ls h hP hD hS hl hk34
      refine lv_iload_n hx hb dX6_passes_46 rfl (lv_at hl 2 rfl) ?_
      refine lv_aload_n hx hb dX6_passes_47 rfl (lv_at hl 0 rfl) ?_
      refine va_get (D := D) (ci := 6) (v := .ref a_mo) (C := RX6) (T := TX6) (N := 17) hx hb hts hin6 hown hK.1 hP 0 rfl rfl 2 (by decide) (k_0) (fun _ h9 => h9) rfl dX6_passes_48 ?_
      refine lv_iconst (v := 0) hx hb dX6_passes_51 (by decide) ?_
      refine z_iald (k := 0) hx hb hK.1 hP 2 rfl (by decide) vi_0_16 dX6_passes_52 ?_
      refine lv_icmp_ge (tgt := 117) hx hb dX6_passes_53 (by decide) (fun c_26 => ?_) (fun c_26 => ?_)
      · have h := h.1 c_26
        refine lv_iinc (v := (x1 + (1 : Int32))) (lv' := [(1, .int (x1 + (1 : Int32))), (0, .ref h6), (2, .int x2)]) hx hb dX6_passes_117 hl (k := 1) rfl rfl (by decide) rfl (fun ls hl => ?_)
        refine lv_goto (tgt := 34) hx hb dX6_passes_120 (by decide) ?_
        exact hk34 (x1 + (1 : Int32)) mh _ _ _ h hP hD hS (lv_sub hl [1, 0] rfl)
      · have h := h.2 c_26
        refine lv_aload_n hx hb dX6_passes_56 rfl (lv_at hl 0 rfl) ?_
        refine va_get (D := D) (ci := 6) (v := .ref a_ms) (C := RX6) (T := TX6) (N := 17) hx hb hts hin6 hown hK.1 hP 0 rfl rfl 5 (by decide) (k_1) (fun _ h9 => h9) rfl dX6_passes_57 ?_
        refine lv_bipush (v := 14) hx hb dX6_passes_60 (by decide) ?_
        refine lv_bipush (v := 7) hx hb dX6_passes_62 (by decide) ?_
        refine lv_iload_n hx hb dX6_passes_64 rfl (lv_at hl 1 rfl) ?_
        refine lv_imul hx hb dX6_passes_65 ?_
        refine lv_iadd hx hb dX6_passes_66 ?_
        refine lv_iload_n hx hb dX6_passes_67 rfl (lv_at hl 2 rfl) ?_
        refine lv_iadd hx hb dX6_passes_68 ?_
        refine z_iald (k := (((14 : Int32) + ((7 : Int32) * x1)) + x2).toNatClampNeg) hx hb hK.1 hP 5 rfl rfl h.1 dX6_passes_69 ?_
        have h := h.2
        refine lv_topi (fun v_27 ev_27 => ?_)
        have h := h v_27 ev_27
        refine lv_istore_n (lv' := [(3, .int v_27), (0, .ref h6), (1, .int x1), (2, .int x2)]) hx hb dX6_passes_70 rfl hl (by decide) rfl (fun ls hl => ?_)
        refine lv_aload_n hx hb dX6_passes_71 rfl (lv_at hl 1 rfl) ?_
        refine va_get (D := D) (ci := 6) (v := .ref a_mh) (C := RX6) (T := TX6) (N := 17) hx hb hts hin6 hown hK.1 hP 0 rfl rfl 13 (by decide) (k_2) (fun _ h9 => h9) rfl dX6_passes_72 ?_
        refine lv_bipush (v := 7) hx hb dX6_passes_75 (by decide) ?_
        refine lv_iload_n hx hb dX6_passes_77 rfl (lv_at hl 2 rfl) ?_
        refine lv_imul hx hb dX6_passes_78 ?_
        refine lv_iload_n hx hb dX6_passes_79 rfl (lv_at hl 3 rfl) ?_
        refine lv_iadd hx hb dX6_passes_80 ?_
        refine lv_aload_n hx hb dX6_passes_81 rfl (lv_at hl 1 rfl) ?_
        refine va_get (D := D) (ci := 6) (v := .ref a_ms) (C := RX6) (T := TX6) (N := 17) hx hb hts hin6 hown hK.1 hP 0 rfl rfl 5 (by decide) (k_1) (fun _ h9 => h9) rfl dX6_passes_82 ?_
        refine lv_bipush (v := 8) hx hb dX6_passes_85 (by decide) ?_
        refine lv_iload_n hx hb dX6_passes_87 rfl (lv_at hl 2 rfl) ?_
        refine lv_iadd hx hb dX6_passes_88 ?_
        refine z_iald (k := ((8 : Int32) + x1).toNatClampNeg) hx hb hK.1 hP 5 rfl rfl h.1 dX6_passes_89 ?_
        have h := h.2
        refine lv_bipush (v := 9) hx hb dX6_passes_90 (by decide) ?_
        refine lv_icmp_ne (tgt := 99) hx hb dX6_passes_92 (by decide) (fun c_28 => ?_) (fun c_28 => ?_)
        · have h := h.2 c_28
          refine lv_iload_n hx hb dX6_passes_99 rfl (lv_at hl 0 rfl) ?_
          refine lv_aload_n hx hb dX6_passes_100 rfl (lv_at hl 1 rfl) ?_
          refine lv_iload_n hx hb dX6_passes_101 rfl (lv_at hl 3 rfl) ?_
          refine lv_iload_n hx hb dX6_passes_102 rfl (lv_at hl 2 rfl) ?_
          refine k0V_i (As := [.int x2, .int x1]) (n := 2) ⟨hx, hb, hml, hown, hts⟩ hK hP hD hS hA (c_X6_grows l D cI cC cQ h6 a_mt a_mo a_md a_mb a_ms a_mp a_mi a_mn a_mh a_mg a_mr a_mx mt my mo md mb ms mp mk mi mq mn mz ma mh mg mr mx x2 x1 _ h) gX6_passes_X6_grows rfl rfl ⟨rfl, rfl⟩ yoX6_grows ⟨Nat.le_of_ble_eq_true rfl, Nat.le_of_ble_eq_true rfl⟩ (q0 := 0) (ci := 6) rfl rfl rfl rfl hl.1 rfl (Nat.le_of_ble_eq_true rfl) dX6_passes_103 ⟨Nat.zero_le _, Nat.zero_le _⟩ (fun r_29 u H locs h hP hD hS => ?_)
          refine lv_iadd hx hb dX6_passes_106 ?_
          refine kS_i (wr := [(h6, .inr (6, [.ref a_mt, .int my, .ref a_mo, .ref a_md, .ref a_mb, .ref a_ms, .ref a_mp, .int mk, .ref a_mi, .int mq, .ref a_mn, .int mz, .int ma, .ref a_mh, .ref a_mg, .ref a_mr, .ref a_mx])), (a_mt, .inl (cI, 200, .inl mt)), (a_mo, .inl (cI, 16, .inl mo)), (a_md, .inl (cI, 16, .inl md)), (a_mb, .inl (cI, 56, .inl mb)), (a_ms, .inl (cI, 56, .inl ms)), (a_mp, .inl (cI, 448, .inl mp)), (a_mi, .inl (cI, 112, .inl mi)), (a_mn, .inl (cI, 12, .inl mn)), (a_mh, .inl (cI, 42, .inl mh)), (a_mg, .inl (cI, 56, .inl mg)), (a_mr, .inl (cI, 6, .inl mr)), (a_mx, .inl (cI, 6, .inl mx))]) (As := [.int (v_27 + r_29)]) (n := 1) ⟨hx, hb, hml, hown, hts⟩ hK hP hD hS hA (c_X6_within l D cI cC cQ   (v_27 + r_29) _ h) gX6_passes_X6_within rfl ⟨rfl, rfl⟩ yoX6_within ⟨Nat.le_of_ble_eq_true rfl, Nat.le_of_ble_eq_true rfl⟩ rfl hl.1 rfl (Nat.le_of_ble_eq_true rfl) dX6_passes_107 ⟨Nat.zero_le _, Nat.zero_le _⟩ [] [0, 1, 2, 3, 4, 5, 6, 7, 8, 9, 10, 11, 12] rfl (by decide) rfl (by decide) (by decide) (fun r_30 u H locs h hP hD hS => ?_)
          have hP : va_P D vwCl [(h6, .inr (6, [.ref a_mt, .int my, .ref a_mo, .ref a_md, .ref a_mb, .ref a_ms, .ref a_mp, .int mk, .ref a_mi, .int mq, .ref a_mn, .int mz, .int ma, .ref a_mh, .ref a_mg, .ref a_mr, .ref a_mx])), (a_mt, .inl (cI, 200, .inl mt)), (a_mo, .inl (cI, 16, .inl mo)), (a_md, .inl (cI, 16, .inl md)), (a_mb, .inl (cI, 56, .inl mb)), (a_ms, .inl (cI, 56, .inl ms)), (a_mp, .inl (cI, 448, .inl mp)), (a_mi, .inl (cI, 112, .inl mi)), (a_mn, .inl (cI, 12, .inl mn)), (a_mh, .inl (cI, 42, .inl mh)), (a_mg, .inl (cI, 56, .inl mg)), (a_mr, .inl (cI, 6, .inl mr)), (a_mx, .inl (cI, 6, .inl mx))] H := hP
          have hD : va_D A [(h6, .inr (6, [.ref a_mt, .int my, .ref a_mo, .ref a_md, .ref a_mb, .ref a_ms, .ref a_mp, .int mk, .ref a_mi, .int mq, .ref a_mn, .int mz, .int ma, .ref a_mh, .ref a_mg, .ref a_mr, .ref a_mx])), (a_mt, .inl (cI, 200, .inl mt)), (a_mo, .inl (cI, 16, .inl mo)), (a_md, .inl (cI, 16, .inl md)), (a_mb, .inl (cI, 56, .inl mb)), (a_ms, .inl (cI, 56, .inl ms)), (a_mp, .inl (cI, 448, .inl mp)), (a_mi, .inl (cI, 112, .inl mi)), (a_mn, .inl (cI, 12, .inl mn)), (a_mh, .inl (cI, 42, .inl mh)), (a_mg, .inl (cI, 56, .inl mg)), (a_mr, .inl (cI, 6, .inl mr)), (a_mx, .inl (cI, 6, .inl mx))] := hD
          refine z_iast (k := (((7 : Int32) * x1) + x2).toNatClampNeg) hx hb hK.1 hP hD hS 9 rfl rfl h.1 dX6_passes_110 (fun H locs hP hD hS => ?_)
          have h := h.2
          have hP : va_P D vwCl [(h6, .inr (6, [.ref a_mt, .int my, .ref a_mo, .ref a_md, .ref a_mb, .ref a_ms, .ref a_mp, .int mk, .ref a_mi, .int mq, .ref a_mn, .int mz, .int ma, .ref a_mh, .ref a_mg, .ref a_mr, .ref a_mx])), (a_mt, .inl (cI, 200, .inl mt)), (a_mo, .inl (cI, 16, .inl mo)), (a_md, .inl (cI, 16, .inl md)), (a_mb, .inl (cI, 56, .inl mb)), (a_ms, .inl (cI, 56, .inl ms)), (a_mp, .inl (cI, 448, .inl mp)), (a_mi, .inl (cI, 112, .inl mi)), (a_mn, .inl (cI, 12, .inl mn)), (a_mh, .inl (cI, 42, .inl (upd mh ((((7 : Int32) * x1) + x2).toNatClampNeg) r_30))), (a_mg, .inl (cI, 56, .inl mg)), (a_mr, .inl (cI, 6, .inl mr)), (a_mx, .inl (cI, 6, .inl mx))] H := hP
          have hD : va_D A [(h6, .inr (6, [.ref a_mt, .int my, .ref a_mo, .ref a_md, .ref a_mb, .ref a_ms, .ref a_mp, .int mk, .ref a_mi, .int mq, .ref a_mn, .int mz, .int ma, .ref a_mh, .ref a_mg, .ref a_mr, .ref a_mx])), (a_mt, .inl (cI, 200, .inl mt)), (a_mo, .inl (cI, 16, .inl mo)), (a_md, .inl (cI, 16, .inl md)), (a_mb, .inl (cI, 56, .inl mb)), (a_ms, .inl (cI, 56, .inl ms)), (a_mp, .inl (cI, 448, .inl mp)), (a_mi, .inl (cI, 112, .inl mi)), (a_mn, .inl (cI, 12, .inl mn)), (a_mh, .inl (cI, 42, .inl (upd mh ((((7 : Int32) * x1) + x2).toNatClampNeg) r_30))), (a_mg, .inl (cI, 56, .inl mg)), (a_mr, .inl (cI, 6, .inl mr)), (a_mx, .inl (cI, 6, .inl mx))] := hD
          refine lv_iinc (v := (x2 + (1 : Int32))) (lv' := [(2, .int (x2 + (1 : Int32))), (3, .int v_27), (0, .ref h6), (1, .int x1)]) hx hb dX6_passes_111 hl (k := 3) rfl rfl (by decide) rfl (fun ls hl => ?_)
          refine lv_goto (tgt := 46) hx hb dX6_passes_114 (by decide) ?_
          exact ih h hP hD hS (lv_sub hl [2, 3, 0] rfl) hk34
        · have h := h.1 c_28
          refine lv_iload_n hx hb dX6_passes_95 rfl (lv_at hl 0 rfl) ?_
          refine lv_goto (tgt := 110) hx hb dX6_passes_96 (by decide) ?_
          refine z_iast (k := (((7 : Int32) * x1) + x2).toNatClampNeg) hx hb hK.1 hP hD hS 9 rfl rfl h.1 dX6_passes_110 (fun H locs hP hD hS => ?_)
          have h := h.2
          have hP : va_P D vwCl [(h6, .inr (6, [.ref a_mt, .int my, .ref a_mo, .ref a_md, .ref a_mb, .ref a_ms, .ref a_mp, .int mk, .ref a_mi, .int mq, .ref a_mn, .int mz, .int ma, .ref a_mh, .ref a_mg, .ref a_mr, .ref a_mx])), (a_mt, .inl (cI, 200, .inl mt)), (a_mo, .inl (cI, 16, .inl mo)), (a_md, .inl (cI, 16, .inl md)), (a_mb, .inl (cI, 56, .inl mb)), (a_ms, .inl (cI, 56, .inl ms)), (a_mp, .inl (cI, 448, .inl mp)), (a_mi, .inl (cI, 112, .inl mi)), (a_mn, .inl (cI, 12, .inl mn)), (a_mh, .inl (cI, 42, .inl (upd mh ((((7 : Int32) * x1) + x2).toNatClampNeg) v_27))), (a_mg, .inl (cI, 56, .inl mg)), (a_mr, .inl (cI, 6, .inl mr)), (a_mx, .inl (cI, 6, .inl mx))] H := hP
          have hD : va_D A [(h6, .inr (6, [.ref a_mt, .int my, .ref a_mo, .ref a_md, .ref a_mb, .ref a_ms, .ref a_mp, .int mk, .ref a_mi, .int mq, .ref a_mn, .int mz, .int ma, .ref a_mh, .ref a_mg, .ref a_mr, .ref a_mx])), (a_mt, .inl (cI, 200, .inl mt)), (a_mo, .inl (cI, 16, .inl mo)), (a_md, .inl (cI, 16, .inl md)), (a_mb, .inl (cI, 56, .inl mb)), (a_ms, .inl (cI, 56, .inl ms)), (a_mp, .inl (cI, 448, .inl mp)), (a_mi, .inl (cI, 112, .inl mi)), (a_mn, .inl (cI, 12, .inl mn)), (a_mh, .inl (cI, 42, .inl (upd mh ((((7 : Int32) * x1) + x2).toNatClampNeg) v_27))), (a_mg, .inl (cI, 56, .inl mg)), (a_mr, .inl (cI, 6, .inl mr)), (a_mx, .inl (cI, 6, .inl mx))] := hD
          refine lv_iinc (v := (x2 + (1 : Int32))) (lv' := [(2, .int (x2 + (1 : Int32))), (3, .int v_27), (0, .ref h6), (1, .int x1)]) hx hb dX6_passes_111 hl (k := 3) rfl rfl (by decide) rfl (fun ls hl => ?_)
          refine lv_goto (tgt := 46) hx hb dX6_passes_114 (by decide) ?_
          exact ih h hP hD hS (lv_sub hl [2, 3, 0] rfl) hk34
  have L34 : ∀ {K123 : (Nat → Int32) → Prop} (n : Nat) {x1 : Int32} {ms : Nat → Int32} {mh : Nat → Int32} {H : Heap} {locs : List Loc} {ls : Array Slot}, wX6_passes_L34 mo ms K123 n x1 mh → va_P D vwCl [(h6, .inr (6, [.ref a_mt, .int my, .ref a_mo, .ref a_md, .ref a_mb, .ref a_ms, .ref a_mp, .int mk, .ref a_mi, .int mq, .ref a_mn, .int mz, .int ma, .ref a_mh, .ref a_mg, .ref a_mr, .ref a_mx])), (a_mt, .inl (cI, 200, .inl mt)), (a_mo, .inl (cI, 16, .inl mo)), (a_md, .inl (cI, 16, .inl md)), (a_mb, .inl (cI, 56, .inl mb)), (a_ms, .inl (cI, 56, .inl ms)), (a_mp, .inl (cI, 448, .inl mp)), (a_mi, .inl (cI, 112, .inl mi)), (a_mn, .inl (cI, 12, .inl mn)), (a_mh, .inl (cI, 42, .inl mh)), (a_mg, .inl (cI, 56, .inl mg)), (a_mr, .inl (cI, 6, .inl mr)), (a_mx, .inl (cI, 6, .inl mx))] H → va_D A [(h6, .inr (6, [.ref a_mt, .int my, .ref a_mo, .ref a_md, .ref a_mb, .ref a_ms, .ref a_mp, .int mk, .ref a_mi, .int mq, .ref a_mn, .int mz, .int ma, .ref a_mh, .ref a_mg, .ref a_mr, .ref a_mx])), (a_mt, .inl (cI, 200, .inl mt)), (a_mo, .inl (cI, 16, .inl mo)), (a_md, .inl (cI, 16, .inl md)), (a_mb, .inl (cI, 56, .inl mb)), (a_ms, .inl (cI, 56, .inl ms)), (a_mp, .inl (cI, 448, .inl mp)), (a_mi, .inl (cI, 112, .inl mi)), (a_mn, .inl (cI, 12, .inl mn)), (a_mh, .inl (cI, 42, .inl mh)), (a_mg, .inl (cI, 56, .inl mg)), (a_mr, .inl (cI, 6, .inl mr)), (a_mx, .inl (cI, 6, .inl mx))] → va_S A s.heap H locs → lv_has ls 4 [(0, .ref h6), (1, .int x1)] → (∀ (mh : Nat → Int32) (H : Heap) (locs : List Loc) (ls : Array Slot), K123 mh → va_P D vwCl [(h6, .inr (6, [.ref a_mt, .int my, .ref a_mo, .ref a_md, .ref a_mb, .ref a_ms, .ref a_mp, .int mk, .ref a_mi, .int mq, .ref a_mn, .int mz, .int ma, .ref a_mh, .ref a_mg, .ref a_mr, .ref a_mx])), (a_mt, .inl (cI, 200, .inl mt)), (a_mo, .inl (cI, 16, .inl mo)), (a_md, .inl (cI, 16, .inl md)), (a_mb, .inl (cI, 56, .inl mb)), (a_ms, .inl (cI, 56, .inl ms)), (a_mp, .inl (cI, 448, .inl mp)), (a_mi, .inl (cI, 112, .inl mi)), (a_mn, .inl (cI, 12, .inl mn)), (a_mh, .inl (cI, 42, .inl mh)), (a_mg, .inl (cI, 56, .inl mg)), (a_mr, .inl (cI, 6, .inl mr)), (a_mx, .inl (cI, 6, .inl mx))] H → va_D A [(h6, .inr (6, [.ref a_mt, .int my, .ref a_mo, .ref a_md, .ref a_mb, .ref a_ms, .ref a_mp, .int mk, .ref a_mi, .int mq, .ref a_mn, .int mz, .int ma, .ref a_mh, .ref a_mg, .ref a_mr, .ref a_mx])), (a_mt, .inl (cI, 200, .inl mt)), (a_mo, .inl (cI, 16, .inl mo)), (a_md, .inl (cI, 16, .inl md)), (a_mb, .inl (cI, 56, .inl mb)), (a_ms, .inl (cI, 56, .inl ms)), (a_mp, .inl (cI, 448, .inl mp)), (a_mi, .inl (cI, 112, .inl mi)), (a_mn, .inl (cI, 12, .inl mn)), (a_mh, .inl (cI, 42, .inl mh)), (a_mg, .inl (cI, 56, .inl mg)), (a_mr, .inl (cI, 6, .inl mr)), (a_mx, .inl (cI, 6, .inl mx))] → va_S A s.heap H locs → lv_has ls 4 [(0, .ref h6)] → W p l e rmX6_passes s m args below meth c H locs 0 0 Z (F0 m 123 ls [])) → W p l e rmX6_passes s m args below meth c H locs 0 0 Z (F0 m 34 ls []) := by
    intro K123
    intro n
    induction n with
    | zero =>
      intro x1 ms mh H locs ls h hP hD hS hl hk123
      exact (show False from h).elim
    | succ n ih =>
      intro x1 ms mh H locs ls h hP hD hS hl hk123
      refine lv_iload_n hx hb dX6_passes_34 rfl (lv_at hl 1 rfl) ?_
      refine lv_aload_n hx hb dX6_passes_35 rfl (lv_at hl 0 rfl) ?_
      refine va_get (D := D) (ci := 6) (v := .ref a_mo) (C := RX6) (T := TX6) (N := 17) hx hb hts hin6 hown hK.1 hP 0 rfl rfl 2 (by decide) (k_0) (fun _ h9 => h9) rfl dX6_passes_36 ?_
      refine lv_iconst (v := 1) hx hb dX6_passes_39 (by decide) ?_
      refine z_iald (k := 1) hx hb hK.1 hP 2 rfl (by decide) vi_1_16 dX6_passes_40 ?_
      refine lv_icmp_ge (tgt := 123) hx hb dX6_passes_41 (by decide) (fun c_20 => ?_) (fun c_20 => ?_)
      · have h := h.1 c_20
        exact hk123 mh _ _ _ h hP hD hS (lv_sub hl [0] rfl)
      · have h := h.2 c_20
        refine lv_iconst (v := 0) hx hb dX6_passes_44 (by decide) ?_
        refine lv_istore_n (lv' := [(2, .int (0 : Int32)), (0, .ref h6), (1, .int x1)]) hx hb dX6_passes_45 rfl hl (by decide) rfl (fun ls hl => ?_)
        obtain ⟨n_33, h⟩ := h
        refine L46 n_33 h hP hD hS (lv_sub hl [1, 2, 0] rfl) (fun x1_31 mh_32 H locs ls h hP hD hS hl => ?_)
        exact ih h hP hD hS (lv_sub hl [0, 1] rfl) hk123
  have L137 : ∀ {K125 : Int32 → (Nat → Int32) → Prop} (n : Nat) {x1 : Int32} {x2 : Int32} {ms : Nat → Int32} {mh : Nat → Int32} {H : Heap} {locs : List Loc} {ls : Array Slot}, wX6_passes_L137 x1 mo mh K125 n x2 ms → va_P D vwCl [(h6, .inr (6, [.ref a_mt, .int my, .ref a_mo, .ref a_md, .ref a_mb, .ref a_ms, .ref a_mp, .int mk, .ref a_mi, .int mq, .ref a_mn, .int mz, .int ma, .ref a_mh, .ref a_mg, .ref a_mr, .ref a_mx])), (a_mt, .inl (cI, 200, .inl mt)), (a_mo, .inl (cI, 16, .inl mo)), (a_md, .inl (cI, 16, .inl md)), (a_mb, .inl (cI, 56, .inl mb)), (a_ms, .inl (cI, 56, .inl ms)), (a_mp, .inl (cI, 448, .inl mp)), (a_mi, .inl (cI, 112, .inl mi)), (a_mn, .inl (cI, 12, .inl mn)), (a_mh, .inl (cI, 42, .inl mh)), (a_mg, .inl (cI, 56, .inl mg)), (a_mr, .inl (cI, 6, .inl mr)), (a_mx, .inl (cI, 6, .inl mx))] H → va_D A [(h6, .inr (6, [.ref a_mt, .int my, .ref a_mo, .ref a_md, .ref a_mb, .ref a_ms, .ref a_mp, .int mk, .ref a_mi, .int mq, .ref a_mn, .int mz, .int ma, .ref a_mh, .ref a_mg, .ref a_mr, .ref a_mx])), (a_mt, .inl (cI, 200, .inl mt)), (a_mo, .inl (cI, 16, .inl mo)), (a_md, .inl (cI, 16, .inl md)), (a_mb, .inl (cI, 56, .inl mb)), (a_ms, .inl (cI, 56, .inl ms)), (a_mp, .inl (cI, 448, .inl mp)), (a_mi, .inl (cI, 112, .inl mi)), (a_mn, .inl (cI, 12, .inl mn)), (a_mh, .inl (cI, 42, .inl mh)), (a_mg, .inl (cI, 56, .inl mg)), (a_mr, .inl (cI, 6, .inl mr)), (a_mx, .inl (cI, 6, .inl mx))] → va_S A s.heap H locs → lv_has ls 4 [(0, .ref h6), (1, .int x1), (2, .int x2)] → (∀ (x1 : Int32) (ms : Nat → Int32) (H : Heap) (locs : List Loc) (ls : Array Slot), K125 x1 ms → va_P D vwCl [(h6, .inr (6, [.ref a_mt, .int my, .ref a_mo, .ref a_md, .ref a_mb, .ref a_ms, .ref a_mp, .int mk, .ref a_mi, .int mq, .ref a_mn, .int mz, .int ma, .ref a_mh, .ref a_mg, .ref a_mr, .ref a_mx])), (a_mt, .inl (cI, 200, .inl mt)), (a_mo, .inl (cI, 16, .inl mo)), (a_md, .inl (cI, 16, .inl md)), (a_mb, .inl (cI, 56, .inl mb)), (a_ms, .inl (cI, 56, .inl ms)), (a_mp, .inl (cI, 448, .inl mp)), (a_mi, .inl (cI, 112, .inl mi)), (a_mn, .inl (cI, 12, .inl mn)), (a_mh, .inl (cI, 42, .inl mh)), (a_mg, .inl (cI, 56, .inl mg)), (a_mr, .inl (cI, 6, .inl mr)), (a_mx, .inl (cI, 6, .inl mx))] H → va_D A [(h6, .inr (6, [.ref a_mt, .int my, .ref a_mo, .ref a_md, .ref a_mb, .ref a_ms, .ref a_mp, .int mk, .ref a_mi, .int mq, .ref a_mn, .int mz, .int ma, .ref a_mh, .ref a_mg, .ref a_mr, .ref a_mx])), (a_mt, .inl (cI, 200, .inl mt)), (a_mo, .inl (cI, 16, .inl mo)), (a_md, .inl (cI, 16, .inl md)), (a_mb, .inl (cI, 56, .inl mb)), (a_ms, .inl (cI, 56, .inl ms)), (a_mp, .inl (cI, 448, .inl mp)), (a_mi, .inl (cI, 112, .inl mi)), (a_mn, .inl (cI, 12, .inl mn)), (a_mh, .inl (cI, 42, .inl mh)), (a_mg, .inl (cI, 56, .inl mg)), (a_mr, .inl (cI, 6, .inl mr)), (a_mx, .inl (cI, 6, .inl mx))] → va_S A s.heap H locs → lv_has ls 4 [(0, .ref h6), (1, .int x1)] → W p l e rmX6_passes s m args below meth c H locs 0 0 Z (F0 m 125 ls [])) → W p l e rmX6_passes s m args below meth c H locs 0 0 Z (F0 m 137 ls []) := by
    intro K125
    intro n
    induction n with
    | zero =>
      intro x1 x2 ms mh H locs ls h hP hD hS hl hk125
      exact (show False from h).elim
    | succ n ih =>
      intro x1 x2 ms mh H locs ls h hP hD hS hl hk125
      refine lv_iload_n hx hb dX6_passes_137 rfl (lv_at hl 2 rfl) ?_
      refine lv_aload_n hx hb dX6_passes_138 rfl (lv_at hl 0 rfl) ?_
      refine va_get (D := D) (ci := 6) (v := .ref a_mo) (C := RX6) (T := TX6) (N := 17) hx hb hts hin6 hown hK.1 hP 0 rfl rfl 2 (by decide) (k_0) (fun _ h9 => h9) rfl dX6_passes_139 ?_
      refine lv_iconst (v := 0) hx hb dX6_passes_142 (by decide) ?_
      refine z_iald (k := 0) hx hb hK.1 hP 2 rfl (by decide) vi_0_16 dX6_passes_143 ?_
      refine lv_icmp_ge (tgt := 178) hx hb dX6_passes_144 (by decide) (fun c_43 => ?_) (fun c_43 => ?_)
      · have h := h.1 c_43
        refine lv_iinc (v := (x1 + (1 : Int32))) (lv' := [(1, .int (x1 + (1 : Int32))), (0, .ref h6), (2, .int x2)]) hx hb dX6_passes_178 hl (k := 1) rfl rfl (by decide) rfl (fun ls hl => ?_)
        refine lv_goto (tgt := 125) hx hb dX6_passes_181 (by decide) ?_
        exact hk125 (x1 + (1 : Int32)) ms _ _ _ h hP hD hS (lv_sub hl [1, 0] rfl)
      · have h := h.2 c_43
        refine lv_aload_n hx hb dX6_passes_147 rfl (lv_at hl 0 rfl) ?_
        refine va_get (D := D) (ci := 6) (v := .ref a_ms) (C := RX6) (T := TX6) (N := 17) hx hb hts hin6 hown hK.1 hP 0 rfl rfl 5 (by decide) (k_1) (fun _ h9 => h9) rfl dX6_passes_148 ?_
        refine lv_bipush (v := 14) hx hb dX6_passes_151 (by decide) ?_
        refine lv_bipush (v := 7) hx hb dX6_passes_153 (by decide) ?_
        refine lv_iload_n hx hb dX6_passes_155 rfl (lv_at hl 1 rfl) ?_
        refine lv_imul hx hb dX6_passes_156 ?_
        refine lv_iadd hx hb dX6_passes_157 ?_
        refine lv_iload_n hx hb dX6_passes_158 rfl (lv_at hl 2 rfl) ?_
        refine lv_iadd hx hb dX6_passes_159 ?_
        refine lv_aload_n hx hb dX6_passes_160 rfl (lv_at hl 0 rfl) ?_
        refine va_get (D := D) (ci := 6) (v := .ref a_mh) (C := RX6) (T := TX6) (N := 17) hx hb hts hin6 hown hK.1 hP 0 rfl rfl 13 (by decide) (k_2) (fun _ h9 => h9) rfl dX6_passes_161 ?_
        refine lv_bipush (v := 7) hx hb dX6_passes_164 (by decide) ?_
        refine lv_iload_n hx hb dX6_passes_166 rfl (lv_at hl 1 rfl) ?_
        refine lv_imul hx hb dX6_passes_167 ?_
        refine lv_iload_n hx hb dX6_passes_168 rfl (lv_at hl 2 rfl) ?_
        refine lv_iadd hx hb dX6_passes_169 ?_
        refine z_iald (k := (((7 : Int32) * x1) + x2).toNatClampNeg) hx hb hK.1 hP 9 rfl rfl h.1 dX6_passes_170 ?_
        have h := h.2
        refine z_iast (k := (((14 : Int32) + ((7 : Int32) * x1)) + x2).toNatClampNeg) hx hb hK.1 hP hD hS 5 rfl rfl h.1 dX6_passes_171 (fun H locs hP hD hS => ?_)
        have h := h.2
        have hP : va_P D vwCl [(h6, .inr (6, [.ref a_mt, .int my, .ref a_mo, .ref a_md, .ref a_mb, .ref a_ms, .ref a_mp, .int mk, .ref a_mi, .int mq, .ref a_mn, .int mz, .int ma, .ref a_mh, .ref a_mg, .ref a_mr, .ref a_mx])), (a_mt, .inl (cI, 200, .inl mt)), (a_mo, .inl (cI, 16, .inl mo)), (a_md, .inl (cI, 16, .inl md)), (a_mb, .inl (cI, 56, .inl mb)), (a_ms, .inl (cI, 56, .inl (upd ms ((((14 : Int32) + ((7 : Int32) * x1)) + x2).toNatClampNeg) (mh ((((7 : Int32) * x1) + x2).toNatClampNeg))))), (a_mp, .inl (cI, 448, .inl mp)), (a_mi, .inl (cI, 112, .inl mi)), (a_mn, .inl (cI, 12, .inl mn)), (a_mh, .inl (cI, 42, .inl mh)), (a_mg, .inl (cI, 56, .inl mg)), (a_mr, .inl (cI, 6, .inl mr)), (a_mx, .inl (cI, 6, .inl mx))] H := hP
        have hD : va_D A [(h6, .inr (6, [.ref a_mt, .int my, .ref a_mo, .ref a_md, .ref a_mb, .ref a_ms, .ref a_mp, .int mk, .ref a_mi, .int mq, .ref a_mn, .int mz, .int ma, .ref a_mh, .ref a_mg, .ref a_mr, .ref a_mx])), (a_mt, .inl (cI, 200, .inl mt)), (a_mo, .inl (cI, 16, .inl mo)), (a_md, .inl (cI, 16, .inl md)), (a_mb, .inl (cI, 56, .inl mb)), (a_ms, .inl (cI, 56, .inl (upd ms ((((14 : Int32) + ((7 : Int32) * x1)) + x2).toNatClampNeg) (mh ((((7 : Int32) * x1) + x2).toNatClampNeg))))), (a_mp, .inl (cI, 448, .inl mp)), (a_mi, .inl (cI, 112, .inl mi)), (a_mn, .inl (cI, 12, .inl mn)), (a_mh, .inl (cI, 42, .inl mh)), (a_mg, .inl (cI, 56, .inl mg)), (a_mr, .inl (cI, 6, .inl mr)), (a_mx, .inl (cI, 6, .inl mx))] := hD
        refine lv_iinc (v := (x2 + (1 : Int32))) (lv' := [(2, .int (x2 + (1 : Int32))), (0, .ref h6), (1, .int x1)]) hx hb dX6_passes_172 hl (k := 2) rfl rfl (by decide) rfl (fun ls hl => ?_)
        refine lv_goto (tgt := 137) hx hb dX6_passes_175 (by decide) ?_
        exact ih h hP hD hS (lv_sub hl [1, 2, 0] rfl) hk125
  have L125 : ∀ (n : Nat) {x1 : Int32} {ms : Nat → Int32} {mh : Nat → Int32} {H : Heap} {locs : List Loc} {ls : Array Slot}, wX6_passes_L125 mo mh Q n x1 ms → va_P D vwCl [(h6, .inr (6, [.ref a_mt, .int my, .ref a_mo, .ref a_md, .ref a_mb, .ref a_ms, .ref a_mp, .int mk, .ref a_mi, .int mq, .ref a_mn, .int mz, .int ma, .ref a_mh, .ref a_mg, .ref a_mr, .ref a_mx])), (a_mt, .inl (cI, 200, .inl mt)), (a_mo, .inl (cI, 16, .inl mo)), (a_md, .inl (cI, 16, .inl md)), (a_mb, .inl (cI, 56, .inl mb)), (a_ms, .inl (cI, 56, .inl ms)), (a_mp, .inl (cI, 448, .inl mp)), (a_mi, .inl (cI, 112, .inl mi)), (a_mn, .inl (cI, 12, .inl mn)), (a_mh, .inl (cI, 42, .inl mh)), (a_mg, .inl (cI, 56, .inl mg)), (a_mr, .inl (cI, 6, .inl mr)), (a_mx, .inl (cI, 6, .inl mx))] H → va_D A [(h6, .inr (6, [.ref a_mt, .int my, .ref a_mo, .ref a_md, .ref a_mb, .ref a_ms, .ref a_mp, .int mk, .ref a_mi, .int mq, .ref a_mn, .int mz, .int ma, .ref a_mh, .ref a_mg, .ref a_mr, .ref a_mx])), (a_mt, .inl (cI, 200, .inl mt)), (a_mo, .inl (cI, 16, .inl mo)), (a_md, .inl (cI, 16, .inl md)), (a_mb, .inl (cI, 56, .inl mb)), (a_ms, .inl (cI, 56, .inl ms)), (a_mp, .inl (cI, 448, .inl mp)), (a_mi, .inl (cI, 112, .inl mi)), (a_mn, .inl (cI, 12, .inl mn)), (a_mh, .inl (cI, 42, .inl mh)), (a_mg, .inl (cI, 56, .inl mg)), (a_mr, .inl (cI, 6, .inl mr)), (a_mx, .inl (cI, 6, .inl mx))] → va_S A s.heap H locs → lv_has ls 4 [(0, .ref h6), (1, .int x1)] → W p l e rmX6_passes s m args below meth c H locs 0 0 Z (F0 m 125 ls []) := by
    intro n
    induction n with
    | zero =>
      intro x1 ms mh H locs ls h hP hD hS hl
      exact (show False from h).elim
    | succ n ih =>
      intro x1 ms mh H locs ls h hP hD hS hl
      refine lv_iload_n hx hb dX6_passes_125 rfl (lv_at hl 1 rfl) ?_
      refine lv_aload_n hx hb dX6_passes_126 rfl (lv_at hl 0 rfl) ?_
      refine va_get (D := D) (ci := 6) (v := .ref a_mo) (C := RX6) (T := TX6) (N := 17) hx hb hts hin6 hown hK.1 hP 0 rfl rfl 2 (by decide) (k_0) (fun _ h9 => h9) rfl dX6_passes_127 ?_
      refine lv_iconst (v := 1) hx hb dX6_passes_130 (by decide) ?_
      refine z_iald (k := 1) hx hb hK.1 hP 2 rfl (by decide) vi_1_16 dX6_passes_131 ?_
      refine lv_icmp_ge (tgt := 184) hx hb dX6_passes_132 (by decide) (fun c_41 => ?_) (fun c_41 => ?_)
      · have h := h.1 c_41
        refine lv_aload_n hx hb dX6_passes_184 rfl (lv_at hl 0 rfl) ?_
        refine va_get (D := D) (ci := 6) (v := .ref a_ms) (C := RX6) (T := TX6) (N := 17) hx hb hts hin6 hown hK.1 hP 0 rfl rfl 5 (by decide) (k_1) (fun _ h9 => h9) rfl dX6_passes_185 ?_
        refine lv_iconst (v := 0) hx hb dX6_passes_188 (by decide) ?_
        refine lv_dup2_11 hx hb dX6_passes_189 rfl rfl ?_
        refine z_iald (k := 0) hx hb hK.1 hP 5 rfl (by decide) vi_0_56 dX6_passes_190 ?_
        refine lv_iconst (v := 1) hx hb dX6_passes_191 (by decide) ?_
        refine lv_iadd hx hb dX6_passes_192 ?_
        refine z_iast (k := 0) hx hb hK.1 hP hD hS 5 rfl (by decide) vi_0_56 dX6_passes_193 (fun H locs hP hD hS => ?_)
        have hP : va_P D vwCl [(h6, .inr (6, [.ref a_mt, .int my, .ref a_mo, .ref a_md, .ref a_mb, .ref a_ms, .ref a_mp, .int mk, .ref a_mi, .int mq, .ref a_mn, .int mz, .int ma, .ref a_mh, .ref a_mg, .ref a_mr, .ref a_mx])), (a_mt, .inl (cI, 200, .inl mt)), (a_mo, .inl (cI, 16, .inl mo)), (a_md, .inl (cI, 16, .inl md)), (a_mb, .inl (cI, 56, .inl mb)), (a_ms, .inl (cI, 56, .inl (upd ms 0 ((ms 0) + (1 : Int32))))), (a_mp, .inl (cI, 448, .inl mp)), (a_mi, .inl (cI, 112, .inl mi)), (a_mn, .inl (cI, 12, .inl mn)), (a_mh, .inl (cI, 42, .inl mh)), (a_mg, .inl (cI, 56, .inl mg)), (a_mr, .inl (cI, 6, .inl mr)), (a_mx, .inl (cI, 6, .inl mx))] H := hP
        have hD : va_D A [(h6, .inr (6, [.ref a_mt, .int my, .ref a_mo, .ref a_md, .ref a_mb, .ref a_ms, .ref a_mp, .int mk, .ref a_mi, .int mq, .ref a_mn, .int mz, .int ma, .ref a_mh, .ref a_mg, .ref a_mr, .ref a_mx])), (a_mt, .inl (cI, 200, .inl mt)), (a_mo, .inl (cI, 16, .inl mo)), (a_md, .inl (cI, 16, .inl md)), (a_mb, .inl (cI, 56, .inl mb)), (a_ms, .inl (cI, 56, .inl (upd ms 0 ((ms 0) + (1 : Int32))))), (a_mp, .inl (cI, 448, .inl mp)), (a_mi, .inl (cI, 112, .inl mi)), (a_mn, .inl (cI, 12, .inl mn)), (a_mh, .inl (cI, 42, .inl mh)), (a_mg, .inl (cI, 56, .inl mg)), (a_mr, .inl (cI, 6, .inl mr)), (a_mx, .inl (cI, 6, .inl mx))] := hD
        exact hret ((upd ms 0 ((ms 0) + (1 : Int32))), mh) _ _ _ ls h hP hD hS dX6_passes_194
      · have h := h.2 c_41
        refine lv_iconst (v := 0) hx hb dX6_passes_135 (by decide) ?_
        refine lv_istore_n (lv' := [(2, .int (0 : Int32)), (0, .ref h6), (1, .int x1)]) hx hb dX6_passes_136 rfl hl (by decide) rfl (fun ls hl => ?_)
        obtain ⟨n_46, h⟩ := h
        refine L137 n_46 h hP hD hS (lv_sub hl [1, 2, 0] rfl) (fun x1_44 ms_45 H locs ls h hP hD hS hl => ?_)
        exact ih h hP hD hS (lv_sub hl [0, 1] rfl)
  refine lv_iconst (v := 0) hx hb dX6_passes_0 (by decide) ?_
  refine lv_istore_n (lv' := [(1, .int (0 : Int32)), (0, .ref h6)]) hx hb dX6_passes_1 rfl hl (by decide) rfl (fun ls hl => ?_)
  obtain ⟨n_49, h⟩ := h
  refine L2 n_49 h hP hD hS (lv_sub hl [1, 0] rfl) (fun ms_5 H locs ls h hP hD hS hl => ?_)
  refine lv_iconst (v := 0) hx hb dX6_passes_32 (by decide) ?_
  refine lv_istore_n (lv' := [(1, .int (0 : Int32)), (0, .ref h6)]) hx hb dX6_passes_33 rfl hl (by decide) rfl (fun ls hl => ?_)
  obtain ⟨n_48, h⟩ := h
  refine L34 n_48 h hP hD hS (lv_sub hl [1, 0] rfl) (fun mh_34 H locs ls h hP hD hS hl => ?_)
  refine lv_iconst (v := 0) hx hb dX6_passes_123 (by decide) ?_
  refine lv_istore_n (lv' := [(1, .int (0 : Int32)), (0, .ref h6)]) hx hb dX6_passes_124 rfl hl (by decide) rfl (fun ls hl => ?_)
  obtain ⟨n_47, h⟩ := h
  exact L125 n_47 h hP hD hS (lv_sub hl [1, 0] rfl)

/-! DoubtCourtModel.manyKnown -/
abbrev rmX6_manyKnown : Room := { frames := 0, cells := 0, slots := 0, locals := 0 }
theorem yoX6_manyKnown : yX6_manyKnown.cls ≠ "java/lang/invoke/MethodHandle" ∧ yX6_manyKnown.cls ≠ "java/lang/invoke/VarHandle" ∧ (parseMethodDescriptor yX6_manyKnown.desc).map (fun d => d.parameters.length) = some 0 := by decide +kernel
set_option maxHeartbeats 4000000 in
set_option maxRecDepth 100000 in
theorem c_X6_manyKnown (l : Launch) (D : va_G) (cI cC cQ : ClassId) (h6 : Nat) (a_mt : Nat) (a_mo : Nat) (a_md : Nat) (a_mb : Nat) (a_ms : Nat) (a_mp : Nat) (a_mi : Nat) (a_mn : Nat) (a_mh : Nat) (a_mg : Nat) (a_mr : Nat) (a_mx : Nat) (mt : Nat → Int32) (my : Int32) (mo : Nat → Int32) (md : Nat → Int32) (mb : Nat → Int32) (ms : Nat → Int32) (mp : Nat → Int32) (mk : Int32) (mi : Nat → Int32) (mq : Int32) (mn : Nat → Int32) (mz : Int32) (ma : Int32) (mh : Nat → Int32) (mg : Nat → Int32) (mr : Nat → Int32) (mx : Nat → Int32) (Q : Int32 → Prop) (h : wX6_manyKnown mo ms Q) : Ci (S := Unit) l D cI cC cQ yX6_manyKnown wsX6_manyKnown rmX6_manyKnown [.ref h6] [(h6, .inr (6, [.ref a_mt, .int my, .ref a_mo, .ref a_md, .ref a_mb, .ref a_ms, .ref a_mp, .int mk, .ref a_mi, .int mq, .ref a_mn, .int mz, .int ma, .ref a_mh, .ref a_mg, .ref a_mr, .ref a_mx])), (a_mt, .inl (cI, 200, .inl mt)), (a_mo, .inl (cI, 16, .inl mo)), (a_md, .inl (cI, 16, .inl md)), (a_mb, .inl (cI, 56, .inl mb)), (a_ms, .inl (cI, 56, .inl ms)), (a_mp, .inl (cI, 448, .inl mp)), (a_mi, .inl (cI, 112, .inl mi)), (a_mn, .inl (cI, 12, .inl mn)), (a_mh, .inl (cI, 42, .inl mh)), (a_mg, .inl (cI, 56, .inl mg)), (a_mr, .inl (cI, 6, .inl mr)), (a_mx, .inl (cI, 6, .inl mx))] (fun _ => [(h6, .inr (6, [.ref a_mt, .int my, .ref a_mo, .ref a_md, .ref a_mb, .ref a_ms, .ref a_mp, .int mk, .ref a_mi, .int mq, .ref a_mn, .int mz, .int ma, .ref a_mh, .ref a_mg, .ref a_mr, .ref a_mx])), (a_mt, .inl (cI, 200, .inl mt)), (a_mo, .inl (cI, 16, .inl mo)), (a_md, .inl (cI, 16, .inl md)), (a_mb, .inl (cI, 56, .inl mb)), (a_ms, .inl (cI, 56, .inl ms)), (a_mp, .inl (cI, 448, .inl mp)), (a_mi, .inl (cI, 112, .inl mi)), (a_mn, .inl (cI, 12, .inl mn)), (a_mh, .inl (cI, 42, .inl mh)), (a_mg, .inl (cI, 56, .inl mg)), (a_mr, .inl (cI, 6, .inl mr)), (a_mx, .inl (cI, 6, .inl mx))]) (fun r _ => Q r) := by
  refine Ci_mk (cc := cX6_manyKnown) (maxL := 3) (by decide) rfl (Nat.le_of_ble_eq_true rfl) ?_
  intro p e s m args below meth c A Z ls hx hb hml hown hts hK hA hP hD hret hl
  have hS : va_S A s.heap s.heap [] := va_S.rf
  have hin6 : ∀ w ∈ u_ws RX6 TX6 17, w ∈ wsX6_manyKnown := by decide +kernel
  have k_0 := hts (.fieldLink RX6 13 "DoubtCourtModel" "told" "[I") (by decide +kernel)
  have k_1 := hts (.fieldLink RX6 22 "DoubtCourtModel" "s" "[I") (by decide +kernel)
  have hl : lv_has ls 3 [(0, .ref h6)] := hl
  have L4 : ∀ (n : Nat) {x1 : Int32} {x2 : Int32} {H : Heap} {locs : List Loc} {ls : Array Slot}, wX6_manyKnown_L4 mo ms Q n x1 x2 → va_P D vwCl [(h6, .inr (6, [.ref a_mt, .int my, .ref a_mo, .ref a_md, .ref a_mb, .ref a_ms, .ref a_mp, .int mk, .ref a_mi, .int mq, .ref a_mn, .int mz, .int ma, .ref a_mh, .ref a_mg, .ref a_mr, .ref a_mx])), (a_mt, .inl (cI, 200, .inl mt)), (a_mo, .inl (cI, 16, .inl mo)), (a_md, .inl (cI, 16, .inl md)), (a_mb, .inl (cI, 56, .inl mb)), (a_ms, .inl (cI, 56, .inl ms)), (a_mp, .inl (cI, 448, .inl mp)), (a_mi, .inl (cI, 112, .inl mi)), (a_mn, .inl (cI, 12, .inl mn)), (a_mh, .inl (cI, 42, .inl mh)), (a_mg, .inl (cI, 56, .inl mg)), (a_mr, .inl (cI, 6, .inl mr)), (a_mx, .inl (cI, 6, .inl mx))] H → va_D A [(h6, .inr (6, [.ref a_mt, .int my, .ref a_mo, .ref a_md, .ref a_mb, .ref a_ms, .ref a_mp, .int mk, .ref a_mi, .int mq, .ref a_mn, .int mz, .int ma, .ref a_mh, .ref a_mg, .ref a_mr, .ref a_mx])), (a_mt, .inl (cI, 200, .inl mt)), (a_mo, .inl (cI, 16, .inl mo)), (a_md, .inl (cI, 16, .inl md)), (a_mb, .inl (cI, 56, .inl mb)), (a_ms, .inl (cI, 56, .inl ms)), (a_mp, .inl (cI, 448, .inl mp)), (a_mi, .inl (cI, 112, .inl mi)), (a_mn, .inl (cI, 12, .inl mn)), (a_mh, .inl (cI, 42, .inl mh)), (a_mg, .inl (cI, 56, .inl mg)), (a_mr, .inl (cI, 6, .inl mr)), (a_mx, .inl (cI, 6, .inl mx))] → va_S A s.heap H locs → lv_has ls 3 [(0, .ref h6), (1, .int x1), (2, .int x2)] → W p l e rmX6_manyKnown s m args below meth c H locs 0 0 Z (F0 m 4 ls []) := by
    intro n
    induction n with
    | zero =>
      intro x1 x2 H locs ls h hP hD hS hl
      exact (show False from h).elim
    | succ n ih =>
      intro x1 x2 H locs ls h hP hD hS hl
      refine lv_iload_n hx hb dX6_manyKnown_4 rfl (lv_at hl 2 rfl) ?_
      refine lv_aload_n hx hb dX6_manyKnown_5 rfl (lv_at hl 0 rfl) ?_
      refine va_get (D := D) (ci := 6) (v := .ref a_mo) (C := RX6) (T := TX6) (N := 17) hx hb hts hin6 hown hK.1 hP 0 rfl rfl 2 (by decide) (k_0) (fun _ h9 => h9) rfl dX6_manyKnown_6 ?_
      refine lv_iconst (v := 1) hx hb dX6_manyKnown_9 (by decide) ?_
      refine z_iald (k := 1) hx hb hK.1 hP 2 rfl (by decide) vi_1_16 dX6_manyKnown_10 ?_
      refine lv_icmp_ge (tgt := 42) hx hb dX6_manyKnown_11 (by decide) (fun c_5 => ?_) (fun c_5 => ?_)
      · have h := h.1 c_5
        refine lv_iload_n hx hb dX6_manyKnown_42 rfl (lv_at hl 1 rfl) ?_
        exact hret x1 () _ _ _ ls h hP hD hS dX6_manyKnown_43
      · have h := h.2 c_5
        refine lv_iload_n hx hb dX6_manyKnown_14 rfl (lv_at hl 1 rfl) ?_
        refine lv_aload_n hx hb dX6_manyKnown_15 rfl (lv_at hl 0 rfl) ?_
        refine va_get (D := D) (ci := 6) (v := .ref a_ms) (C := RX6) (T := TX6) (N := 17) hx hb hts hin6 hown hK.1 hP 0 rfl rfl 5 (by decide) (k_1) (fun _ h9 => h9) rfl dX6_manyKnown_16 ?_
        refine lv_bipush (v := 8) hx hb dX6_manyKnown_19 (by decide) ?_
        refine lv_iload_n hx hb dX6_manyKnown_21 rfl (lv_at hl 2 rfl) ?_
        refine lv_iadd hx hb dX6_manyKnown_22 ?_
        refine z_iald (k := ((8 : Int32) + x2).toNatClampNeg) hx hb hK.1 hP 5 rfl rfl h.1 dX6_manyKnown_23 ?_
        have h := h.2
        refine lv_bipush (v := 9) hx hb dX6_manyKnown_24 (by decide) ?_
        refine lv_icmp_ne (tgt := 33) hx hb dX6_manyKnown_26 (by decide) (fun c_6 => ?_) (fun c_6 => ?_)
        · have h := h.2 c_6
          refine lv_iconst (v := 0) hx hb dX6_manyKnown_33 (by decide) ?_
          refine lv_iadd hx hb dX6_manyKnown_34 ?_
          refine lv_topi (fun v_7 ev_7 => ?_)
          have h := h v_7 ev_7
          refine lv_istore_n (lv' := [(1, .int v_7), (0, .ref h6), (2, .int x2)]) hx hb dX6_manyKnown_35 rfl hl (by decide) rfl (fun ls hl => ?_)
          refine lv_iinc (v := (x2 + (1 : Int32))) (lv' := [(2, .int (x2 + (1 : Int32))), (1, .int v_7), (0, .ref h6)]) hx hb dX6_manyKnown_36 hl (k := 2) rfl rfl (by decide) rfl (fun ls hl => ?_)
          refine lv_goto (tgt := 4) hx hb dX6_manyKnown_39 (by decide) ?_
          exact ih h hP hD hS (lv_sub hl [2, 1, 0] rfl)
        · have h := h.1 c_6
          refine lv_iconst (v := 1) hx hb dX6_manyKnown_29 (by decide) ?_
          refine lv_goto (tgt := 34) hx hb dX6_manyKnown_30 (by decide) ?_
          refine lv_iadd hx hb dX6_manyKnown_34 ?_
          refine lv_topi (fun v_8 ev_8 => ?_)
          have h := h v_8 ev_8
          refine lv_istore_n (lv' := [(1, .int v_8), (0, .ref h6), (2, .int x2)]) hx hb dX6_manyKnown_35 rfl hl (by decide) rfl (fun ls hl => ?_)
          refine lv_iinc (v := (x2 + (1 : Int32))) (lv' := [(2, .int (x2 + (1 : Int32))), (1, .int v_8), (0, .ref h6)]) hx hb dX6_manyKnown_36 hl (k := 2) rfl rfl (by decide) rfl (fun ls hl => ?_)
          refine lv_goto (tgt := 4) hx hb dX6_manyKnown_39 (by decide) ?_
          exact ih h hP hD hS (lv_sub hl [2, 1, 0] rfl)
  refine lv_iconst (v := 0) hx hb dX6_manyKnown_0 (by decide) ?_
  refine lv_istore_n (lv' := [(1, .int (0 : Int32)), (0, .ref h6)]) hx hb dX6_manyKnown_1 rfl hl (by decide) rfl (fun ls hl => ?_)
  refine lv_iconst (v := 0) hx hb dX6_manyKnown_2 (by decide) ?_
  refine lv_istore_n (lv' := [(2, .int (0 : Int32)), (1, .int (0 : Int32)), (0, .ref h6)]) hx hb dX6_manyKnown_3 rfl hl (by decide) rfl (fun ls hl => ?_)
  obtain ⟨n_9, h⟩ := h
  exact L4 n_9 h hP hD hS (lv_sub hl [2, 1, 0] rfl)

/-! DoubtCourtModel.keeps -/
abbrev rmX6_keeps : Room := { frames := 0, cells := 0, slots := 0, locals := 0 }
theorem yoX6_keeps : yX6_keeps.cls ≠ "java/lang/invoke/MethodHandle" ∧ yX6_keeps.cls ≠ "java/lang/invoke/VarHandle" ∧ (parseMethodDescriptor yX6_keeps.desc).map (fun d => d.parameters.length) = some 0 := by decide +kernel
set_option maxHeartbeats 4000000 in
set_option maxRecDepth 100000 in
theorem c_X6_keeps (l : Launch) (D : va_G) (cI cC cQ : ClassId) (h6 : Nat) (a_mt : Nat) (a_mo : Nat) (a_md : Nat) (a_mb : Nat) (a_ms : Nat) (a_mp : Nat) (a_mi : Nat) (a_mn : Nat) (a_mh : Nat) (a_mg : Nat) (a_mr : Nat) (a_mx : Nat) (mt : Nat → Int32) (my : Int32) (mo : Nat → Int32) (md : Nat → Int32) (mb : Nat → Int32) (ms : Nat → Int32) (mp : Nat → Int32) (mk : Int32) (mi : Nat → Int32) (mq : Int32) (mn : Nat → Int32) (mz : Int32) (ma : Int32) (mh : Nat → Int32) (mg : Nat → Int32) (mr : Nat → Int32) (mx : Nat → Int32) (Q : (Nat → Int32) → Int32 → Prop) (h : wX6_keeps ms mp mk Q) : Cv (S := (Nat → Int32) × (Int32)) l D cI cC cQ yX6_keeps wsX6_keeps rmX6_keeps [.ref h6] [(h6, .inr (6, [.ref a_mt, .int my, .ref a_mo, .ref a_md, .ref a_mb, .ref a_ms, .ref a_mp, .int mk, .ref a_mi, .int mq, .ref a_mn, .int mz, .int ma, .ref a_mh, .ref a_mg, .ref a_mr, .ref a_mx])), (a_mt, .inl (cI, 200, .inl mt)), (a_mo, .inl (cI, 16, .inl mo)), (a_md, .inl (cI, 16, .inl md)), (a_mb, .inl (cI, 56, .inl mb)), (a_ms, .inl (cI, 56, .inl ms)), (a_mp, .inl (cI, 448, .inl mp)), (a_mi, .inl (cI, 112, .inl mi)), (a_mn, .inl (cI, 12, .inl mn)), (a_mh, .inl (cI, 42, .inl mh)), (a_mg, .inl (cI, 56, .inl mg)), (a_mr, .inl (cI, 6, .inl mr)), (a_mx, .inl (cI, 6, .inl mx))] (fun u => [(h6, .inr (6, [.ref a_mt, .int my, .ref a_mo, .ref a_md, .ref a_mb, .ref a_ms, .ref a_mp, .int u.2, .ref a_mi, .int mq, .ref a_mn, .int mz, .int ma, .ref a_mh, .ref a_mg, .ref a_mr, .ref a_mx])), (a_mt, .inl (cI, 200, .inl mt)), (a_mo, .inl (cI, 16, .inl mo)), (a_md, .inl (cI, 16, .inl md)), (a_mb, .inl (cI, 56, .inl mb)), (a_ms, .inl (cI, 56, .inl ms)), (a_mp, .inl (cI, 448, .inl u.1)), (a_mi, .inl (cI, 112, .inl mi)), (a_mn, .inl (cI, 12, .inl mn)), (a_mh, .inl (cI, 42, .inl mh)), (a_mg, .inl (cI, 56, .inl mg)), (a_mr, .inl (cI, 6, .inl mr)), (a_mx, .inl (cI, 6, .inl mx))]) (fun u => Q u.1 u.2) := by
  refine Cv_mk (cc := cX6_keeps) (maxL := 2) (by decide) rfl (Nat.le_of_ble_eq_true rfl) ?_
  intro p e s m args below meth c A Z ls hx hb hml hown hts hK hA hP hD hret hl
  have hS : va_S A s.heap s.heap [] := va_S.rf
  have hin6 : ∀ w ∈ u_ws RX6 TX6 17, w ∈ wsX6_keeps := by decide +kernel
  have k_0 := hts (.fieldLink RX6 97 "DoubtCourtModel" "known" "I") (by decide +kernel)
  have k_1 := hts (.fieldLink RX6 25 "DoubtCourtModel" "past" "[I") (by decide +kernel)
  have k_2 := hts (.fieldLink RX6 22 "DoubtCourtModel" "s" "[I") (by decide +kernel)
  have hl : lv_has ls 2 [(0, .ref h6)] := hl
  have L51 : ∀ (n : Nat) {x1 : Int32} {mp : Nat → Int32} {mk : Int32} {H : Heap} {locs : List Loc} {ls : Array Slot}, wX6_keeps_L51 ms mk Q n x1 mp → va_P D vwCl [(h6, .inr (6, [.ref a_mt, .int my, .ref a_mo, .ref a_md, .ref a_mb, .ref a_ms, .ref a_mp, .int mk, .ref a_mi, .int mq, .ref a_mn, .int mz, .int ma, .ref a_mh, .ref a_mg, .ref a_mr, .ref a_mx])), (a_mt, .inl (cI, 200, .inl mt)), (a_mo, .inl (cI, 16, .inl mo)), (a_md, .inl (cI, 16, .inl md)), (a_mb, .inl (cI, 56, .inl mb)), (a_ms, .inl (cI, 56, .inl ms)), (a_mp, .inl (cI, 448, .inl mp)), (a_mi, .inl (cI, 112, .inl mi)), (a_mn, .inl (cI, 12, .inl mn)), (a_mh, .inl (cI, 42, .inl mh)), (a_mg, .inl (cI, 56, .inl mg)), (a_mr, .inl (cI, 6, .inl mr)), (a_mx, .inl (cI, 6, .inl mx))] H → va_D A [(h6, .inr (6, [.ref a_mt, .int my, .ref a_mo, .ref a_md, .ref a_mb, .ref a_ms, .ref a_mp, .int mk, .ref a_mi, .int mq, .ref a_mn, .int mz, .int ma, .ref a_mh, .ref a_mg, .ref a_mr, .ref a_mx])), (a_mt, .inl (cI, 200, .inl mt)), (a_mo, .inl (cI, 16, .inl mo)), (a_md, .inl (cI, 16, .inl md)), (a_mb, .inl (cI, 56, .inl mb)), (a_ms, .inl (cI, 56, .inl ms)), (a_mp, .inl (cI, 448, .inl mp)), (a_mi, .inl (cI, 112, .inl mi)), (a_mn, .inl (cI, 12, .inl mn)), (a_mh, .inl (cI, 42, .inl mh)), (a_mg, .inl (cI, 56, .inl mg)), (a_mr, .inl (cI, 6, .inl mr)), (a_mx, .inl (cI, 6, .inl mx))] → va_S A s.heap H locs → lv_has ls 2 [(0, .ref h6), (1, .int x1)] → W p l e rmX6_keeps s m args below meth c H locs 0 0 Z (F0 m 51 ls []) := by
    intro n
    induction n with
    | zero =>
      intro x1 mp mk H locs ls h hP hD hS hl
      exact (show False from h).elim
    | succ n ih =>
      intro x1 mp mk H locs ls h hP hD hS hl
      refine lv_iload_n hx hb dX6_keeps_51 rfl (lv_at hl 1 rfl) ?_
      refine lv_bipush (v := 56) hx hb dX6_keeps_52 (by decide) ?_
      refine lv_icmp_ge (tgt := 83) hx hb dX6_keeps_54 (by decide) (fun c_3 => ?_) (fun c_3 => ?_)
      · have h := h.1 c_3
        refine lv_aload_n hx hb dX6_keeps_83 rfl (lv_at hl 0 rfl) ?_
        refine lv_dup hx hb dX6_keeps_84 rfl ?_
        refine va_get (D := D) (ci := 6) (v := .int mk) (C := RX6) (T := TX6) (N := 17) hx hb hts hin6 hown hK.1 hP 0 rfl rfl 7 (by decide) (k_0) (fun _ h9 => h9) rfl dX6_keeps_85 ?_
        refine lv_iconst (v := 1) hx hb dX6_keeps_88 (by decide) ?_
        refine lv_iadd hx hb dX6_keeps_89 ?_
        refine va_put (D := D) (ci := 6) (v := .int (mk + (1 : Int32))) (ty := .int) (C := RX6) (T := TX6) (N := 17) hx hb hts hin6 tyX6 tyX6_ok nmX6 hown hK.1 hP hD hS 0 rfl rfl 7 (by decide) (k_0) (fun _ h9 => h9) rfl (by decide +kernel) rfl rfl (Nat.le_of_ble_eq_true rfl) dX6_keeps_90 (fun H locs hP hD hS => ?_)
        have hP : va_P D vwCl [(h6, .inr (6, [.ref a_mt, .int my, .ref a_mo, .ref a_md, .ref a_mb, .ref a_ms, .ref a_mp, .int (mk + (1 : Int32)), .ref a_mi, .int mq, .ref a_mn, .int mz, .int ma, .ref a_mh, .ref a_mg, .ref a_mr, .ref a_mx])), (a_mt, .inl (cI, 200, .inl mt)), (a_mo, .inl (cI, 16, .inl mo)), (a_md, .inl (cI, 16, .inl md)), (a_mb, .inl (cI, 56, .inl mb)), (a_ms, .inl (cI, 56, .inl ms)), (a_mp, .inl (cI, 448, .inl mp)), (a_mi, .inl (cI, 112, .inl mi)), (a_mn, .inl (cI, 12, .inl mn)), (a_mh, .inl (cI, 42, .inl mh)), (a_mg, .inl (cI, 56, .inl mg)), (a_mr, .inl (cI, 6, .inl mr)), (a_mx, .inl (cI, 6, .inl mx))] H := hP
        have hD : va_D A [(h6, .inr (6, [.ref a_mt, .int my, .ref a_mo, .ref a_md, .ref a_mb, .ref a_ms, .ref a_mp, .int (mk + (1 : Int32)), .ref a_mi, .int mq, .ref a_mn, .int mz, .int ma, .ref a_mh, .ref a_mg, .ref a_mr, .ref a_mx])), (a_mt, .inl (cI, 200, .inl mt)), (a_mo, .inl (cI, 16, .inl mo)), (a_md, .inl (cI, 16, .inl md)), (a_mb, .inl (cI, 56, .inl mb)), (a_ms, .inl (cI, 56, .inl ms)), (a_mp, .inl (cI, 448, .inl mp)), (a_mi, .inl (cI, 112, .inl mi)), (a_mn, .inl (cI, 12, .inl mn)), (a_mh, .inl (cI, 42, .inl mh)), (a_mg, .inl (cI, 56, .inl mg)), (a_mr, .inl (cI, 6, .inl mr)), (a_mx, .inl (cI, 6, .inl mx))] := hD
        exact hret (mp, (mk + (1 : Int32))) _ _ _ ls h hP hD hS dX6_keeps_93
      · have h := h.2 c_3
        refine lv_aload_n hx hb dX6_keeps_57 rfl (lv_at hl 0 rfl) ?_
        refine va_get (D := D) (ci := 6) (v := .ref a_mp) (C := RX6) (T := TX6) (N := 17) hx hb hts hin6 hown hK.1 hP 0 rfl rfl 6 (by decide) (k_1) (fun _ h9 => h9) rfl dX6_keeps_58 ?_
        refine lv_bipush (v := 56) hx hb dX6_keeps_61 (by decide) ?_
        refine lv_aload_n hx hb dX6_keeps_63 rfl (lv_at hl 0 rfl) ?_
        refine va_get (D := D) (ci := 6) (v := .int mk) (C := RX6) (T := TX6) (N := 17) hx hb hts hin6 hown hK.1 hP 0 rfl rfl 7 (by decide) (k_0) (fun _ h9 => h9) rfl dX6_keeps_64 ?_
        refine lv_imul hx hb dX6_keeps_67 ?_
        refine lv_iload_n hx hb dX6_keeps_68 rfl (lv_at hl 1 rfl) ?_
        refine lv_iadd hx hb dX6_keeps_69 ?_
        refine lv_aload_n hx hb dX6_keeps_70 rfl (lv_at hl 0 rfl) ?_
        refine va_get (D := D) (ci := 6) (v := .ref a_ms) (C := RX6) (T := TX6) (N := 17) hx hb hts hin6 hown hK.1 hP 0 rfl rfl 5 (by decide) (k_2) (fun _ h9 => h9) rfl dX6_keeps_71 ?_
        refine lv_iload_n hx hb dX6_keeps_74 rfl (lv_at hl 1 rfl) ?_
        refine z_iald (k := x1.toNatClampNeg) hx hb hK.1 hP 5 rfl rfl h.1 dX6_keeps_75 ?_
        have h := h.2
        refine z_iast (k := (((56 : Int32) * mk) + x1).toNatClampNeg) hx hb hK.1 hP hD hS 6 rfl rfl h.1 dX6_keeps_76 (fun H locs hP hD hS => ?_)
        have h := h.2
        have hP : va_P D vwCl [(h6, .inr (6, [.ref a_mt, .int my, .ref a_mo, .ref a_md, .ref a_mb, .ref a_ms, .ref a_mp, .int mk, .ref a_mi, .int mq, .ref a_mn, .int mz, .int ma, .ref a_mh, .ref a_mg, .ref a_mr, .ref a_mx])), (a_mt, .inl (cI, 200, .inl mt)), (a_mo, .inl (cI, 16, .inl mo)), (a_md, .inl (cI, 16, .inl md)), (a_mb, .inl (cI, 56, .inl mb)), (a_ms, .inl (cI, 56, .inl ms)), (a_mp, .inl (cI, 448, .inl (upd mp ((((56 : Int32) * mk) + x1).toNatClampNeg) (ms x1.toNatClampNeg)))), (a_mi, .inl (cI, 112, .inl mi)), (a_mn, .inl (cI, 12, .inl mn)), (a_mh, .inl (cI, 42, .inl mh)), (a_mg, .inl (cI, 56, .inl mg)), (a_mr, .inl (cI, 6, .inl mr)), (a_mx, .inl (cI, 6, .inl mx))] H := hP
        have hD : va_D A [(h6, .inr (6, [.ref a_mt, .int my, .ref a_mo, .ref a_md, .ref a_mb, .ref a_ms, .ref a_mp, .int mk, .ref a_mi, .int mq, .ref a_mn, .int mz, .int ma, .ref a_mh, .ref a_mg, .ref a_mr, .ref a_mx])), (a_mt, .inl (cI, 200, .inl mt)), (a_mo, .inl (cI, 16, .inl mo)), (a_md, .inl (cI, 16, .inl md)), (a_mb, .inl (cI, 56, .inl mb)), (a_ms, .inl (cI, 56, .inl ms)), (a_mp, .inl (cI, 448, .inl (upd mp ((((56 : Int32) * mk) + x1).toNatClampNeg) (ms x1.toNatClampNeg)))), (a_mi, .inl (cI, 112, .inl mi)), (a_mn, .inl (cI, 12, .inl mn)), (a_mh, .inl (cI, 42, .inl mh)), (a_mg, .inl (cI, 56, .inl mg)), (a_mr, .inl (cI, 6, .inl mr)), (a_mx, .inl (cI, 6, .inl mx))] := hD
        refine lv_iinc (v := (x1 + (1 : Int32))) (lv' := [(1, .int (x1 + (1 : Int32))), (0, .ref h6)]) hx hb dX6_keeps_77 hl (k := 1) rfl rfl (by decide) rfl (fun ls hl => ?_)
        refine lv_goto (tgt := 51) hx hb dX6_keeps_80 (by decide) ?_
        exact ih h hP hD hS (lv_sub hl [1, 0] rfl)
  have L11 : ∀ {K39 : (Nat → Int32) → Prop} (n : Nat) {x1 : Int32} {mp : Nat → Int32} {mk : Int32} {H : Heap} {locs : List Loc} {ls : Array Slot}, wX6_keeps_L11 K39 n x1 mp → va_P D vwCl [(h6, .inr (6, [.ref a_mt, .int my, .ref a_mo, .ref a_md, .ref a_mb, .ref a_ms, .ref a_mp, .int mk, .ref a_mi, .int mq, .ref a_mn, .int mz, .int ma, .ref a_mh, .ref a_mg, .ref a_mr, .ref a_mx])), (a_mt, .inl (cI, 200, .inl mt)), (a_mo, .inl (cI, 16, .inl mo)), (a_md, .inl (cI, 16, .inl md)), (a_mb, .inl (cI, 56, .inl mb)), (a_ms, .inl (cI, 56, .inl ms)), (a_mp, .inl (cI, 448, .inl mp)), (a_mi, .inl (cI, 112, .inl mi)), (a_mn, .inl (cI, 12, .inl mn)), (a_mh, .inl (cI, 42, .inl mh)), (a_mg, .inl (cI, 56, .inl mg)), (a_mr, .inl (cI, 6, .inl mr)), (a_mx, .inl (cI, 6, .inl mx))] H → va_D A [(h6, .inr (6, [.ref a_mt, .int my, .ref a_mo, .ref a_md, .ref a_mb, .ref a_ms, .ref a_mp, .int mk, .ref a_mi, .int mq, .ref a_mn, .int mz, .int ma, .ref a_mh, .ref a_mg, .ref a_mr, .ref a_mx])), (a_mt, .inl (cI, 200, .inl mt)), (a_mo, .inl (cI, 16, .inl mo)), (a_md, .inl (cI, 16, .inl md)), (a_mb, .inl (cI, 56, .inl mb)), (a_ms, .inl (cI, 56, .inl ms)), (a_mp, .inl (cI, 448, .inl mp)), (a_mi, .inl (cI, 112, .inl mi)), (a_mn, .inl (cI, 12, .inl mn)), (a_mh, .inl (cI, 42, .inl mh)), (a_mg, .inl (cI, 56, .inl mg)), (a_mr, .inl (cI, 6, .inl mr)), (a_mx, .inl (cI, 6, .inl mx))] → va_S A s.heap H locs → lv_has ls 2 [(0, .ref h6), (1, .int x1)] → (∀ (mp : Nat → Int32) (H : Heap) (locs : List Loc) (ls : Array Slot), K39 mp → va_P D vwCl [(h6, .inr (6, [.ref a_mt, .int my, .ref a_mo, .ref a_md, .ref a_mb, .ref a_ms, .ref a_mp, .int mk, .ref a_mi, .int mq, .ref a_mn, .int mz, .int ma, .ref a_mh, .ref a_mg, .ref a_mr, .ref a_mx])), (a_mt, .inl (cI, 200, .inl mt)), (a_mo, .inl (cI, 16, .inl mo)), (a_md, .inl (cI, 16, .inl md)), (a_mb, .inl (cI, 56, .inl mb)), (a_ms, .inl (cI, 56, .inl ms)), (a_mp, .inl (cI, 448, .inl mp)), (a_mi, .inl (cI, 112, .inl mi)), (a_mn, .inl (cI, 12, .inl mn)), (a_mh, .inl (cI, 42, .inl mh)), (a_mg, .inl (cI, 56, .inl mg)), (a_mr, .inl (cI, 6, .inl mr)), (a_mx, .inl (cI, 6, .inl mx))] H → va_D A [(h6, .inr (6, [.ref a_mt, .int my, .ref a_mo, .ref a_md, .ref a_mb, .ref a_ms, .ref a_mp, .int mk, .ref a_mi, .int mq, .ref a_mn, .int mz, .int ma, .ref a_mh, .ref a_mg, .ref a_mr, .ref a_mx])), (a_mt, .inl (cI, 200, .inl mt)), (a_mo, .inl (cI, 16, .inl mo)), (a_md, .inl (cI, 16, .inl md)), (a_mb, .inl (cI, 56, .inl mb)), (a_ms, .inl (cI, 56, .inl ms)), (a_mp, .inl (cI, 448, .inl mp)), (a_mi, .inl (cI, 112, .inl mi)), (a_mn, .inl (cI, 12, .inl mn)), (a_mh, .inl (cI, 42, .inl mh)), (a_mg, .inl (cI, 56, .inl mg)), (a_mr, .inl (cI, 6, .inl mr)), (a_mx, .inl (cI, 6, .inl mx))] → va_S A s.heap H locs → lv_has ls 2 [(0, .ref h6)] → W p l e rmX6_keeps s m args below meth c H locs 0 0 Z (F0 m 39 ls [])) → W p l e rmX6_keeps s m args below meth c H locs 0 0 Z (F0 m 11 ls []) := by
    intro K39
    intro n
    induction n with
    | zero =>
      intro x1 mp mk H locs ls h hP hD hS hl hk39
      exact (show False from h).elim
    | succ n ih =>
      intro x1 mp mk H locs ls h hP hD hS hl hk39
      refine lv_iload_n hx hb dX6_keeps_11 rfl (lv_at hl 1 rfl) ?_
      refine lv_sipush (v := 392) hx hb dX6_keeps_12 (by decide) ?_
      refine lv_icmp_ge (tgt := 39) hx hb dX6_keeps_15 (by decide) (fun c_6 => ?_) (fun c_6 => ?_)
      · have h := h.1 c_6
        exact hk39 mp _ _ _ h hP hD hS (lv_sub hl [0] rfl)
      · have h := h.2 c_6
        refine lv_aload_n hx hb dX6_keeps_18 rfl (lv_at hl 0 rfl) ?_
        refine va_get (D := D) (ci := 6) (v := .ref a_mp) (C := RX6) (T := TX6) (N := 17) hx hb hts hin6 hown hK.1 hP 0 rfl rfl 6 (by decide) (k_1) (fun _ h9 => h9) rfl dX6_keeps_19 ?_
        refine lv_iload_n hx hb dX6_keeps_22 rfl (lv_at hl 1 rfl) ?_
        refine lv_aload_n hx hb dX6_keeps_23 rfl (lv_at hl 0 rfl) ?_
        refine va_get (D := D) (ci := 6) (v := .ref a_mp) (C := RX6) (T := TX6) (N := 17) hx hb hts hin6 hown hK.1 hP 0 rfl rfl 6 (by decide) (k_1) (fun _ h9 => h9) rfl dX6_keeps_24 ?_
        refine lv_iload_n hx hb dX6_keeps_27 rfl (lv_at hl 1 rfl) ?_
        refine lv_bipush (v := 56) hx hb dX6_keeps_28 (by decide) ?_
        refine lv_iadd hx hb dX6_keeps_30 ?_
        refine z_iald (k := (x1 + (56 : Int32)).toNatClampNeg) hx hb hK.1 hP 6 rfl rfl h.1 dX6_keeps_31 ?_
        have h := h.2
        refine z_iast (k := x1.toNatClampNeg) hx hb hK.1 hP hD hS 6 rfl rfl h.1 dX6_keeps_32 (fun H locs hP hD hS => ?_)
        have h := h.2
        have hP : va_P D vwCl [(h6, .inr (6, [.ref a_mt, .int my, .ref a_mo, .ref a_md, .ref a_mb, .ref a_ms, .ref a_mp, .int mk, .ref a_mi, .int mq, .ref a_mn, .int mz, .int ma, .ref a_mh, .ref a_mg, .ref a_mr, .ref a_mx])), (a_mt, .inl (cI, 200, .inl mt)), (a_mo, .inl (cI, 16, .inl mo)), (a_md, .inl (cI, 16, .inl md)), (a_mb, .inl (cI, 56, .inl mb)), (a_ms, .inl (cI, 56, .inl ms)), (a_mp, .inl (cI, 448, .inl (upd mp x1.toNatClampNeg (mp ((x1 + (56 : Int32)).toNatClampNeg))))), (a_mi, .inl (cI, 112, .inl mi)), (a_mn, .inl (cI, 12, .inl mn)), (a_mh, .inl (cI, 42, .inl mh)), (a_mg, .inl (cI, 56, .inl mg)), (a_mr, .inl (cI, 6, .inl mr)), (a_mx, .inl (cI, 6, .inl mx))] H := hP
        have hD : va_D A [(h6, .inr (6, [.ref a_mt, .int my, .ref a_mo, .ref a_md, .ref a_mb, .ref a_ms, .ref a_mp, .int mk, .ref a_mi, .int mq, .ref a_mn, .int mz, .int ma, .ref a_mh, .ref a_mg, .ref a_mr, .ref a_mx])), (a_mt, .inl (cI, 200, .inl mt)), (a_mo, .inl (cI, 16, .inl mo)), (a_md, .inl (cI, 16, .inl md)), (a_mb, .inl (cI, 56, .inl mb)), (a_ms, .inl (cI, 56, .inl ms)), (a_mp, .inl (cI, 448, .inl (upd mp x1.toNatClampNeg (mp ((x1 + (56 : Int32)).toNatClampNeg))))), (a_mi, .inl (cI, 112, .inl mi)), (a_mn, .inl (cI, 12, .inl mn)), (a_mh, .inl (cI, 42, .inl mh)), (a_mg, .inl (cI, 56, .inl mg)), (a_mr, .inl (cI, 6, .inl mr)), (a_mx, .inl (cI, 6, .inl mx))] := hD
        refine lv_iinc (v := (x1 + (1 : Int32))) (lv' := [(1, .int (x1 + (1 : Int32))), (0, .ref h6)]) hx hb dX6_keeps_33 hl (k := 1) rfl rfl (by decide) rfl (fun ls hl => ?_)
        refine lv_goto (tgt := 11) hx hb dX6_keeps_36 (by decide) ?_
        exact ih h hP hD hS (lv_sub hl [1, 0] rfl) hk39
  refine lv_aload_n hx hb dX6_keeps_0 rfl (lv_at hl 0 rfl) ?_
  refine va_get (D := D) (ci := 6) (v := .int mk) (C := RX6) (T := TX6) (N := 17) hx hb hts hin6 hown hK.1 hP 0 rfl rfl 7 (by decide) (k_0) (fun _ h9 => h9) rfl dX6_keeps_1 ?_
  refine lv_bipush (v := 8) hx hb dX6_keeps_4 (by decide) ?_
  refine lv_icmp_ne (tgt := 49) hx hb dX6_keeps_6 (by decide) (fun c_1 => ?_) (fun c_1 => ?_)
  · have h := h.2 c_1
    refine lv_iconst (v := 0) hx hb dX6_keeps_49 (by decide) ?_
    refine lv_istore_n (lv' := [(1, .int (0 : Int32)), (0, .ref h6)]) hx hb dX6_keeps_50 rfl hl (by decide) rfl (fun ls hl => ?_)
    obtain ⟨n_4, h⟩ := h
    exact L51 n_4 h hP hD hS (lv_sub hl [1, 0] rfl)
  · have h := h.1 c_1
    refine lv_iconst (v := 0) hx hb dX6_keeps_9 (by decide) ?_
    refine lv_istore_n (lv' := [(1, .int (0 : Int32)), (0, .ref h6)]) hx hb dX6_keeps_10 rfl hl (by decide) rfl (fun ls hl => ?_)
    obtain ⟨n_9, h⟩ := h
    refine L11 n_9 h hP hD hS (lv_sub hl [1, 0] rfl) (fun mp_7 H locs ls h hP hD hS hl => ?_)
    refine lv_aload_n hx hb dX6_keeps_39 rfl (lv_at hl 0 rfl) ?_
    refine lv_dup hx hb dX6_keeps_40 rfl ?_
    refine va_get (D := D) (ci := 6) (v := .int mk) (C := RX6) (T := TX6) (N := 17) hx hb hts hin6 hown hK.1 hP 0 rfl rfl 7 (by decide) (k_0) (fun _ h9 => h9) rfl dX6_keeps_41 ?_
    refine lv_iconst (v := 1) hx hb dX6_keeps_44 (by decide) ?_
    refine lv_isub hx hb dX6_keeps_45 ?_
    refine va_put (D := D) (ci := 6) (v := .int (mk - (1 : Int32))) (ty := .int) (C := RX6) (T := TX6) (N := 17) hx hb hts hin6 tyX6 tyX6_ok nmX6 hown hK.1 hP hD hS 0 rfl rfl 7 (by decide) (k_0) (fun _ h9 => h9) rfl (by decide +kernel) rfl rfl (Nat.le_of_ble_eq_true rfl) dX6_keeps_46 (fun H locs hP hD hS => ?_)
    have hP : va_P D vwCl [(h6, .inr (6, [.ref a_mt, .int my, .ref a_mo, .ref a_md, .ref a_mb, .ref a_ms, .ref a_mp, .int (mk - (1 : Int32)), .ref a_mi, .int mq, .ref a_mn, .int mz, .int ma, .ref a_mh, .ref a_mg, .ref a_mr, .ref a_mx])), (a_mt, .inl (cI, 200, .inl mt)), (a_mo, .inl (cI, 16, .inl mo)), (a_md, .inl (cI, 16, .inl md)), (a_mb, .inl (cI, 56, .inl mb)), (a_ms, .inl (cI, 56, .inl ms)), (a_mp, .inl (cI, 448, .inl mp_7)), (a_mi, .inl (cI, 112, .inl mi)), (a_mn, .inl (cI, 12, .inl mn)), (a_mh, .inl (cI, 42, .inl mh)), (a_mg, .inl (cI, 56, .inl mg)), (a_mr, .inl (cI, 6, .inl mr)), (a_mx, .inl (cI, 6, .inl mx))] H := hP
    have hD : va_D A [(h6, .inr (6, [.ref a_mt, .int my, .ref a_mo, .ref a_md, .ref a_mb, .ref a_ms, .ref a_mp, .int (mk - (1 : Int32)), .ref a_mi, .int mq, .ref a_mn, .int mz, .int ma, .ref a_mh, .ref a_mg, .ref a_mr, .ref a_mx])), (a_mt, .inl (cI, 200, .inl mt)), (a_mo, .inl (cI, 16, .inl mo)), (a_md, .inl (cI, 16, .inl md)), (a_mb, .inl (cI, 56, .inl mb)), (a_ms, .inl (cI, 56, .inl ms)), (a_mp, .inl (cI, 448, .inl mp_7)), (a_mi, .inl (cI, 112, .inl mi)), (a_mn, .inl (cI, 12, .inl mn)), (a_mh, .inl (cI, 42, .inl mh)), (a_mg, .inl (cI, 56, .inl mg)), (a_mr, .inl (cI, 6, .inl mr)), (a_mx, .inl (cI, 6, .inl mx))] := hD
    refine lv_iconst (v := 0) hx hb dX6_keeps_49 (by decide) ?_
    refine lv_istore_n (lv' := [(1, .int (0 : Int32)), (0, .ref h6)]) hx hb dX6_keeps_50 rfl hl (by decide) rfl (fun ls hl => ?_)
    obtain ⟨n_8, h⟩ := h
    exact L51 n_8 h hP hD hS (lv_sub hl [1, 0] rfl)

/-! DoubtCourtModel.pass -/
abbrev rmX6_pass : Room := { frames := 3, cells := 0, slots := 0, locals := 73 }
theorem yoX6_pass : yX6_pass.cls ≠ "java/lang/invoke/MethodHandle" ∧ yX6_pass.cls ≠ "java/lang/invoke/VarHandle" ∧ (parseMethodDescriptor yX6_pass.desc).map (fun d => d.parameters.length) = some 1 := by decide +kernel
set_option maxHeartbeats 4000000 in
set_option maxRecDepth 100000 in
theorem c_X6_pass (l : Launch) (D : va_G) (cI cC cQ : ClassId) (h6 : Nat) (a_mt : Nat) (a_mo : Nat) (a_md : Nat) (a_mb : Nat) (a_ms : Nat) (a_mp : Nat) (a_mi : Nat) (a_mn : Nat) (a_mh : Nat) (a_mg : Nat) (a_mr : Nat) (a_mx : Nat) (mt : Nat → Int32) (my : Int32) (mo : Nat → Int32) (md : Nat → Int32) (mb : Nat → Int32) (ms : Nat → Int32) (mp : Nat → Int32) (mk : Int32) (mi : Nat → Int32) (mq : Int32) (mn : Nat → Int32) (mz : Int32) (ma : Int32) (mh : Nat → Int32) (mg : Nat → Int32) (mr : Nat → Int32) (mx : Nat → Int32) (x1 : Int32) (Q : Int32 → (Nat → Int32) → (Nat → Int32) → Int32 → (Nat → Int32) → Prop) (h : wX6_pass x1 mo ms mp mk mh Q) : Ci (S := (Nat → Int32) × (Nat → Int32) × (Int32) × (Nat → Int32)) l D cI cC cQ yX6_pass wsX6_pass rmX6_pass [.ref h6, .int x1] [(h6, .inr (6, [.ref a_mt, .int my, .ref a_mo, .ref a_md, .ref a_mb, .ref a_ms, .ref a_mp, .int mk, .ref a_mi, .int mq, .ref a_mn, .int mz, .int ma, .ref a_mh, .ref a_mg, .ref a_mr, .ref a_mx])), (a_mt, .inl (cI, 200, .inl mt)), (a_mo, .inl (cI, 16, .inl mo)), (a_md, .inl (cI, 16, .inl md)), (a_mb, .inl (cI, 56, .inl mb)), (a_ms, .inl (cI, 56, .inl ms)), (a_mp, .inl (cI, 448, .inl mp)), (a_mi, .inl (cI, 112, .inl mi)), (a_mn, .inl (cI, 12, .inl mn)), (a_mh, .inl (cI, 42, .inl mh)), (a_mg, .inl (cI, 56, .inl mg)), (a_mr, .inl (cI, 6, .inl mr)), (a_mx, .inl (cI, 6, .inl mx))] (fun u => [(h6, .inr (6, [.ref a_mt, .int my, .ref a_mo, .ref a_md, .ref a_mb, .ref a_ms, .ref a_mp, .int u.2.2.1, .ref a_mi, .int mq, .ref a_mn, .int mz, .int ma, .ref a_mh, .ref a_mg, .ref a_mr, .ref a_mx])), (a_mt, .inl (cI, 200, .inl mt)), (a_mo, .inl (cI, 16, .inl mo)), (a_md, .inl (cI, 16, .inl md)), (a_mb, .inl (cI, 56, .inl mb)), (a_ms, .inl (cI, 56, .inl u.1)), (a_mp, .inl (cI, 448, .inl u.2.1)), (a_mi, .inl (cI, 112, .inl mi)), (a_mn, .inl (cI, 12, .inl mn)), (a_mh, .inl (cI, 42, .inl u.2.2.2)), (a_mg, .inl (cI, 56, .inl mg)), (a_mr, .inl (cI, 6, .inl mr)), (a_mx, .inl (cI, 6, .inl mx))]) (fun r u => Q r u.1 u.2.1 u.2.2.1 u.2.2.2) := by
  refine Ci_mk (cc := cX6_pass) (maxL := 3) (by decide) rfl (Nat.le_of_ble_eq_true rfl) ?_
  intro p e s m args below meth c A Z ls hx hb hml hown hts hK hA hP hD hret hl
  have hS : va_S A s.heap s.heap [] := va_S.rf
  have hin6 : ∀ w ∈ u_ws RX6 TX6 17, w ∈ wsX6_pass := by decide +kernel
  have k_0 := hts (.fieldLink RX6 22 "DoubtCourtModel" "s" "[I") (by decide +kernel)
  have hl : lv_has ls 3 [(0, .ref h6), (1, .int x1)] := hl
  have L35 : ∀ (n : Nat) {x1 : Int32} {x2 : Int32} {ms : Nat → Int32} {mp : Nat → Int32} {mk : Int32} {mh : Nat → Int32} {H : Heap} {locs : List Loc} {ls : Array Slot}, wX6_pass_L35 x1 mo mp mk Q n x2 ms mh → va_P D vwCl [(h6, .inr (6, [.ref a_mt, .int my, .ref a_mo, .ref a_md, .ref a_mb, .ref a_ms, .ref a_mp, .int mk, .ref a_mi, .int mq, .ref a_mn, .int mz, .int ma, .ref a_mh, .ref a_mg, .ref a_mr, .ref a_mx])), (a_mt, .inl (cI, 200, .inl mt)), (a_mo, .inl (cI, 16, .inl mo)), (a_md, .inl (cI, 16, .inl md)), (a_mb, .inl (cI, 56, .inl mb)), (a_ms, .inl (cI, 56, .inl ms)), (a_mp, .inl (cI, 448, .inl mp)), (a_mi, .inl (cI, 112, .inl mi)), (a_mn, .inl (cI, 12, .inl mn)), (a_mh, .inl (cI, 42, .inl mh)), (a_mg, .inl (cI, 56, .inl mg)), (a_mr, .inl (cI, 6, .inl mr)), (a_mx, .inl (cI, 6, .inl mx))] H → va_D A [(h6, .inr (6, [.ref a_mt, .int my, .ref a_mo, .ref a_md, .ref a_mb, .ref a_ms, .ref a_mp, .int mk, .ref a_mi, .int mq, .ref a_mn, .int mz, .int ma, .ref a_mh, .ref a_mg, .ref a_mr, .ref a_mx])), (a_mt, .inl (cI, 200, .inl mt)), (a_mo, .inl (cI, 16, .inl mo)), (a_md, .inl (cI, 16, .inl md)), (a_mb, .inl (cI, 56, .inl mb)), (a_ms, .inl (cI, 56, .inl ms)), (a_mp, .inl (cI, 448, .inl mp)), (a_mi, .inl (cI, 112, .inl mi)), (a_mn, .inl (cI, 12, .inl mn)), (a_mh, .inl (cI, 42, .inl mh)), (a_mg, .inl (cI, 56, .inl mg)), (a_mr, .inl (cI, 6, .inl mr)), (a_mx, .inl (cI, 6, .inl mx))] → va_S A s.heap H locs → lv_has ls 3 [(0, .ref h6), (1, .int x1), (2, .int x2)] → W p l e rmX6_pass s m args below meth c H locs 0 0 Z (F0 m 35 ls []) := by
    intro n
    induction n with
    | zero =>
      intro x1 x2 ms mp mk mh H locs ls h hP hD hS hl
      exact (show False from h).elim
    | succ n ih =>
      intro x1 x2 ms mp mk mh H locs ls h hP hD hS hl
      refine lv_iload_n hx hb dX6_pass_35 rfl (lv_at hl 2 rfl) ?_
      refine lv_iload_n hx hb dX6_pass_36 rfl (lv_at hl 1 rfl) ?_
      refine lv_icmp_ge (tgt := 50) hx hb dX6_pass_37 (by decide) (fun c_11 => ?_) (fun c_11 => ?_)
      · have h := h.1 c_11
        refine lv_aload_n hx hb dX6_pass_50 rfl (lv_at hl 0 rfl) ?_
        refine k0V_i (As := []) (n := 0) ⟨hx, hb, hml, hown, hts⟩ hK hP hD hS hA (c_X6_manyKnown l D cI cC cQ h6 a_mt a_mo a_md a_mb a_ms a_mp a_mi a_mn a_mh a_mg a_mr a_mx mt my mo md mb ms mp mk mi mq mn mz ma mh mg mr mx  _ h) gX6_pass_X6_manyKnown rfl rfl ⟨rfl, rfl⟩ yoX6_manyKnown ⟨Nat.le_of_ble_eq_true rfl, Nat.le_of_ble_eq_true rfl⟩ (q0 := 0) (ci := 6) rfl rfl rfl rfl hl.1 rfl (Nat.le_of_ble_eq_true rfl) dX6_pass_51 ⟨Nat.zero_le _, Nat.zero_le _⟩ (fun r_12 u H locs h hP hD hS => ?_)
        exact hret r_12 (ms, mp, mk, mh) _ _ _ ls h hP hD hS dX6_pass_54
      · have h := h.2 c_11
        refine lv_aload_n hx hb dX6_pass_40 rfl (lv_at hl 0 rfl) ?_
        refine k0V_v (As := []) (n := 0) ⟨hx, hb, hml, hown, hts⟩ hK hP hD hS hA (c_X6_passes l D cI cC cQ h6 a_mt a_mo a_md a_mb a_ms a_mp a_mi a_mn a_mh a_mg a_mr a_mx mt my mo md mb ms mp mk mi mq mn mz ma mh mg mr mx  _ h) gX6_pass_X6_passes rfl rfl ⟨rfl, rfl⟩ yoX6_passes ⟨Nat.le_of_ble_eq_true rfl, Nat.le_of_ble_eq_true rfl⟩ (q0 := 0) (ci := 6) rfl rfl rfl rfl hl.1 rfl (Nat.le_of_ble_eq_true rfl) dX6_pass_41 ⟨Nat.zero_le _, Nat.zero_le _⟩ (fun u H locs h hP hD hS => ?_)
        obtain ⟨ms_13, mh_14⟩ := u
        have hP : va_P D vwCl [(h6, .inr (6, [.ref a_mt, .int my, .ref a_mo, .ref a_md, .ref a_mb, .ref a_ms, .ref a_mp, .int mk, .ref a_mi, .int mq, .ref a_mn, .int mz, .int ma, .ref a_mh, .ref a_mg, .ref a_mr, .ref a_mx])), (a_mt, .inl (cI, 200, .inl mt)), (a_mo, .inl (cI, 16, .inl mo)), (a_md, .inl (cI, 16, .inl md)), (a_mb, .inl (cI, 56, .inl mb)), (a_ms, .inl (cI, 56, .inl ms_13)), (a_mp, .inl (cI, 448, .inl mp)), (a_mi, .inl (cI, 112, .inl mi)), (a_mn, .inl (cI, 12, .inl mn)), (a_mh, .inl (cI, 42, .inl mh_14)), (a_mg, .inl (cI, 56, .inl mg)), (a_mr, .inl (cI, 6, .inl mr)), (a_mx, .inl (cI, 6, .inl mx))] H := hP
        have hD : va_D A [(h6, .inr (6, [.ref a_mt, .int my, .ref a_mo, .ref a_md, .ref a_mb, .ref a_ms, .ref a_mp, .int mk, .ref a_mi, .int mq, .ref a_mn, .int mz, .int ma, .ref a_mh, .ref a_mg, .ref a_mr, .ref a_mx])), (a_mt, .inl (cI, 200, .inl mt)), (a_mo, .inl (cI, 16, .inl mo)), (a_md, .inl (cI, 16, .inl md)), (a_mb, .inl (cI, 56, .inl mb)), (a_ms, .inl (cI, 56, .inl ms_13)), (a_mp, .inl (cI, 448, .inl mp)), (a_mi, .inl (cI, 112, .inl mi)), (a_mn, .inl (cI, 12, .inl mn)), (a_mh, .inl (cI, 42, .inl mh_14)), (a_mg, .inl (cI, 56, .inl mg)), (a_mr, .inl (cI, 6, .inl mr)), (a_mx, .inl (cI, 6, .inl mx))] := hD
        refine lv_iinc (v := (x2 + (1 : Int32))) (lv' := [(2, .int (x2 + (1 : Int32))), (0, .ref h6), (1, .int x1)]) hx hb dX6_pass_44 hl (k := 2) rfl rfl (by decide) rfl (fun ls hl => ?_)
        refine lv_goto (tgt := 35) hx hb dX6_pass_47 (by decide) ?_
        exact ih h hP hD hS (lv_sub hl [1, 2, 0] rfl)
  refine lv_iload_n hx hb dX6_pass_0 rfl (lv_at hl 1 rfl) ?_
  refine lv_iconst (v := 1) hx hb dX6_pass_1 (by decide) ?_
  refine lv_bipush (v := 24) hx hb dX6_pass_2 (by decide) ?_
  refine kS_i (wr := [(h6, .inr (6, [.ref a_mt, .int my, .ref a_mo, .ref a_md, .ref a_mb, .ref a_ms, .ref a_mp, .int mk, .ref a_mi, .int mq, .ref a_mn, .int mz, .int ma, .ref a_mh, .ref a_mg, .ref a_mr, .ref a_mx])), (a_mt, .inl (cI, 200, .inl mt)), (a_mo, .inl (cI, 16, .inl mo)), (a_md, .inl (cI, 16, .inl md)), (a_mb, .inl (cI, 56, .inl mb)), (a_ms, .inl (cI, 56, .inl ms)), (a_mp, .inl (cI, 448, .inl mp)), (a_mi, .inl (cI, 112, .inl mi)), (a_mn, .inl (cI, 12, .inl mn)), (a_mh, .inl (cI, 42, .inl mh)), (a_mg, .inl (cI, 56, .inl mg)), (a_mr, .inl (cI, 6, .inl mr)), (a_mx, .inl (cI, 6, .inl mx))]) (As := [.int x1, .int (1 : Int32), .int (24 : Int32)]) (n := 3) ⟨hx, hb, hml, hown, hts⟩ hK hP hD hS hA (c_X6_in l D cI cC cQ   x1 (1 : Int32) (24 : Int32) _ h) gX6_pass_X6_in rfl ⟨rfl, rfl⟩ yoX6_in ⟨Nat.le_of_ble_eq_true rfl, Nat.le_of_ble_eq_true rfl⟩ rfl hl.1 rfl (Nat.le_of_ble_eq_true rfl) dX6_pass_4 ⟨Nat.zero_le _, Nat.zero_le _⟩ [] [0, 1, 2, 3, 4, 5, 6, 7, 8, 9, 10, 11, 12] rfl (by decide) rfl (by decide) (by decide) (fun r_1 u H locs h hP hD hS => ?_)
  have hP : va_P D vwCl [(h6, .inr (6, [.ref a_mt, .int my, .ref a_mo, .ref a_md, .ref a_mb, .ref a_ms, .ref a_mp, .int mk, .ref a_mi, .int mq, .ref a_mn, .int mz, .int ma, .ref a_mh, .ref a_mg, .ref a_mr, .ref a_mx])), (a_mt, .inl (cI, 200, .inl mt)), (a_mo, .inl (cI, 16, .inl mo)), (a_md, .inl (cI, 16, .inl md)), (a_mb, .inl (cI, 56, .inl mb)), (a_ms, .inl (cI, 56, .inl ms)), (a_mp, .inl (cI, 448, .inl mp)), (a_mi, .inl (cI, 112, .inl mi)), (a_mn, .inl (cI, 12, .inl mn)), (a_mh, .inl (cI, 42, .inl mh)), (a_mg, .inl (cI, 56, .inl mg)), (a_mr, .inl (cI, 6, .inl mr)), (a_mx, .inl (cI, 6, .inl mx))] H := hP
  have hD : va_D A [(h6, .inr (6, [.ref a_mt, .int my, .ref a_mo, .ref a_md, .ref a_mb, .ref a_ms, .ref a_mp, .int mk, .ref a_mi, .int mq, .ref a_mn, .int mz, .int ma, .ref a_mh, .ref a_mg, .ref a_mr, .ref a_mx])), (a_mt, .inl (cI, 200, .inl mt)), (a_mo, .inl (cI, 16, .inl mo)), (a_md, .inl (cI, 16, .inl md)), (a_mb, .inl (cI, 56, .inl mb)), (a_ms, .inl (cI, 56, .inl ms)), (a_mp, .inl (cI, 448, .inl mp)), (a_mi, .inl (cI, 112, .inl mi)), (a_mn, .inl (cI, 12, .inl mn)), (a_mh, .inl (cI, 42, .inl mh)), (a_mg, .inl (cI, 56, .inl mg)), (a_mr, .inl (cI, 6, .inl mr)), (a_mx, .inl (cI, 6, .inl mx))] := hD
  obtain ⟨b_2, h⟩ := h
  refine lv_if_ne (tgt := 12) hx hb dX6_pass_7 (by decide) (fun c_3 => ?_) (fun c_3 => ?_)
  · have h := h.2 c_3
    refine lv_aload_n hx hb dX6_pass_12 rfl (lv_at hl 0 rfl) ?_
    refine va_get (D := D) (ci := 6) (v := .ref a_ms) (C := RX6) (T := TX6) (N := 17) hx hb hts hin6 hown hK.1 hP 0 rfl rfl 5 (by decide) (k_0) (fun _ h9 => h9) rfl dX6_pass_13 ?_
    refine lv_iconst (v := 0) hx hb dX6_pass_16 (by decide) ?_
    refine z_iald (k := 0) hx hb hK.1 hP 5 rfl (by decide) vi_0_56 dX6_pass_17 ?_
    refine lv_iload_n hx hb dX6_pass_18 rfl (lv_at hl 1 rfl) ?_
    refine lv_iadd hx hb dX6_pass_19 ?_
    refine lv_sipush (v := 999) hx hb dX6_pass_20 (by decide) ?_
    refine lv_icmp_le (tgt := 29) hx hb dX6_pass_23 (by decide) (fun c_4 => ?_) (fun c_4 => ?_)
    · have h := h.1 c_4
      refine lv_aload_n hx hb dX6_pass_29 rfl (lv_at hl 0 rfl) ?_
      refine k0V_v (As := []) (n := 0) ⟨hx, hb, hml, hown, hts⟩ hK hP hD hS hA (c_X6_keeps l D cI cC cQ h6 a_mt a_mo a_md a_mb a_ms a_mp a_mi a_mn a_mh a_mg a_mr a_mx mt my mo md mb ms mp mk mi mq mn mz ma mh mg mr mx  _ h) gX6_pass_X6_keeps rfl rfl ⟨rfl, rfl⟩ yoX6_keeps ⟨Nat.le_of_ble_eq_true rfl, Nat.le_of_ble_eq_true rfl⟩ (q0 := 0) (ci := 6) rfl rfl rfl rfl hl.1 rfl (Nat.le_of_ble_eq_true rfl) dX6_pass_30 ⟨Nat.zero_le _, Nat.zero_le _⟩ (fun u H locs h hP hD hS => ?_)
      obtain ⟨mp_5, mk_6⟩ := u
      have hP : va_P D vwCl [(h6, .inr (6, [.ref a_mt, .int my, .ref a_mo, .ref a_md, .ref a_mb, .ref a_ms, .ref a_mp, .int mk_6, .ref a_mi, .int mq, .ref a_mn, .int mz, .int ma, .ref a_mh, .ref a_mg, .ref a_mr, .ref a_mx])), (a_mt, .inl (cI, 200, .inl mt)), (a_mo, .inl (cI, 16, .inl mo)), (a_md, .inl (cI, 16, .inl md)), (a_mb, .inl (cI, 56, .inl mb)), (a_ms, .inl (cI, 56, .inl ms)), (a_mp, .inl (cI, 448, .inl mp_5)), (a_mi, .inl (cI, 112, .inl mi)), (a_mn, .inl (cI, 12, .inl mn)), (a_mh, .inl (cI, 42, .inl mh)), (a_mg, .inl (cI, 56, .inl mg)), (a_mr, .inl (cI, 6, .inl mr)), (a_mx, .inl (cI, 6, .inl mx))] H := hP
      have hD : va_D A [(h6, .inr (6, [.ref a_mt, .int my, .ref a_mo, .ref a_md, .ref a_mb, .ref a_ms, .ref a_mp, .int mk_6, .ref a_mi, .int mq, .ref a_mn, .int mz, .int ma, .ref a_mh, .ref a_mg, .ref a_mr, .ref a_mx])), (a_mt, .inl (cI, 200, .inl mt)), (a_mo, .inl (cI, 16, .inl mo)), (a_md, .inl (cI, 16, .inl md)), (a_mb, .inl (cI, 56, .inl mb)), (a_ms, .inl (cI, 56, .inl ms)), (a_mp, .inl (cI, 448, .inl mp_5)), (a_mi, .inl (cI, 112, .inl mi)), (a_mn, .inl (cI, 12, .inl mn)), (a_mh, .inl (cI, 42, .inl mh)), (a_mg, .inl (cI, 56, .inl mg)), (a_mr, .inl (cI, 6, .inl mr)), (a_mx, .inl (cI, 6, .inl mx))] := hD
      refine lv_iconst (v := 0) hx hb dX6_pass_33 (by decide) ?_
      refine lv_istore_n (lv' := [(2, .int (0 : Int32)), (0, .ref h6), (1, .int x1)]) hx hb dX6_pass_34 rfl hl (by decide) rfl (fun ls hl => ?_)
      obtain ⟨n_15, h⟩ := h
      exact L35 n_15 h hP hD hS (lv_sub hl [1, 2, 0] rfl)
    · have h := h.2 c_4
      refine lv_bipush (v := -2) hx hb dX6_pass_26 (by decide) ?_
      exact hret (-2 : Int32) (ms, mp, mk, mh) _ _ _ ls h hP hD hS dX6_pass_28
  · have h := h.1 c_3
    refine lv_iconst (v := -1) hx hb dX6_pass_10 (by decide) ?_
    exact hret (-1 : Int32) (ms, mp, mk, mh) _ _ _ ls h hP hD hS dX6_pass_11

/-! DoubtCourtModel.prove -/
abbrev rmX6_prove : Room := { frames := 2, cells := 0, slots := 0, locals := 43 }
theorem yoX6_prove : yX6_prove.cls ≠ "java/lang/invoke/MethodHandle" ∧ yX6_prove.cls ≠ "java/lang/invoke/VarHandle" ∧ (parseMethodDescriptor yX6_prove.desc).map (fun d => d.parameters.length) = some 3 := by decide +kernel
set_option maxHeartbeats 4000000 in
set_option maxRecDepth 100000 in
theorem c_X6_prove (l : Launch) (D : va_G) (cI cC cQ : ClassId) (h6 : Nat) (a_mt : Nat) (a_mo : Nat) (a_md : Nat) (a_mb : Nat) (a_ms : Nat) (a_mp : Nat) (a_mi : Nat) (a_mn : Nat) (a_mh : Nat) (a_mg : Nat) (a_mr : Nat) (a_mx : Nat) (mt : Nat → Int32) (my : Int32) (mo : Nat → Int32) (md : Nat → Int32) (mb : Nat → Int32) (ms : Nat → Int32) (mp : Nat → Int32) (mk : Int32) (mi : Nat → Int32) (mq : Int32) (mn : Nat → Int32) (mz : Int32) (ma : Int32) (mh : Nat → Int32) (mg : Nat → Int32) (mr : Nat → Int32) (mx : Nat → Int32) (x1 : Int32) (x2 : Int32) (x3 : Int32) (Q : Int32 → (Nat → Int32) → (Nat → Int32) → Int32 → Prop) (h : wX6_prove x1 x2 x3 mo ms mp mk Q) : Ci (S := (Nat → Int32) × (Nat → Int32) × (Int32)) l D cI cC cQ yX6_prove wsX6_prove rmX6_prove [.ref h6, .int x1, .int x2, .int x3] [(h6, .inr (6, [.ref a_mt, .int my, .ref a_mo, .ref a_md, .ref a_mb, .ref a_ms, .ref a_mp, .int mk, .ref a_mi, .int mq, .ref a_mn, .int mz, .int ma, .ref a_mh, .ref a_mg, .ref a_mr, .ref a_mx])), (a_mt, .inl (cI, 200, .inl mt)), (a_mo, .inl (cI, 16, .inl mo)), (a_md, .inl (cI, 16, .inl md)), (a_mb, .inl (cI, 56, .inl mb)), (a_ms, .inl (cI, 56, .inl ms)), (a_mp, .inl (cI, 448, .inl mp)), (a_mi, .inl (cI, 112, .inl mi)), (a_mn, .inl (cI, 12, .inl mn)), (a_mh, .inl (cI, 42, .inl mh)), (a_mg, .inl (cI, 56, .inl mg)), (a_mr, .inl (cI, 6, .inl mr)), (a_mx, .inl (cI, 6, .inl mx))] (fun u => [(h6, .inr (6, [.ref a_mt, .int my, .ref a_mo, .ref a_md, .ref a_mb, .ref a_ms, .ref a_mp, .int u.2.2, .ref a_mi, .int mq, .ref a_mn, .int mz, .int ma, .ref a_mh, .ref a_mg, .ref a_mr, .ref a_mx])), (a_mt, .inl (cI, 200, .inl mt)), (a_mo, .inl (cI, 16, .inl mo)), (a_md, .inl (cI, 16, .inl md)), (a_mb, .inl (cI, 56, .inl mb)), (a_ms, .inl (cI, 56, .inl u.1)), (a_mp, .inl (cI, 448, .inl u.2.1)), (a_mi, .inl (cI, 112, .inl mi)), (a_mn, .inl (cI, 12, .inl mn)), (a_mh, .inl (cI, 42, .inl mh)), (a_mg, .inl (cI, 56, .inl mg)), (a_mr, .inl (cI, 6, .inl mr)), (a_mx, .inl (cI, 6, .inl mx))]) (fun r u => Q r u.1 u.2.1 u.2.2) := by
  refine Ci_mk (cc := cX6_prove) (maxL := 6) (by decide) rfl (Nat.le_of_ble_eq_true rfl) ?_
  intro p e s m args below meth c A Z ls hx hb hml hown hts hK hA hP hD hret hl
  have hS : va_S A s.heap s.heap [] := va_S.rf
  have hin6 : ∀ w ∈ u_ws RX6 TX6 17, w ∈ wsX6_prove := by decide +kernel
  have k_0 := hts (.fieldLink RX6 22 "DoubtCourtModel" "s" "[I") (by decide +kernel)
  have hl : lv_has ls 6 [(0, .ref h6), (1, .int x1), (2, .int x2), (3, .int x3)] := hl
  refine lv_aload_n hx hb dX6_prove_0 rfl (lv_at hl 0 rfl) ?_
  refine lv_iload_n hx hb dX6_prove_1 rfl (lv_at hl 1 rfl) ?_
  refine k0V_i (As := [.int x1]) (n := 1) ⟨hx, hb, hml, hown, hts⟩ hK hP hD hS hA (c_X6_isCourtier l D cI cC cQ h6 a_mt a_mo a_md a_mb a_ms a_mp a_mi a_mn a_mh a_mg a_mr a_mx mt my mo md mb ms mp mk mi mq mn mz ma mh mg mr mx x1 _ h) gX6_prove_X6_isCourtier rfl rfl ⟨rfl, rfl⟩ yoX6_isCourtier ⟨Nat.le_of_ble_eq_true rfl, Nat.le_of_ble_eq_true rfl⟩ (q0 := 0) (ci := 6) rfl rfl rfl rfl hl.1 rfl (Nat.le_of_ble_eq_true rfl) dX6_prove_2 ⟨Nat.zero_le _, Nat.zero_le _⟩ (fun r_1 u H locs h hP hD hS => ?_)
  obtain ⟨b_2, h⟩ := h
  refine lv_if_eq (tgt := 27) hx hb dX6_prove_5 (by decide) (fun c_3 => ?_) (fun c_3 => ?_)
  · have h := h.1 c_3
    refine lv_iconst (v := -1) hx hb dX6_prove_27 (by decide) ?_
    exact hret (-1 : Int32) (ms, mp, mk) _ _ _ ls h hP hD hS dX6_prove_28
  · have h := h.2 c_3
    refine lv_aload_n hx hb dX6_prove_8 rfl (lv_at hl 0 rfl) ?_
    refine lv_iload_n hx hb dX6_prove_9 rfl (lv_at hl 2 rfl) ?_
    refine k0V_i (As := [.int x2]) (n := 1) ⟨hx, hb, hml, hown, hts⟩ hK hP hD hS hA (c_X6_isNews l D cI cC cQ h6 a_mt a_mo a_md a_mb a_ms a_mp a_mi a_mn a_mh a_mg a_mr a_mx mt my mo md mb ms mp mk mi mq mn mz ma mh mg mr mx x2 _ h) gX6_prove_X6_isNews rfl rfl ⟨rfl, rfl⟩ yoX6_isNews ⟨Nat.le_of_ble_eq_true rfl, Nat.le_of_ble_eq_true rfl⟩ (q0 := 0) (ci := 6) rfl rfl rfl rfl hl.1 rfl (Nat.le_of_ble_eq_true rfl) dX6_prove_10 ⟨Nat.zero_le _, Nat.zero_le _⟩ (fun r_4 u H locs h hP hD hS => ?_)
    obtain ⟨b_5, h⟩ := h
    refine lv_if_eq (tgt := 27) hx hb dX6_prove_13 (by decide) (fun c_6 => ?_) (fun c_6 => ?_)
    · have h := h.1 c_6
      refine lv_iconst (v := -1) hx hb dX6_prove_27 (by decide) ?_
      exact hret (-1 : Int32) (ms, mp, mk) _ _ _ ls h hP hD hS dX6_prove_28
    · have h := h.2 c_6
      refine lv_iload_n hx hb dX6_prove_16 rfl (lv_at hl 3 rfl) ?_
      refine lv_bipush (v := -9) hx hb dX6_prove_17 (by decide) ?_
      refine lv_bipush (v := 9) hx hb dX6_prove_19 (by decide) ?_
      refine kS_i (wr := [(h6, .inr (6, [.ref a_mt, .int my, .ref a_mo, .ref a_md, .ref a_mb, .ref a_ms, .ref a_mp, .int mk, .ref a_mi, .int mq, .ref a_mn, .int mz, .int ma, .ref a_mh, .ref a_mg, .ref a_mr, .ref a_mx])), (a_mt, .inl (cI, 200, .inl mt)), (a_mo, .inl (cI, 16, .inl mo)), (a_md, .inl (cI, 16, .inl md)), (a_mb, .inl (cI, 56, .inl mb)), (a_ms, .inl (cI, 56, .inl ms)), (a_mp, .inl (cI, 448, .inl mp)), (a_mi, .inl (cI, 112, .inl mi)), (a_mn, .inl (cI, 12, .inl mn)), (a_mh, .inl (cI, 42, .inl mh)), (a_mg, .inl (cI, 56, .inl mg)), (a_mr, .inl (cI, 6, .inl mr)), (a_mx, .inl (cI, 6, .inl mx))]) (As := [.int x3, .int (-9 : Int32), .int (9 : Int32)]) (n := 3) ⟨hx, hb, hml, hown, hts⟩ hK hP hD hS hA (c_X6_in l D cI cC cQ   x3 (-9 : Int32) (9 : Int32) _ h) gX6_prove_X6_in rfl ⟨rfl, rfl⟩ yoX6_in ⟨Nat.le_of_ble_eq_true rfl, Nat.le_of_ble_eq_true rfl⟩ rfl hl.1 rfl (Nat.le_of_ble_eq_true rfl) dX6_prove_21 ⟨Nat.zero_le _, Nat.zero_le _⟩ [] [0, 1, 2, 3, 4, 5, 6, 7, 8, 9, 10, 11, 12] rfl (by decide) rfl (by decide) (by decide) (fun r_7 u H locs h hP hD hS => ?_)
      have hP : va_P D vwCl [(h6, .inr (6, [.ref a_mt, .int my, .ref a_mo, .ref a_md, .ref a_mb, .ref a_ms, .ref a_mp, .int mk, .ref a_mi, .int mq, .ref a_mn, .int mz, .int ma, .ref a_mh, .ref a_mg, .ref a_mr, .ref a_mx])), (a_mt, .inl (cI, 200, .inl mt)), (a_mo, .inl (cI, 16, .inl mo)), (a_md, .inl (cI, 16, .inl md)), (a_mb, .inl (cI, 56, .inl mb)), (a_ms, .inl (cI, 56, .inl ms)), (a_mp, .inl (cI, 448, .inl mp)), (a_mi, .inl (cI, 112, .inl mi)), (a_mn, .inl (cI, 12, .inl mn)), (a_mh, .inl (cI, 42, .inl mh)), (a_mg, .inl (cI, 56, .inl mg)), (a_mr, .inl (cI, 6, .inl mr)), (a_mx, .inl (cI, 6, .inl mx))] H := hP
      have hD : va_D A [(h6, .inr (6, [.ref a_mt, .int my, .ref a_mo, .ref a_md, .ref a_mb, .ref a_ms, .ref a_mp, .int mk, .ref a_mi, .int mq, .ref a_mn, .int mz, .int ma, .ref a_mh, .ref a_mg, .ref a_mr, .ref a_mx])), (a_mt, .inl (cI, 200, .inl mt)), (a_mo, .inl (cI, 16, .inl mo)), (a_md, .inl (cI, 16, .inl md)), (a_mb, .inl (cI, 56, .inl mb)), (a_ms, .inl (cI, 56, .inl ms)), (a_mp, .inl (cI, 448, .inl mp)), (a_mi, .inl (cI, 112, .inl mi)), (a_mn, .inl (cI, 12, .inl mn)), (a_mh, .inl (cI, 42, .inl mh)), (a_mg, .inl (cI, 56, .inl mg)), (a_mr, .inl (cI, 6, .inl mr)), (a_mx, .inl (cI, 6, .inl mx))] := hD
      obtain ⟨b_8, h⟩ := h
      refine lv_if_ne (tgt := 29) hx hb dX6_prove_24 (by decide) (fun c_9 => ?_) (fun c_9 => ?_)
      · have h := h.2 c_9
        refine lv_bipush (v := 14) hx hb dX6_prove_29 (by decide) ?_
        refine lv_bipush (v := 7) hx hb dX6_prove_31 (by decide) ?_
        refine lv_iload_n hx hb dX6_prove_33 rfl (lv_at hl 2 rfl) ?_
        refine lv_imul hx hb dX6_prove_34 ?_
        refine lv_iadd hx hb dX6_prove_35 ?_
        refine lv_iload_n hx hb dX6_prove_36 rfl (lv_at hl 1 rfl) ?_
        refine lv_iadd hx hb dX6_prove_37 ?_
        refine lv_topi (fun v_10 ev_10 => ?_)
        have h := h v_10 ev_10
        refine lv_istore (lv' := [(4, .int v_10), (0, .ref h6), (1, .int x1), (2, .int x2), (3, .int x3)]) hx hb dX6_prove_38 hl (by decide) rfl (fun ls hl => ?_)
        refine lv_aload_n hx hb dX6_prove_40 rfl (lv_at hl 1 rfl) ?_
        refine va_get (D := D) (ci := 6) (v := .ref a_ms) (C := RX6) (T := TX6) (N := 17) hx hb hts hin6 hown hK.1 hP 0 rfl rfl 5 (by decide) (k_0) (fun _ h9 => h9) rfl dX6_prove_41 ?_
        refine lv_iload hx hb dX6_prove_44 (lv_at hl 0 rfl) ?_
        refine z_iald (k := v_10.toNatClampNeg) hx hb hK.1 hP 5 rfl rfl h.1 dX6_prove_46 ?_
        have h := h.2
        refine lv_iload_n hx hb dX6_prove_47 rfl (lv_at hl 4 rfl) ?_
        refine lv_iadd hx hb dX6_prove_48 ?_
        refine kS_i (wr := [(h6, .inr (6, [.ref a_mt, .int my, .ref a_mo, .ref a_md, .ref a_mb, .ref a_ms, .ref a_mp, .int mk, .ref a_mi, .int mq, .ref a_mn, .int mz, .int ma, .ref a_mh, .ref a_mg, .ref a_mr, .ref a_mx])), (a_mt, .inl (cI, 200, .inl mt)), (a_mo, .inl (cI, 16, .inl mo)), (a_md, .inl (cI, 16, .inl md)), (a_mb, .inl (cI, 56, .inl mb)), (a_ms, .inl (cI, 56, .inl ms)), (a_mp, .inl (cI, 448, .inl mp)), (a_mi, .inl (cI, 112, .inl mi)), (a_mn, .inl (cI, 12, .inl mn)), (a_mh, .inl (cI, 42, .inl mh)), (a_mg, .inl (cI, 56, .inl mg)), (a_mr, .inl (cI, 6, .inl mr)), (a_mx, .inl (cI, 6, .inl mx))]) (As := [.int ((ms v_10.toNatClampNeg) + x3)]) (n := 1) ⟨hx, hb, hml, hown, hts⟩ hK hP hD hS hA (c_X6_within l D cI cC cQ   ((ms v_10.toNatClampNeg) + x3) _ h) gX6_prove_X6_within rfl ⟨rfl, rfl⟩ yoX6_within ⟨Nat.le_of_ble_eq_true rfl, Nat.le_of_ble_eq_true rfl⟩ rfl hl.1 rfl (Nat.le_of_ble_eq_true rfl) dX6_prove_49 ⟨Nat.zero_le _, Nat.zero_le _⟩ [] [0, 1, 2, 3, 4, 5, 6, 7, 8, 9, 10, 11, 12] rfl (by decide) rfl (by decide) (by decide) (fun r_11 u H locs h hP hD hS => ?_)
        have hP : va_P D vwCl [(h6, .inr (6, [.ref a_mt, .int my, .ref a_mo, .ref a_md, .ref a_mb, .ref a_ms, .ref a_mp, .int mk, .ref a_mi, .int mq, .ref a_mn, .int mz, .int ma, .ref a_mh, .ref a_mg, .ref a_mr, .ref a_mx])), (a_mt, .inl (cI, 200, .inl mt)), (a_mo, .inl (cI, 16, .inl mo)), (a_md, .inl (cI, 16, .inl md)), (a_mb, .inl (cI, 56, .inl mb)), (a_ms, .inl (cI, 56, .inl ms)), (a_mp, .inl (cI, 448, .inl mp)), (a_mi, .inl (cI, 112, .inl mi)), (a_mn, .inl (cI, 12, .inl mn)), (a_mh, .inl (cI, 42, .inl mh)), (a_mg, .inl (cI, 56, .inl mg)), (a_mr, .inl (cI, 6, .inl mr)), (a_mx, .inl (cI, 6, .inl mx))] H := hP
        have hD : va_D A [(h6, .inr (6, [.ref a_mt, .int my, .ref a_mo, .ref a_md, .ref a_mb, .ref a_ms, .ref a_mp, .int mk, .ref a_mi, .int mq, .ref a_mn, .int mz, .int ma, .ref a_mh, .ref a_mg, .ref a_mr, .ref a_mx])), (a_mt, .inl (cI, 200, .inl mt)), (a_mo, .inl (cI, 16, .inl mo)), (a_md, .inl (cI, 16, .inl md)), (a_mb, .inl (cI, 56, .inl mb)), (a_ms, .inl (cI, 56, .inl ms)), (a_mp, .inl (cI, 448, .inl mp)), (a_mi, .inl (cI, 112, .inl mi)), (a_mn, .inl (cI, 12, .inl mn)), (a_mh, .inl (cI, 42, .inl mh)), (a_mg, .inl (cI, 56, .inl mg)), (a_mr, .inl (cI, 6, .inl mr)), (a_mx, .inl (cI, 6, .inl mx))] := hD
        refine lv_istore (lv' := [(5, .int r_11), (4, .int v_10), (0, .ref h6), (1, .int x1), (2, .int x2), (3, .int x3)]) hx hb dX6_prove_52 hl (by decide) rfl (fun ls hl => ?_)
        refine lv_iload hx hb dX6_prove_54 (lv_at hl 0 rfl) ?_
        refine lv_aload_n hx hb dX6_prove_56 rfl (lv_at hl 2 rfl) ?_
        refine va_get (D := D) (ci := 6) (v := .ref a_ms) (C := RX6) (T := TX6) (N := 17) hx hb hts hin6 hown hK.1 hP 0 rfl rfl 5 (by decide) (k_0) (fun _ h9 => h9) rfl dX6_prove_57 ?_
        refine lv_iload hx hb dX6_prove_60 (lv_at hl 1 rfl) ?_
        refine z_iald (k := v_10.toNatClampNeg) hx hb hK.1 hP 5 rfl rfl h.1 dX6_prove_62 ?_
        have h := h.2
        refine lv_icmp_ne (tgt := 69) hx hb dX6_prove_63 (by decide) (fun c_12 => ?_) (fun c_12 => ?_)
        · have h := h.2 c_12
          refine lv_aload_n hx hb dX6_prove_69 rfl (lv_at hl 2 rfl) ?_
          refine k0V_v (As := []) (n := 0) ⟨hx, hb, hml, hown, hts⟩ hK hP hD hS hA (c_X6_keeps l D cI cC cQ h6 a_mt a_mo a_md a_mb a_ms a_mp a_mi a_mn a_mh a_mg a_mr a_mx mt my mo md mb ms mp mk mi mq mn mz ma mh mg mr mx  _ h) gX6_prove_X6_keeps rfl rfl ⟨rfl, rfl⟩ yoX6_keeps ⟨Nat.le_of_ble_eq_true rfl, Nat.le_of_ble_eq_true rfl⟩ (q0 := 0) (ci := 6) rfl rfl rfl rfl hl.1 rfl (Nat.le_of_ble_eq_true rfl) dX6_prove_70 ⟨Nat.zero_le _, Nat.zero_le _⟩ (fun u H locs h hP hD hS => ?_)
          obtain ⟨mp_13, mk_14⟩ := u
          have hP : va_P D vwCl [(h6, .inr (6, [.ref a_mt, .int my, .ref a_mo, .ref a_md, .ref a_mb, .ref a_ms, .ref a_mp, .int mk_14, .ref a_mi, .int mq, .ref a_mn, .int mz, .int ma, .ref a_mh, .ref a_mg, .ref a_mr, .ref a_mx])), (a_mt, .inl (cI, 200, .inl mt)), (a_mo, .inl (cI, 16, .inl mo)), (a_md, .inl (cI, 16, .inl md)), (a_mb, .inl (cI, 56, .inl mb)), (a_ms, .inl (cI, 56, .inl ms)), (a_mp, .inl (cI, 448, .inl mp_13)), (a_mi, .inl (cI, 112, .inl mi)), (a_mn, .inl (cI, 12, .inl mn)), (a_mh, .inl (cI, 42, .inl mh)), (a_mg, .inl (cI, 56, .inl mg)), (a_mr, .inl (cI, 6, .inl mr)), (a_mx, .inl (cI, 6, .inl mx))] H := hP
          have hD : va_D A [(h6, .inr (6, [.ref a_mt, .int my, .ref a_mo, .ref a_md, .ref a_mb, .ref a_ms, .ref a_mp, .int mk_14, .ref a_mi, .int mq, .ref a_mn, .int mz, .int ma, .ref a_mh, .ref a_mg, .ref a_mr, .ref a_mx])), (a_mt, .inl (cI, 200, .inl mt)), (a_mo, .inl (cI, 16, .inl mo)), (a_md, .inl (cI, 16, .inl md)), (a_mb, .inl (cI, 56, .inl mb)), (a_ms, .inl (cI, 56, .inl ms)), (a_mp, .inl (cI, 448, .inl mp_13)), (a_mi, .inl (cI, 112, .inl mi)), (a_mn, .inl (cI, 12, .inl mn)), (a_mh, .inl (cI, 42, .inl mh)), (a_mg, .inl (cI, 56, .inl mg)), (a_mr, .inl (cI, 6, .inl mr)), (a_mx, .inl (cI, 6, .inl mx))] := hD
          refine lv_aload_n hx hb dX6_prove_73 rfl (lv_at hl 2 rfl) ?_
          refine va_get (D := D) (ci := 6) (v := .ref a_ms) (C := RX6) (T := TX6) (N := 17) hx hb hts hin6 hown hK.1 hP 0 rfl rfl 5 (by decide) (k_0) (fun _ h9 => h9) rfl dX6_prove_74 ?_
          refine lv_iload hx hb dX6_prove_77 (lv_at hl 1 rfl) ?_
          refine lv_iload hx hb dX6_prove_79 (lv_at hl 0 rfl) ?_
          refine z_iast (k := v_10.toNatClampNeg) hx hb hK.1 hP hD hS 5 rfl rfl h.1 dX6_prove_81 (fun H locs hP hD hS => ?_)
          have h := h.2
          have hP : va_P D vwCl [(h6, .inr (6, [.ref a_mt, .int my, .ref a_mo, .ref a_md, .ref a_mb, .ref a_ms, .ref a_mp, .int mk_14, .ref a_mi, .int mq, .ref a_mn, .int mz, .int ma, .ref a_mh, .ref a_mg, .ref a_mr, .ref a_mx])), (a_mt, .inl (cI, 200, .inl mt)), (a_mo, .inl (cI, 16, .inl mo)), (a_md, .inl (cI, 16, .inl md)), (a_mb, .inl (cI, 56, .inl mb)), (a_ms, .inl (cI, 56, .inl (upd ms v_10.toNatClampNeg r_11))), (a_mp, .inl (cI, 448, .inl mp_13)), (a_mi, .inl (cI, 112, .inl mi)), (a_mn, .inl (cI, 12, .inl mn)), (a_mh, .inl (cI, 42, .inl mh)), (a_mg, .inl (cI, 56, .inl mg)), (a_mr, .inl (cI, 6, .inl mr)), (a_mx, .inl (cI, 6, .inl mx))] H := hP
          have hD : va_D A [(h6, .inr (6, [.ref a_mt, .int my, .ref a_mo, .ref a_md, .ref a_mb, .ref a_ms, .ref a_mp, .int mk_14, .ref a_mi, .int mq, .ref a_mn, .int mz, .int ma, .ref a_mh, .ref a_mg, .ref a_mr, .ref a_mx])), (a_mt, .inl (cI, 200, .inl mt)), (a_mo, .inl (cI, 16, .inl mo)), (a_md, .inl (cI, 16, .inl md)), (a_mb, .inl (cI, 56, .inl mb)), (a_ms, .inl (cI, 56, .inl (upd ms v_10.toNatClampNeg r_11))), (a_mp, .inl (cI, 448, .inl mp_13)), (a_mi, .inl (cI, 112, .inl mi)), (a_mn, .inl (cI, 12, .inl mn)), (a_mh, .inl (cI, 42, .inl mh)), (a_mg, .inl (cI, 56, .inl mg)), (a_mr, .inl (cI, 6, .inl mr)), (a_mx, .inl (cI, 6, .inl mx))] := hD
          refine lv_iload hx hb dX6_prove_82 (lv_at hl 0 rfl) ?_
          exact hret r_11 ((upd ms v_10.toNatClampNeg r_11), mp_13, mk_14) _ _ _ ls h hP hD hS dX6_prove_84
        · have h := h.1 c_12
          refine lv_bipush (v := -2) hx hb dX6_prove_66 (by decide) ?_
          exact hret (-2 : Int32) (ms, mp, mk) _ _ _ ls h hP hD hS dX6_prove_68
      · have h := h.1 c_9
        refine lv_iconst (v := -1) hx hb dX6_prove_27 (by decide) ?_
        exact hret (-1 : Int32) (ms, mp, mk) _ _ _ ls h hP hD hS dX6_prove_28

/-! DoubtCourtModel.hand -/
abbrev rmX6_hand : Room := { frames := 2, cells := 0, slots := 0, locals := 43 }
theorem yoX6_hand : yX6_hand.cls ≠ "java/lang/invoke/MethodHandle" ∧ yX6_hand.cls ≠ "java/lang/invoke/VarHandle" ∧ (parseMethodDescriptor yX6_hand.desc).map (fun d => d.parameters.length) = some 2 := by decide +kernel
set_option maxHeartbeats 4000000 in
set_option maxRecDepth 100000 in
theorem c_X6_hand (l : Launch) (D : va_G) (cI cC cQ : ClassId) (h6 : Nat) (a_mt : Nat) (a_mo : Nat) (a_md : Nat) (a_mb : Nat) (a_ms : Nat) (a_mp : Nat) (a_mi : Nat) (a_mn : Nat) (a_mh : Nat) (a_mg : Nat) (a_mr : Nat) (a_mx : Nat) (mt : Nat → Int32) (my : Int32) (mo : Nat → Int32) (md : Nat → Int32) (mb : Nat → Int32) (ms : Nat → Int32) (mp : Nat → Int32) (mk : Int32) (mi : Nat → Int32) (mq : Int32) (mn : Nat → Int32) (mz : Int32) (ma : Int32) (mh : Nat → Int32) (mg : Nat → Int32) (mr : Nat → Int32) (mx : Nat → Int32) (x1 : Int32) (x2 : Int32) (Q : Int32 → (Nat → Int32) → (Nat → Int32) → Int32 → Prop) (h : wX6_hand x1 x2 mo ms mp mk Q) : Ci (S := (Nat → Int32) × (Nat → Int32) × (Int32)) l D cI cC cQ yX6_hand wsX6_hand rmX6_hand [.ref h6, .int x1, .int x2] [(h6, .inr (6, [.ref a_mt, .int my, .ref a_mo, .ref a_md, .ref a_mb, .ref a_ms, .ref a_mp, .int mk, .ref a_mi, .int mq, .ref a_mn, .int mz, .int ma, .ref a_mh, .ref a_mg, .ref a_mr, .ref a_mx])), (a_mt, .inl (cI, 200, .inl mt)), (a_mo, .inl (cI, 16, .inl mo)), (a_md, .inl (cI, 16, .inl md)), (a_mb, .inl (cI, 56, .inl mb)), (a_ms, .inl (cI, 56, .inl ms)), (a_mp, .inl (cI, 448, .inl mp)), (a_mi, .inl (cI, 112, .inl mi)), (a_mn, .inl (cI, 12, .inl mn)), (a_mh, .inl (cI, 42, .inl mh)), (a_mg, .inl (cI, 56, .inl mg)), (a_mr, .inl (cI, 6, .inl mr)), (a_mx, .inl (cI, 6, .inl mx))] (fun u => [(h6, .inr (6, [.ref a_mt, .int my, .ref a_mo, .ref a_md, .ref a_mb, .ref a_ms, .ref a_mp, .int u.2.2, .ref a_mi, .int mq, .ref a_mn, .int mz, .int ma, .ref a_mh, .ref a_mg, .ref a_mr, .ref a_mx])), (a_mt, .inl (cI, 200, .inl mt)), (a_mo, .inl (cI, 16, .inl mo)), (a_md, .inl (cI, 16, .inl md)), (a_mb, .inl (cI, 56, .inl mb)), (a_ms, .inl (cI, 56, .inl u.1)), (a_mp, .inl (cI, 448, .inl u.2.1)), (a_mi, .inl (cI, 112, .inl mi)), (a_mn, .inl (cI, 12, .inl mn)), (a_mh, .inl (cI, 42, .inl mh)), (a_mg, .inl (cI, 56, .inl mg)), (a_mr, .inl (cI, 6, .inl mr)), (a_mx, .inl (cI, 6, .inl mx))]) (fun r u => Q r u.1 u.2.1 u.2.2) := by
  refine Ci_mk (cc := cX6_hand) (maxL := 4) (by decide) rfl (Nat.le_of_ble_eq_true rfl) ?_
  intro p e s m args below meth c A Z ls hx hb hml hown hts hK hA hP hD hret hl
  have hS : va_S A s.heap s.heap [] := va_S.rf
  have hin6 : ∀ w ∈ u_ws RX6 TX6 17, w ∈ wsX6_hand := by decide +kernel
  have k_0 := hts (.fieldLink RX6 22 "DoubtCourtModel" "s" "[I") (by decide +kernel)
  have hl : lv_has ls 4 [(0, .ref h6), (1, .int x1), (2, .int x2)] := hl
  refine lv_aload_n hx hb dX6_hand_0 rfl (lv_at hl 0 rfl) ?_
  refine lv_iload_n hx hb dX6_hand_1 rfl (lv_at hl 1 rfl) ?_
  refine k0V_i (As := [.int x1]) (n := 1) ⟨hx, hb, hml, hown, hts⟩ hK hP hD hS hA (c_X6_isNews l D cI cC cQ h6 a_mt a_mo a_md a_mb a_ms a_mp a_mi a_mn a_mh a_mg a_mr a_mx mt my mo md mb ms mp mk mi mq mn mz ma mh mg mr mx x1 _ h) gX6_hand_X6_isNews rfl rfl ⟨rfl, rfl⟩ yoX6_isNews ⟨Nat.le_of_ble_eq_true rfl, Nat.le_of_ble_eq_true rfl⟩ (q0 := 0) (ci := 6) rfl rfl rfl rfl hl.1 rfl (Nat.le_of_ble_eq_true rfl) dX6_hand_2 ⟨Nat.zero_le _, Nat.zero_le _⟩ (fun r_1 u H locs h hP hD hS => ?_)
  obtain ⟨b_2, h⟩ := h
  refine lv_if_eq (tgt := 16) hx hb dX6_hand_5 (by decide) (fun c_3 => ?_) (fun c_3 => ?_)
  · have h := h.1 c_3
    refine lv_iconst (v := -1) hx hb dX6_hand_16 (by decide) ?_
    exact hret (-1 : Int32) (ms, mp, mk) _ _ _ ls h hP hD hS dX6_hand_17
  · have h := h.2 c_3
    refine lv_aload_n hx hb dX6_hand_8 rfl (lv_at hl 0 rfl) ?_
    refine lv_iload_n hx hb dX6_hand_9 rfl (lv_at hl 2 rfl) ?_
    refine k0V_i (As := [.int x2]) (n := 1) ⟨hx, hb, hml, hown, hts⟩ hK hP hD hS hA (c_X6_isCourtier l D cI cC cQ h6 a_mt a_mo a_md a_mb a_ms a_mp a_mi a_mn a_mh a_mg a_mr a_mx mt my mo md mb ms mp mk mi mq mn mz ma mh mg mr mx x2 _ h) gX6_hand_X6_isCourtier rfl rfl ⟨rfl, rfl⟩ yoX6_isCourtier ⟨Nat.le_of_ble_eq_true rfl, Nat.le_of_ble_eq_true rfl⟩ (q0 := 0) (ci := 6) rfl rfl rfl rfl hl.1 rfl (Nat.le_of_ble_eq_true rfl) dX6_hand_10 ⟨Nat.zero_le _, Nat.zero_le _⟩ (fun r_4 u H locs h hP hD hS => ?_)
    obtain ⟨b_5, h⟩ := h
    refine lv_if_ne (tgt := 18) hx hb dX6_hand_13 (by decide) (fun c_6 => ?_) (fun c_6 => ?_)
    · have h := h.2 c_6
      refine lv_aload_n hx hb dX6_hand_18 rfl (lv_at hl 0 rfl) ?_
      refine va_get (D := D) (ci := 6) (v := .ref a_ms) (C := RX6) (T := TX6) (N := 17) hx hb hts hin6 hown hK.1 hP 0 rfl rfl 5 (by decide) (k_0) (fun _ h9 => h9) rfl dX6_hand_19 ?_
      refine lv_bipush (v := 8) hx hb dX6_hand_22 (by decide) ?_
      refine lv_iload_n hx hb dX6_hand_24 rfl (lv_at hl 1 rfl) ?_
      refine lv_iadd hx hb dX6_hand_25 ?_
      refine z_iald (k := ((8 : Int32) + x1).toNatClampNeg) hx hb hK.1 hP 5 rfl rfl h.1 dX6_hand_26 ?_
      have h := h.2
      refine lv_bipush (v := 9) hx hb dX6_hand_27 (by decide) ?_
      refine lv_icmp_eq (tgt := 45) hx hb dX6_hand_29 (by decide) (fun c_7 => ?_) (fun c_7 => ?_)
      · have h := h.1 c_7
        refine lv_bipush (v := -2) hx hb dX6_hand_45 (by decide) ?_
        exact hret (-2 : Int32) (ms, mp, mk) _ _ _ ls h hP hD hS dX6_hand_47
      · have h := h.2 c_7
        refine lv_aload_n hx hb dX6_hand_32 rfl (lv_at hl 0 rfl) ?_
        refine va_get (D := D) (ci := 6) (v := .ref a_ms) (C := RX6) (T := TX6) (N := 17) hx hb hts hin6 hown hK.1 hP 0 rfl rfl 5 (by decide) (k_0) (fun _ h9 => h9) rfl dX6_hand_33 ?_
        refine lv_bipush (v := 8) hx hb dX6_hand_36 (by decide) ?_
        refine lv_iload_n hx hb dX6_hand_38 rfl (lv_at hl 1 rfl) ?_
        refine lv_iadd hx hb dX6_hand_39 ?_
        refine z_iald (k := ((8 : Int32) + x1).toNatClampNeg) hx hb hK.1 hP 5 rfl rfl h.1 dX6_hand_40 ?_
        have h := h.2
        refine lv_iload_n hx hb dX6_hand_41 rfl (lv_at hl 2 rfl) ?_
        refine lv_icmp_ne (tgt := 48) hx hb dX6_hand_42 (by decide) (fun c_8 => ?_) (fun c_8 => ?_)
        · have h := h.2 c_8
          refine lv_aload_n hx hb dX6_hand_48 rfl (lv_at hl 0 rfl) ?_
          refine k0V_v (As := []) (n := 0) ⟨hx, hb, hml, hown, hts⟩ hK hP hD hS hA (c_X6_keeps l D cI cC cQ h6 a_mt a_mo a_md a_mb a_ms a_mp a_mi a_mn a_mh a_mg a_mr a_mx mt my mo md mb ms mp mk mi mq mn mz ma mh mg mr mx  _ h) gX6_hand_X6_keeps rfl rfl ⟨rfl, rfl⟩ yoX6_keeps ⟨Nat.le_of_ble_eq_true rfl, Nat.le_of_ble_eq_true rfl⟩ (q0 := 0) (ci := 6) rfl rfl rfl rfl hl.1 rfl (Nat.le_of_ble_eq_true rfl) dX6_hand_49 ⟨Nat.zero_le _, Nat.zero_le _⟩ (fun u H locs h hP hD hS => ?_)
          obtain ⟨mp_9, mk_10⟩ := u
          have hP : va_P D vwCl [(h6, .inr (6, [.ref a_mt, .int my, .ref a_mo, .ref a_md, .ref a_mb, .ref a_ms, .ref a_mp, .int mk_10, .ref a_mi, .int mq, .ref a_mn, .int mz, .int ma, .ref a_mh, .ref a_mg, .ref a_mr, .ref a_mx])), (a_mt, .inl (cI, 200, .inl mt)), (a_mo, .inl (cI, 16, .inl mo)), (a_md, .inl (cI, 16, .inl md)), (a_mb, .inl (cI, 56, .inl mb)), (a_ms, .inl (cI, 56, .inl ms)), (a_mp, .inl (cI, 448, .inl mp_9)), (a_mi, .inl (cI, 112, .inl mi)), (a_mn, .inl (cI, 12, .inl mn)), (a_mh, .inl (cI, 42, .inl mh)), (a_mg, .inl (cI, 56, .inl mg)), (a_mr, .inl (cI, 6, .inl mr)), (a_mx, .inl (cI, 6, .inl mx))] H := hP
          have hD : va_D A [(h6, .inr (6, [.ref a_mt, .int my, .ref a_mo, .ref a_md, .ref a_mb, .ref a_ms, .ref a_mp, .int mk_10, .ref a_mi, .int mq, .ref a_mn, .int mz, .int ma, .ref a_mh, .ref a_mg, .ref a_mr, .ref a_mx])), (a_mt, .inl (cI, 200, .inl mt)), (a_mo, .inl (cI, 16, .inl mo)), (a_md, .inl (cI, 16, .inl md)), (a_mb, .inl (cI, 56, .inl mb)), (a_ms, .inl (cI, 56, .inl ms)), (a_mp, .inl (cI, 448, .inl mp_9)), (a_mi, .inl (cI, 112, .inl mi)), (a_mn, .inl (cI, 12, .inl mn)), (a_mh, .inl (cI, 42, .inl mh)), (a_mg, .inl (cI, 56, .inl mg)), (a_mr, .inl (cI, 6, .inl mr)), (a_mx, .inl (cI, 6, .inl mx))] := hD
          refine lv_aload_n hx hb dX6_hand_52 rfl (lv_at hl 0 rfl) ?_
          refine va_get (D := D) (ci := 6) (v := .ref a_ms) (C := RX6) (T := TX6) (N := 17) hx hb hts hin6 hown hK.1 hP 0 rfl rfl 5 (by decide) (k_0) (fun _ h9 => h9) rfl dX6_hand_53 ?_
          refine lv_bipush (v := 8) hx hb dX6_hand_56 (by decide) ?_
          refine lv_iload_n hx hb dX6_hand_58 rfl (lv_at hl 1 rfl) ?_
          refine lv_iadd hx hb dX6_hand_59 ?_
          refine z_iald (k := ((8 : Int32) + x1).toNatClampNeg) hx hb hK.1 hP 5 rfl rfl h.1 dX6_hand_60 ?_
          have h := h.2
          refine lv_topi (fun v_11 ev_11 => ?_)
          have h := h v_11 ev_11
          refine lv_istore_n (lv' := [(3, .int v_11), (0, .ref h6), (1, .int x1), (2, .int x2)]) hx hb dX6_hand_61 rfl hl (by decide) rfl (fun ls hl => ?_)
          refine lv_aload_n hx hb dX6_hand_62 rfl (lv_at hl 1 rfl) ?_
          refine va_get (D := D) (ci := 6) (v := .ref a_ms) (C := RX6) (T := TX6) (N := 17) hx hb hts hin6 hown hK.1 hP 0 rfl rfl 5 (by decide) (k_0) (fun _ h9 => h9) rfl dX6_hand_63 ?_
          refine lv_bipush (v := 8) hx hb dX6_hand_66 (by decide) ?_
          refine lv_iload_n hx hb dX6_hand_68 rfl (lv_at hl 2 rfl) ?_
          refine lv_iadd hx hb dX6_hand_69 ?_
          refine lv_iload_n hx hb dX6_hand_70 rfl (lv_at hl 3 rfl) ?_
          refine z_iast (k := ((8 : Int32) + x1).toNatClampNeg) hx hb hK.1 hP hD hS 5 rfl rfl h.1 dX6_hand_71 (fun H locs hP hD hS => ?_)
          have h := h.2
          have hP : va_P D vwCl [(h6, .inr (6, [.ref a_mt, .int my, .ref a_mo, .ref a_md, .ref a_mb, .ref a_ms, .ref a_mp, .int mk_10, .ref a_mi, .int mq, .ref a_mn, .int mz, .int ma, .ref a_mh, .ref a_mg, .ref a_mr, .ref a_mx])), (a_mt, .inl (cI, 200, .inl mt)), (a_mo, .inl (cI, 16, .inl mo)), (a_md, .inl (cI, 16, .inl md)), (a_mb, .inl (cI, 56, .inl mb)), (a_ms, .inl (cI, 56, .inl (upd ms (((8 : Int32) + x1).toNatClampNeg) x2))), (a_mp, .inl (cI, 448, .inl mp_9)), (a_mi, .inl (cI, 112, .inl mi)), (a_mn, .inl (cI, 12, .inl mn)), (a_mh, .inl (cI, 42, .inl mh)), (a_mg, .inl (cI, 56, .inl mg)), (a_mr, .inl (cI, 6, .inl mr)), (a_mx, .inl (cI, 6, .inl mx))] H := hP
          have hD : va_D A [(h6, .inr (6, [.ref a_mt, .int my, .ref a_mo, .ref a_md, .ref a_mb, .ref a_ms, .ref a_mp, .int mk_10, .ref a_mi, .int mq, .ref a_mn, .int mz, .int ma, .ref a_mh, .ref a_mg, .ref a_mr, .ref a_mx])), (a_mt, .inl (cI, 200, .inl mt)), (a_mo, .inl (cI, 16, .inl mo)), (a_md, .inl (cI, 16, .inl md)), (a_mb, .inl (cI, 56, .inl mb)), (a_ms, .inl (cI, 56, .inl (upd ms (((8 : Int32) + x1).toNatClampNeg) x2))), (a_mp, .inl (cI, 448, .inl mp_9)), (a_mi, .inl (cI, 112, .inl mi)), (a_mn, .inl (cI, 12, .inl mn)), (a_mh, .inl (cI, 42, .inl mh)), (a_mg, .inl (cI, 56, .inl mg)), (a_mr, .inl (cI, 6, .inl mr)), (a_mx, .inl (cI, 6, .inl mx))] := hD
          refine lv_iload_n hx hb dX6_hand_72 rfl (lv_at hl 0 rfl) ?_
          exact hret v_11 ((upd ms (((8 : Int32) + x1).toNatClampNeg) x2), mp_9, mk_10) _ _ _ ls h hP hD hS dX6_hand_73
        · have h := h.1 c_8
          refine lv_bipush (v := -2) hx hb dX6_hand_45 (by decide) ?_
          exact hret (-2 : Int32) (ms, mp, mk) _ _ _ ls h hP hD hS dX6_hand_47
    · have h := h.1 c_6
      refine lv_iconst (v := -1) hx hb dX6_hand_16 (by decide) ?_
      exact hret (-1 : Int32) (ms, mp, mk) _ _ _ ls h hP hD hS dX6_hand_17

/-! DoubtCourtModel.changes -/
abbrev rmX6_changes : Room := { frames := 0, cells := 0, slots := 0, locals := 0 }
theorem yoX6_changes : yX6_changes.cls ≠ "java/lang/invoke/MethodHandle" ∧ yX6_changes.cls ≠ "java/lang/invoke/VarHandle" ∧ (parseMethodDescriptor yX6_changes.desc).map (fun d => d.parameters.length) = some 2 := by decide +kernel
set_option maxHeartbeats 4000000 in
set_option maxRecDepth 100000 in
theorem c_X6_changes (l : Launch) (D : va_G) (cI cC cQ : ClassId) (h6 : Nat) (a_mt : Nat) (a_mo : Nat) (a_md : Nat) (a_mb : Nat) (a_ms : Nat) (a_mp : Nat) (a_mi : Nat) (a_mn : Nat) (a_mh : Nat) (a_mg : Nat) (a_mr : Nat) (a_mx : Nat) (mt : Nat → Int32) (my : Int32) (mo : Nat → Int32) (md : Nat → Int32) (mb : Nat → Int32) (ms : Nat → Int32) (mp : Nat → Int32) (mk : Int32) (mi : Nat → Int32) (mq : Int32) (mn : Nat → Int32) (mz : Int32) (ma : Int32) (mh : Nat → Int32) (mg : Nat → Int32) (mr : Nat → Int32) (mx : Nat → Int32) (x1 : Int32) (x2 : Int32) (Q : (Nat → Int32) → Prop) (h : wX6_changes x1 x2 ms Q) : Cv (S := (Nat → Int32)) l D cI cC cQ yX6_changes wsX6_changes rmX6_changes [.ref h6, .int x1, .int x2] [(h6, .inr (6, [.ref a_mt, .int my, .ref a_mo, .ref a_md, .ref a_mb, .ref a_ms, .ref a_mp, .int mk, .ref a_mi, .int mq, .ref a_mn, .int mz, .int ma, .ref a_mh, .ref a_mg, .ref a_mr, .ref a_mx])), (a_mt, .inl (cI, 200, .inl mt)), (a_mo, .inl (cI, 16, .inl mo)), (a_md, .inl (cI, 16, .inl md)), (a_mb, .inl (cI, 56, .inl mb)), (a_ms, .inl (cI, 56, .inl ms)), (a_mp, .inl (cI, 448, .inl mp)), (a_mi, .inl (cI, 112, .inl mi)), (a_mn, .inl (cI, 12, .inl mn)), (a_mh, .inl (cI, 42, .inl mh)), (a_mg, .inl (cI, 56, .inl mg)), (a_mr, .inl (cI, 6, .inl mr)), (a_mx, .inl (cI, 6, .inl mx))] (fun u => [(h6, .inr (6, [.ref a_mt, .int my, .ref a_mo, .ref a_md, .ref a_mb, .ref a_ms, .ref a_mp, .int mk, .ref a_mi, .int mq, .ref a_mn, .int mz, .int ma, .ref a_mh, .ref a_mg, .ref a_mr, .ref a_mx])), (a_mt, .inl (cI, 200, .inl mt)), (a_mo, .inl (cI, 16, .inl mo)), (a_md, .inl (cI, 16, .inl md)), (a_mb, .inl (cI, 56, .inl mb)), (a_ms, .inl (cI, 56, .inl u)), (a_mp, .inl (cI, 448, .inl mp)), (a_mi, .inl (cI, 112, .inl mi)), (a_mn, .inl (cI, 12, .inl mn)), (a_mh, .inl (cI, 42, .inl mh)), (a_mg, .inl (cI, 56, .inl mg)), (a_mr, .inl (cI, 6, .inl mr)), (a_mx, .inl (cI, 6, .inl mx))]) (fun u => Q u) := by
  refine Cv_mk (cc := cX6_changes) (maxL := 4) (by decide) rfl (Nat.le_of_ble_eq_true rfl) ?_
  intro p e s m args below meth c A Z ls hx hb hml hown hts hK hA hP hD hret hl
  have hS : va_S A s.heap s.heap [] := va_S.rf
  have hin6 : ∀ w ∈ u_ws RX6 TX6 17, w ∈ wsX6_changes := by decide +kernel
  have k_0 := hts (.fieldLink RX6 22 "DoubtCourtModel" "s" "[I") (by decide +kernel)
  have hl : lv_has ls 4 [(0, .ref h6), (1, .int x1), (2, .int x2)] := hl
  refine lv_aload_n hx hb dX6_changes_0 rfl (lv_at hl 0 rfl) ?_
  refine va_get (D := D) (ci := 6) (v := .ref a_ms) (C := RX6) (T := TX6) (N := 17) hx hb hts hin6 hown hK.1 hP 0 rfl rfl 5 (by decide) (k_0) (fun _ h9 => h9) rfl dX6_changes_1 ?_
  refine lv_iconst (v := 1) hx hb dX6_changes_4 (by decide) ?_
  refine lv_iload_n hx hb dX6_changes_5 rfl (lv_at hl 1 rfl) ?_
  refine lv_iadd hx hb dX6_changes_6 ?_
  refine z_iald (k := ((1 : Int32) + x1).toNatClampNeg) hx hb hK.1 hP 5 rfl rfl h.1 dX6_changes_7 ?_
  have h := h.2
  refine lv_topi (fun v_1 ev_1 => ?_)
  have h := h v_1 ev_1
  refine lv_istore_n (lv' := [(3, .int v_1), (0, .ref h6), (1, .int x1), (2, .int x2)]) hx hb dX6_changes_8 rfl hl (by decide) rfl (fun ls hl => ?_)
  refine lv_aload_n hx hb dX6_changes_9 rfl (lv_at hl 1 rfl) ?_
  refine va_get (D := D) (ci := 6) (v := .ref a_ms) (C := RX6) (T := TX6) (N := 17) hx hb hts hin6 hown hK.1 hP 0 rfl rfl 5 (by decide) (k_0) (fun _ h9 => h9) rfl dX6_changes_10 ?_
  refine lv_iconst (v := 1) hx hb dX6_changes_13 (by decide) ?_
  refine lv_iload_n hx hb dX6_changes_14 rfl (lv_at hl 2 rfl) ?_
  refine lv_iadd hx hb dX6_changes_15 ?_
  refine lv_aload_n hx hb dX6_changes_16 rfl (lv_at hl 1 rfl) ?_
  refine va_get (D := D) (ci := 6) (v := .ref a_ms) (C := RX6) (T := TX6) (N := 17) hx hb hts hin6 hown hK.1 hP 0 rfl rfl 5 (by decide) (k_0) (fun _ h9 => h9) rfl dX6_changes_17 ?_
  refine lv_iconst (v := 1) hx hb dX6_changes_20 (by decide) ?_
  refine lv_iload_n hx hb dX6_changes_21 rfl (lv_at hl 3 rfl) ?_
  refine lv_iadd hx hb dX6_changes_22 ?_
  refine z_iald (k := ((1 : Int32) + x2).toNatClampNeg) hx hb hK.1 hP 5 rfl rfl h.1 dX6_changes_23 ?_
  have h := h.2
  refine z_iast (k := ((1 : Int32) + x1).toNatClampNeg) hx hb hK.1 hP hD hS 5 rfl rfl h.1 dX6_changes_24 (fun H locs hP hD hS => ?_)
  have h := h.2
  have hP : va_P D vwCl [(h6, .inr (6, [.ref a_mt, .int my, .ref a_mo, .ref a_md, .ref a_mb, .ref a_ms, .ref a_mp, .int mk, .ref a_mi, .int mq, .ref a_mn, .int mz, .int ma, .ref a_mh, .ref a_mg, .ref a_mr, .ref a_mx])), (a_mt, .inl (cI, 200, .inl mt)), (a_mo, .inl (cI, 16, .inl mo)), (a_md, .inl (cI, 16, .inl md)), (a_mb, .inl (cI, 56, .inl mb)), (a_ms, .inl (cI, 56, .inl (upd ms (((1 : Int32) + x1).toNatClampNeg) (ms (((1 : Int32) + x2).toNatClampNeg))))), (a_mp, .inl (cI, 448, .inl mp)), (a_mi, .inl (cI, 112, .inl mi)), (a_mn, .inl (cI, 12, .inl mn)), (a_mh, .inl (cI, 42, .inl mh)), (a_mg, .inl (cI, 56, .inl mg)), (a_mr, .inl (cI, 6, .inl mr)), (a_mx, .inl (cI, 6, .inl mx))] H := hP
  have hD : va_D A [(h6, .inr (6, [.ref a_mt, .int my, .ref a_mo, .ref a_md, .ref a_mb, .ref a_ms, .ref a_mp, .int mk, .ref a_mi, .int mq, .ref a_mn, .int mz, .int ma, .ref a_mh, .ref a_mg, .ref a_mr, .ref a_mx])), (a_mt, .inl (cI, 200, .inl mt)), (a_mo, .inl (cI, 16, .inl mo)), (a_md, .inl (cI, 16, .inl md)), (a_mb, .inl (cI, 56, .inl mb)), (a_ms, .inl (cI, 56, .inl (upd ms (((1 : Int32) + x1).toNatClampNeg) (ms (((1 : Int32) + x2).toNatClampNeg))))), (a_mp, .inl (cI, 448, .inl mp)), (a_mi, .inl (cI, 112, .inl mi)), (a_mn, .inl (cI, 12, .inl mn)), (a_mh, .inl (cI, 42, .inl mh)), (a_mg, .inl (cI, 56, .inl mg)), (a_mr, .inl (cI, 6, .inl mr)), (a_mx, .inl (cI, 6, .inl mx))] := hD
  refine lv_aload_n hx hb dX6_changes_25 rfl (lv_at hl 1 rfl) ?_
  refine va_get (D := D) (ci := 6) (v := .ref a_ms) (C := RX6) (T := TX6) (N := 17) hx hb hts hin6 hown hK.1 hP 0 rfl rfl 5 (by decide) (k_0) (fun _ h9 => h9) rfl dX6_changes_26 ?_
  refine lv_iconst (v := 1) hx hb dX6_changes_29 (by decide) ?_
  refine lv_iload_n hx hb dX6_changes_30 rfl (lv_at hl 3 rfl) ?_
  refine lv_iadd hx hb dX6_changes_31 ?_
  refine lv_iload_n hx hb dX6_changes_32 rfl (lv_at hl 0 rfl) ?_
  refine z_iast (k := ((1 : Int32) + x2).toNatClampNeg) hx hb hK.1 hP hD hS 5 rfl rfl h.1 dX6_changes_33 (fun H locs hP hD hS => ?_)
  have h := h.2
  have hP : va_P D vwCl [(h6, .inr (6, [.ref a_mt, .int my, .ref a_mo, .ref a_md, .ref a_mb, .ref a_ms, .ref a_mp, .int mk, .ref a_mi, .int mq, .ref a_mn, .int mz, .int ma, .ref a_mh, .ref a_mg, .ref a_mr, .ref a_mx])), (a_mt, .inl (cI, 200, .inl mt)), (a_mo, .inl (cI, 16, .inl mo)), (a_md, .inl (cI, 16, .inl md)), (a_mb, .inl (cI, 56, .inl mb)), (a_ms, .inl (cI, 56, .inl (upd (upd ms (((1 : Int32) + x1).toNatClampNeg) (ms (((1 : Int32) + x2).toNatClampNeg))) (((1 : Int32) + x2).toNatClampNeg) v_1))), (a_mp, .inl (cI, 448, .inl mp)), (a_mi, .inl (cI, 112, .inl mi)), (a_mn, .inl (cI, 12, .inl mn)), (a_mh, .inl (cI, 42, .inl mh)), (a_mg, .inl (cI, 56, .inl mg)), (a_mr, .inl (cI, 6, .inl mr)), (a_mx, .inl (cI, 6, .inl mx))] H := hP
  have hD : va_D A [(h6, .inr (6, [.ref a_mt, .int my, .ref a_mo, .ref a_md, .ref a_mb, .ref a_ms, .ref a_mp, .int mk, .ref a_mi, .int mq, .ref a_mn, .int mz, .int ma, .ref a_mh, .ref a_mg, .ref a_mr, .ref a_mx])), (a_mt, .inl (cI, 200, .inl mt)), (a_mo, .inl (cI, 16, .inl mo)), (a_md, .inl (cI, 16, .inl md)), (a_mb, .inl (cI, 56, .inl mb)), (a_ms, .inl (cI, 56, .inl (upd (upd ms (((1 : Int32) + x1).toNatClampNeg) (ms (((1 : Int32) + x2).toNatClampNeg))) (((1 : Int32) + x2).toNatClampNeg) v_1))), (a_mp, .inl (cI, 448, .inl mp)), (a_mi, .inl (cI, 112, .inl mi)), (a_mn, .inl (cI, 12, .inl mn)), (a_mh, .inl (cI, 42, .inl mh)), (a_mg, .inl (cI, 56, .inl mg)), (a_mr, .inl (cI, 6, .inl mr)), (a_mx, .inl (cI, 6, .inl mx))] := hD
  exact hret (upd (upd ms (((1 : Int32) + x1).toNatClampNeg) (ms (((1 : Int32) + x2).toNatClampNeg))) (((1 : Int32) + x2).toNatClampNeg) v_1) _ _ _ ls h hP hD hS dX6_changes_34

/-! DoubtCourtModel.swap -/
abbrev rmX6_swap : Room := { frames := 2, cells := 0, slots := 0, locals := 43 }
theorem yoX6_swap : yX6_swap.cls ≠ "java/lang/invoke/MethodHandle" ∧ yX6_swap.cls ≠ "java/lang/invoke/VarHandle" ∧ (parseMethodDescriptor yX6_swap.desc).map (fun d => d.parameters.length) = some 2 := by decide +kernel
set_option maxHeartbeats 4000000 in
set_option maxRecDepth 100000 in
theorem c_X6_swap (l : Launch) (D : va_G) (cI cC cQ : ClassId) (h6 : Nat) (a_mt : Nat) (a_mo : Nat) (a_md : Nat) (a_mb : Nat) (a_ms : Nat) (a_mp : Nat) (a_mi : Nat) (a_mn : Nat) (a_mh : Nat) (a_mg : Nat) (a_mr : Nat) (a_mx : Nat) (mt : Nat → Int32) (my : Int32) (mo : Nat → Int32) (md : Nat → Int32) (mb : Nat → Int32) (ms : Nat → Int32) (mp : Nat → Int32) (mk : Int32) (mi : Nat → Int32) (mq : Int32) (mn : Nat → Int32) (mz : Int32) (ma : Int32) (mh : Nat → Int32) (mg : Nat → Int32) (mr : Nat → Int32) (mx : Nat → Int32) (x1 : Int32) (x2 : Int32) (Q : Int32 → (Nat → Int32) → (Nat → Int32) → Int32 → Prop) (h : wX6_swap x1 x2 mo ms mp mk Q) : Ci (S := (Nat → Int32) × (Nat → Int32) × (Int32)) l D cI cC cQ yX6_swap wsX6_swap rmX6_swap [.ref h6, .int x1, .int x2] [(h6, .inr (6, [.ref a_mt, .int my, .ref a_mo, .ref a_md, .ref a_mb, .ref a_ms, .ref a_mp, .int mk, .ref a_mi, .int mq, .ref a_mn, .int mz, .int ma, .ref a_mh, .ref a_mg, .ref a_mr, .ref a_mx])), (a_mt, .inl (cI, 200, .inl mt)), (a_mo, .inl (cI, 16, .inl mo)), (a_md, .inl (cI, 16, .inl md)), (a_mb, .inl (cI, 56, .inl mb)), (a_ms, .inl (cI, 56, .inl ms)), (a_mp, .inl (cI, 448, .inl mp)), (a_mi, .inl (cI, 112, .inl mi)), (a_mn, .inl (cI, 12, .inl mn)), (a_mh, .inl (cI, 42, .inl mh)), (a_mg, .inl (cI, 56, .inl mg)), (a_mr, .inl (cI, 6, .inl mr)), (a_mx, .inl (cI, 6, .inl mx))] (fun u => [(h6, .inr (6, [.ref a_mt, .int my, .ref a_mo, .ref a_md, .ref a_mb, .ref a_ms, .ref a_mp, .int u.2.2, .ref a_mi, .int mq, .ref a_mn, .int mz, .int ma, .ref a_mh, .ref a_mg, .ref a_mr, .ref a_mx])), (a_mt, .inl (cI, 200, .inl mt)), (a_mo, .inl (cI, 16, .inl mo)), (a_md, .inl (cI, 16, .inl md)), (a_mb, .inl (cI, 56, .inl mb)), (a_ms, .inl (cI, 56, .inl u.1)), (a_mp, .inl (cI, 448, .inl u.2.1)), (a_mi, .inl (cI, 112, .inl mi)), (a_mn, .inl (cI, 12, .inl mn)), (a_mh, .inl (cI, 42, .inl mh)), (a_mg, .inl (cI, 56, .inl mg)), (a_mr, .inl (cI, 6, .inl mr)), (a_mx, .inl (cI, 6, .inl mx))]) (fun r u => Q r u.1 u.2.1 u.2.2) := by
  refine Ci_mk (cc := cX6_swap) (maxL := 3) (by decide) rfl (Nat.le_of_ble_eq_true rfl) ?_
  intro p e s m args below meth c A Z ls hx hb hml hown hts hK hA hP hD hret hl
  have hS : va_S A s.heap s.heap [] := va_S.rf
  have hin6 : ∀ w ∈ u_ws RX6 TX6 17, w ∈ wsX6_swap := by decide +kernel
  have k_0 := hts (.fieldLink RX6 22 "DoubtCourtModel" "s" "[I") (by decide +kernel)
  have hl : lv_has ls 3 [(0, .ref h6), (1, .int x1), (2, .int x2)] := hl
  refine lv_aload_n hx hb dX6_swap_0 rfl (lv_at hl 0 rfl) ?_
  refine lv_iload_n hx hb dX6_swap_1 rfl (lv_at hl 1 rfl) ?_
  refine k0V_i (As := [.int x1]) (n := 1) ⟨hx, hb, hml, hown, hts⟩ hK hP hD hS hA (c_X6_isCourtier l D cI cC cQ h6 a_mt a_mo a_md a_mb a_ms a_mp a_mi a_mn a_mh a_mg a_mr a_mx mt my mo md mb ms mp mk mi mq mn mz ma mh mg mr mx x1 _ h) gX6_swap_X6_isCourtier rfl rfl ⟨rfl, rfl⟩ yoX6_isCourtier ⟨Nat.le_of_ble_eq_true rfl, Nat.le_of_ble_eq_true rfl⟩ (q0 := 0) (ci := 6) rfl rfl rfl rfl hl.1 rfl (Nat.le_of_ble_eq_true rfl) dX6_swap_2 ⟨Nat.zero_le _, Nat.zero_le _⟩ (fun r_1 u H locs h hP hD hS => ?_)
  obtain ⟨b_2, h⟩ := h
  refine lv_if_eq (tgt := 21) hx hb dX6_swap_5 (by decide) (fun c_3 => ?_) (fun c_3 => ?_)
  · have h := h.1 c_3
    refine lv_iconst (v := -1) hx hb dX6_swap_21 (by decide) ?_
    exact hret (-1 : Int32) (ms, mp, mk) _ _ _ ls h hP hD hS dX6_swap_22
  · have h := h.2 c_3
    refine lv_aload_n hx hb dX6_swap_8 rfl (lv_at hl 0 rfl) ?_
    refine lv_iload_n hx hb dX6_swap_9 rfl (lv_at hl 2 rfl) ?_
    refine k0V_i (As := [.int x2]) (n := 1) ⟨hx, hb, hml, hown, hts⟩ hK hP hD hS hA (c_X6_isCourtier l D cI cC cQ h6 a_mt a_mo a_md a_mb a_ms a_mp a_mi a_mn a_mh a_mg a_mr a_mx mt my mo md mb ms mp mk mi mq mn mz ma mh mg mr mx x2 _ h) gX6_swap_X6_isCourtier rfl rfl ⟨rfl, rfl⟩ yoX6_isCourtier ⟨Nat.le_of_ble_eq_true rfl, Nat.le_of_ble_eq_true rfl⟩ (q0 := 0) (ci := 6) rfl rfl rfl rfl hl.1 rfl (Nat.le_of_ble_eq_true rfl) dX6_swap_10 ⟨Nat.zero_le _, Nat.zero_le _⟩ (fun r_4 u H locs h hP hD hS => ?_)
    obtain ⟨b_5, h⟩ := h
    refine lv_if_eq (tgt := 21) hx hb dX6_swap_13 (by decide) (fun c_6 => ?_) (fun c_6 => ?_)
    · have h := h.1 c_6
      refine lv_iconst (v := -1) hx hb dX6_swap_21 (by decide) ?_
      exact hret (-1 : Int32) (ms, mp, mk) _ _ _ ls h hP hD hS dX6_swap_22
    · have h := h.2 c_6
      refine lv_iload_n hx hb dX6_swap_16 rfl (lv_at hl 1 rfl) ?_
      refine lv_iload_n hx hb dX6_swap_17 rfl (lv_at hl 2 rfl) ?_
      refine lv_icmp_ne (tgt := 23) hx hb dX6_swap_18 (by decide) (fun c_7 => ?_) (fun c_7 => ?_)
      · have h := h.2 c_7
        refine lv_aload_n hx hb dX6_swap_23 rfl (lv_at hl 0 rfl) ?_
        refine k0V_v (As := []) (n := 0) ⟨hx, hb, hml, hown, hts⟩ hK hP hD hS hA (c_X6_keeps l D cI cC cQ h6 a_mt a_mo a_md a_mb a_ms a_mp a_mi a_mn a_mh a_mg a_mr a_mx mt my mo md mb ms mp mk mi mq mn mz ma mh mg mr mx  _ h) gX6_swap_X6_keeps rfl rfl ⟨rfl, rfl⟩ yoX6_keeps ⟨Nat.le_of_ble_eq_true rfl, Nat.le_of_ble_eq_true rfl⟩ (q0 := 0) (ci := 6) rfl rfl rfl rfl hl.1 rfl (Nat.le_of_ble_eq_true rfl) dX6_swap_24 ⟨Nat.zero_le _, Nat.zero_le _⟩ (fun u H locs h hP hD hS => ?_)
        obtain ⟨mp_8, mk_9⟩ := u
        have hP : va_P D vwCl [(h6, .inr (6, [.ref a_mt, .int my, .ref a_mo, .ref a_md, .ref a_mb, .ref a_ms, .ref a_mp, .int mk_9, .ref a_mi, .int mq, .ref a_mn, .int mz, .int ma, .ref a_mh, .ref a_mg, .ref a_mr, .ref a_mx])), (a_mt, .inl (cI, 200, .inl mt)), (a_mo, .inl (cI, 16, .inl mo)), (a_md, .inl (cI, 16, .inl md)), (a_mb, .inl (cI, 56, .inl mb)), (a_ms, .inl (cI, 56, .inl ms)), (a_mp, .inl (cI, 448, .inl mp_8)), (a_mi, .inl (cI, 112, .inl mi)), (a_mn, .inl (cI, 12, .inl mn)), (a_mh, .inl (cI, 42, .inl mh)), (a_mg, .inl (cI, 56, .inl mg)), (a_mr, .inl (cI, 6, .inl mr)), (a_mx, .inl (cI, 6, .inl mx))] H := hP
        have hD : va_D A [(h6, .inr (6, [.ref a_mt, .int my, .ref a_mo, .ref a_md, .ref a_mb, .ref a_ms, .ref a_mp, .int mk_9, .ref a_mi, .int mq, .ref a_mn, .int mz, .int ma, .ref a_mh, .ref a_mg, .ref a_mr, .ref a_mx])), (a_mt, .inl (cI, 200, .inl mt)), (a_mo, .inl (cI, 16, .inl mo)), (a_md, .inl (cI, 16, .inl md)), (a_mb, .inl (cI, 56, .inl mb)), (a_ms, .inl (cI, 56, .inl ms)), (a_mp, .inl (cI, 448, .inl mp_8)), (a_mi, .inl (cI, 112, .inl mi)), (a_mn, .inl (cI, 12, .inl mn)), (a_mh, .inl (cI, 42, .inl mh)), (a_mg, .inl (cI, 56, .inl mg)), (a_mr, .inl (cI, 6, .inl mr)), (a_mx, .inl (cI, 6, .inl mx))] := hD
        refine lv_aload_n hx hb dX6_swap_27 rfl (lv_at hl 0 rfl) ?_
        refine lv_iload_n hx hb dX6_swap_28 rfl (lv_at hl 1 rfl) ?_
        refine lv_iload_n hx hb dX6_swap_29 rfl (lv_at hl 2 rfl) ?_
        refine k0V_v (As := [.int x1, .int x2]) (n := 2) ⟨hx, hb, hml, hown, hts⟩ hK hP hD hS hA (c_X6_changes l D cI cC cQ h6 a_mt a_mo a_md a_mb a_ms a_mp a_mi a_mn a_mh a_mg a_mr a_mx mt my mo md mb ms mp_8 mk_9 mi mq mn mz ma mh mg mr mx x1 x2 _ h) gX6_swap_X6_changes rfl rfl ⟨rfl, rfl⟩ yoX6_changes ⟨Nat.le_of_ble_eq_true rfl, Nat.le_of_ble_eq_true rfl⟩ (q0 := 0) (ci := 6) rfl rfl rfl rfl hl.1 rfl (Nat.le_of_ble_eq_true rfl) dX6_swap_30 ⟨Nat.zero_le _, Nat.zero_le _⟩ (fun ms_10 H locs h hP hD hS => ?_)
        have hP : va_P D vwCl [(h6, .inr (6, [.ref a_mt, .int my, .ref a_mo, .ref a_md, .ref a_mb, .ref a_ms, .ref a_mp, .int mk_9, .ref a_mi, .int mq, .ref a_mn, .int mz, .int ma, .ref a_mh, .ref a_mg, .ref a_mr, .ref a_mx])), (a_mt, .inl (cI, 200, .inl mt)), (a_mo, .inl (cI, 16, .inl mo)), (a_md, .inl (cI, 16, .inl md)), (a_mb, .inl (cI, 56, .inl mb)), (a_ms, .inl (cI, 56, .inl ms_10)), (a_mp, .inl (cI, 448, .inl mp_8)), (a_mi, .inl (cI, 112, .inl mi)), (a_mn, .inl (cI, 12, .inl mn)), (a_mh, .inl (cI, 42, .inl mh)), (a_mg, .inl (cI, 56, .inl mg)), (a_mr, .inl (cI, 6, .inl mr)), (a_mx, .inl (cI, 6, .inl mx))] H := hP
        have hD : va_D A [(h6, .inr (6, [.ref a_mt, .int my, .ref a_mo, .ref a_md, .ref a_mb, .ref a_ms, .ref a_mp, .int mk_9, .ref a_mi, .int mq, .ref a_mn, .int mz, .int ma, .ref a_mh, .ref a_mg, .ref a_mr, .ref a_mx])), (a_mt, .inl (cI, 200, .inl mt)), (a_mo, .inl (cI, 16, .inl mo)), (a_md, .inl (cI, 16, .inl md)), (a_mb, .inl (cI, 56, .inl mb)), (a_ms, .inl (cI, 56, .inl ms_10)), (a_mp, .inl (cI, 448, .inl mp_8)), (a_mi, .inl (cI, 112, .inl mi)), (a_mn, .inl (cI, 12, .inl mn)), (a_mh, .inl (cI, 42, .inl mh)), (a_mg, .inl (cI, 56, .inl mg)), (a_mr, .inl (cI, 6, .inl mr)), (a_mx, .inl (cI, 6, .inl mx))] := hD
        refine lv_aload_n hx hb dX6_swap_33 rfl (lv_at hl 0 rfl) ?_
        refine va_get (D := D) (ci := 6) (v := .ref a_ms) (C := RX6) (T := TX6) (N := 17) hx hb hts hin6 hown hK.1 hP 0 rfl rfl 5 (by decide) (k_0) (fun _ h9 => h9) rfl dX6_swap_34 ?_
        refine lv_iconst (v := 1) hx hb dX6_swap_37 (by decide) ?_
        refine lv_iload_n hx hb dX6_swap_38 rfl (lv_at hl 1 rfl) ?_
        refine lv_iadd hx hb dX6_swap_39 ?_
        refine z_iald (k := ((1 : Int32) + x1).toNatClampNeg) hx hb hK.1 hP 5 rfl rfl h.1 dX6_swap_40 ?_
        have h := h.2
        exact hret (ms_10 (((1 : Int32) + x1).toNatClampNeg)) (ms_10, mp_8, mk_9) _ _ _ ls h hP hD hS dX6_swap_41
      · have h := h.1 c_7
        refine lv_iconst (v := -1) hx hb dX6_swap_21 (by decide) ?_
        exact hret (-1 : Int32) (ms, mp, mk) _ _ _ ls h hP hD hS dX6_swap_22

/-! DoubtCourtModel.undo -/
abbrev rmX6_undo : Room := { frames := 0, cells := 0, slots := 0, locals := 0 }
theorem yoX6_undo : yX6_undo.cls ≠ "java/lang/invoke/MethodHandle" ∧ yX6_undo.cls ≠ "java/lang/invoke/VarHandle" ∧ (parseMethodDescriptor yX6_undo.desc).map (fun d => d.parameters.length) = some 0 := by decide +kernel
set_option maxHeartbeats 4000000 in
set_option maxRecDepth 100000 in
theorem c_X6_undo (l : Launch) (D : va_G) (cI cC cQ : ClassId) (h6 : Nat) (a_mt : Nat) (a_mo : Nat) (a_md : Nat) (a_mb : Nat) (a_ms : Nat) (a_mp : Nat) (a_mi : Nat) (a_mn : Nat) (a_mh : Nat) (a_mg : Nat) (a_mr : Nat) (a_mx : Nat) (mt : Nat → Int32) (my : Int32) (mo : Nat → Int32) (md : Nat → Int32) (mb : Nat → Int32) (ms : Nat → Int32) (mp : Nat → Int32) (mk : Int32) (mi : Nat → Int32) (mq : Int32) (mn : Nat → Int32) (mz : Int32) (ma : Int32) (mh : Nat → Int32) (mg : Nat → Int32) (mr : Nat → Int32) (mx : Nat → Int32) (Q : Int32 → (Nat → Int32) → Int32 → Prop) (h : wX6_undo ms mp mk Q) : Ci (S := (Nat → Int32) × (Int32)) l D cI cC cQ yX6_undo wsX6_undo rmX6_undo [.ref h6] [(h6, .inr (6, [.ref a_mt, .int my, .ref a_mo, .ref a_md, .ref a_mb, .ref a_ms, .ref a_mp, .int mk, .ref a_mi, .int mq, .ref a_mn, .int mz, .int ma, .ref a_mh, .ref a_mg, .ref a_mr, .ref a_mx])), (a_mt, .inl (cI, 200, .inl mt)), (a_mo, .inl (cI, 16, .inl mo)), (a_md, .inl (cI, 16, .inl md)), (a_mb, .inl (cI, 56, .inl mb)), (a_ms, .inl (cI, 56, .inl ms)), (a_mp, .inl (cI, 448, .inl mp)), (a_mi, .inl (cI, 112, .inl mi)), (a_mn, .inl (cI, 12, .inl mn)), (a_mh, .inl (cI, 42, .inl mh)), (a_mg, .inl (cI, 56, .inl mg)), (a_mr, .inl (cI, 6, .inl mr)), (a_mx, .inl (cI, 6, .inl mx))] (fun u => [(h6, .inr (6, [.ref a_mt, .int my, .ref a_mo, .ref a_md, .ref a_mb, .ref a_ms, .ref a_mp, .int u.2, .ref a_mi, .int mq, .ref a_mn, .int mz, .int ma, .ref a_mh, .ref a_mg, .ref a_mr, .ref a_mx])), (a_mt, .inl (cI, 200, .inl mt)), (a_mo, .inl (cI, 16, .inl mo)), (a_md, .inl (cI, 16, .inl md)), (a_mb, .inl (cI, 56, .inl mb)), (a_ms, .inl (cI, 56, .inl u.1)), (a_mp, .inl (cI, 448, .inl mp)), (a_mi, .inl (cI, 112, .inl mi)), (a_mn, .inl (cI, 12, .inl mn)), (a_mh, .inl (cI, 42, .inl mh)), (a_mg, .inl (cI, 56, .inl mg)), (a_mr, .inl (cI, 6, .inl mr)), (a_mx, .inl (cI, 6, .inl mx))]) (fun r u => Q r u.1 u.2) := by
  refine Ci_mk (cc := cX6_undo) (maxL := 2) (by decide) rfl (Nat.le_of_ble_eq_true rfl) ?_
  intro p e s m args below meth c A Z ls hx hb hml hown hts hK hA hP hD hret hl
  have hS : va_S A s.heap s.heap [] := va_S.rf
  have hin6 : ∀ w ∈ u_ws RX6 TX6 17, w ∈ wsX6_undo := by decide +kernel
  have k_0 := hts (.fieldLink RX6 97 "DoubtCourtModel" "known" "I") (by decide +kernel)
  have k_1 := hts (.fieldLink RX6 22 "DoubtCourtModel" "s" "[I") (by decide +kernel)
  have k_2 := hts (.fieldLink RX6 25 "DoubtCourtModel" "past" "[I") (by decide +kernel)
  have hl : lv_has ls 2 [(0, .ref h6)] := hl
  have L22 : ∀ (n : Nat) {x1 : Int32} {ms : Nat → Int32} {mk : Int32} {H : Heap} {locs : List Loc} {ls : Array Slot}, wX6_undo_L22 mp mk Q n x1 ms → va_P D vwCl [(h6, .inr (6, [.ref a_mt, .int my, .ref a_mo, .ref a_md, .ref a_mb, .ref a_ms, .ref a_mp, .int mk, .ref a_mi, .int mq, .ref a_mn, .int mz, .int ma, .ref a_mh, .ref a_mg, .ref a_mr, .ref a_mx])), (a_mt, .inl (cI, 200, .inl mt)), (a_mo, .inl (cI, 16, .inl mo)), (a_md, .inl (cI, 16, .inl md)), (a_mb, .inl (cI, 56, .inl mb)), (a_ms, .inl (cI, 56, .inl ms)), (a_mp, .inl (cI, 448, .inl mp)), (a_mi, .inl (cI, 112, .inl mi)), (a_mn, .inl (cI, 12, .inl mn)), (a_mh, .inl (cI, 42, .inl mh)), (a_mg, .inl (cI, 56, .inl mg)), (a_mr, .inl (cI, 6, .inl mr)), (a_mx, .inl (cI, 6, .inl mx))] H → va_D A [(h6, .inr (6, [.ref a_mt, .int my, .ref a_mo, .ref a_md, .ref a_mb, .ref a_ms, .ref a_mp, .int mk, .ref a_mi, .int mq, .ref a_mn, .int mz, .int ma, .ref a_mh, .ref a_mg, .ref a_mr, .ref a_mx])), (a_mt, .inl (cI, 200, .inl mt)), (a_mo, .inl (cI, 16, .inl mo)), (a_md, .inl (cI, 16, .inl md)), (a_mb, .inl (cI, 56, .inl mb)), (a_ms, .inl (cI, 56, .inl ms)), (a_mp, .inl (cI, 448, .inl mp)), (a_mi, .inl (cI, 112, .inl mi)), (a_mn, .inl (cI, 12, .inl mn)), (a_mh, .inl (cI, 42, .inl mh)), (a_mg, .inl (cI, 56, .inl mg)), (a_mr, .inl (cI, 6, .inl mr)), (a_mx, .inl (cI, 6, .inl mx))] → va_S A s.heap H locs → lv_has ls 2 [(0, .ref h6), (1, .int x1)] → W p l e rmX6_undo s m args below meth c H locs 0 0 Z (F0 m 22 ls []) := by
    intro n
    induction n with
    | zero =>
      intro x1 ms mk H locs ls h hP hD hS hl
      exact (show False from h).elim
    | succ n ih =>
      intro x1 ms mk H locs ls h hP hD hS hl
      refine lv_iload_n hx hb dX6_undo_22 rfl (lv_at hl 1 rfl) ?_
      refine lv_bipush (v := 56) hx hb dX6_undo_23 (by decide) ?_
      refine lv_icmp_ge (tgt := 54) hx hb dX6_undo_25 (by decide) (fun c_3 => ?_) (fun c_3 => ?_)
      · have h := h.1 c_3
        refine lv_aload_n hx hb dX6_undo_54 rfl (lv_at hl 0 rfl) ?_
        refine va_get (D := D) (ci := 6) (v := .int mk) (C := RX6) (T := TX6) (N := 17) hx hb hts hin6 hown hK.1 hP 0 rfl rfl 7 (by decide) (k_0) (fun _ h9 => h9) rfl dX6_undo_55 ?_
        exact hret mk (ms, mk) _ _ _ ls h hP hD hS dX6_undo_58
      · have h := h.2 c_3
        refine lv_aload_n hx hb dX6_undo_28 rfl (lv_at hl 0 rfl) ?_
        refine va_get (D := D) (ci := 6) (v := .ref a_ms) (C := RX6) (T := TX6) (N := 17) hx hb hts hin6 hown hK.1 hP 0 rfl rfl 5 (by decide) (k_1) (fun _ h9 => h9) rfl dX6_undo_29 ?_
        refine lv_iload_n hx hb dX6_undo_32 rfl (lv_at hl 1 rfl) ?_
        refine lv_aload_n hx hb dX6_undo_33 rfl (lv_at hl 0 rfl) ?_
        refine va_get (D := D) (ci := 6) (v := .ref a_mp) (C := RX6) (T := TX6) (N := 17) hx hb hts hin6 hown hK.1 hP 0 rfl rfl 6 (by decide) (k_2) (fun _ h9 => h9) rfl dX6_undo_34 ?_
        refine lv_bipush (v := 56) hx hb dX6_undo_37 (by decide) ?_
        refine lv_aload_n hx hb dX6_undo_39 rfl (lv_at hl 0 rfl) ?_
        refine va_get (D := D) (ci := 6) (v := .int mk) (C := RX6) (T := TX6) (N := 17) hx hb hts hin6 hown hK.1 hP 0 rfl rfl 7 (by decide) (k_0) (fun _ h9 => h9) rfl dX6_undo_40 ?_
        refine lv_imul hx hb dX6_undo_43 ?_
        refine lv_iload_n hx hb dX6_undo_44 rfl (lv_at hl 1 rfl) ?_
        refine lv_iadd hx hb dX6_undo_45 ?_
        refine z_iald (k := (((56 : Int32) * mk) + x1).toNatClampNeg) hx hb hK.1 hP 6 rfl rfl h.1 dX6_undo_46 ?_
        have h := h.2
        refine z_iast (k := x1.toNatClampNeg) hx hb hK.1 hP hD hS 5 rfl rfl h.1 dX6_undo_47 (fun H locs hP hD hS => ?_)
        have h := h.2
        have hP : va_P D vwCl [(h6, .inr (6, [.ref a_mt, .int my, .ref a_mo, .ref a_md, .ref a_mb, .ref a_ms, .ref a_mp, .int mk, .ref a_mi, .int mq, .ref a_mn, .int mz, .int ma, .ref a_mh, .ref a_mg, .ref a_mr, .ref a_mx])), (a_mt, .inl (cI, 200, .inl mt)), (a_mo, .inl (cI, 16, .inl mo)), (a_md, .inl (cI, 16, .inl md)), (a_mb, .inl (cI, 56, .inl mb)), (a_ms, .inl (cI, 56, .inl (upd ms x1.toNatClampNeg (mp ((((56 : Int32) * mk) + x1).toNatClampNeg))))), (a_mp, .inl (cI, 448, .inl mp)), (a_mi, .inl (cI, 112, .inl mi)), (a_mn, .inl (cI, 12, .inl mn)), (a_mh, .inl (cI, 42, .inl mh)), (a_mg, .inl (cI, 56, .inl mg)), (a_mr, .inl (cI, 6, .inl mr)), (a_mx, .inl (cI, 6, .inl mx))] H := hP
        have hD : va_D A [(h6, .inr (6, [.ref a_mt, .int my, .ref a_mo, .ref a_md, .ref a_mb, .ref a_ms, .ref a_mp, .int mk, .ref a_mi, .int mq, .ref a_mn, .int mz, .int ma, .ref a_mh, .ref a_mg, .ref a_mr, .ref a_mx])), (a_mt, .inl (cI, 200, .inl mt)), (a_mo, .inl (cI, 16, .inl mo)), (a_md, .inl (cI, 16, .inl md)), (a_mb, .inl (cI, 56, .inl mb)), (a_ms, .inl (cI, 56, .inl (upd ms x1.toNatClampNeg (mp ((((56 : Int32) * mk) + x1).toNatClampNeg))))), (a_mp, .inl (cI, 448, .inl mp)), (a_mi, .inl (cI, 112, .inl mi)), (a_mn, .inl (cI, 12, .inl mn)), (a_mh, .inl (cI, 42, .inl mh)), (a_mg, .inl (cI, 56, .inl mg)), (a_mr, .inl (cI, 6, .inl mr)), (a_mx, .inl (cI, 6, .inl mx))] := hD
        refine lv_iinc (v := (x1 + (1 : Int32))) (lv' := [(1, .int (x1 + (1 : Int32))), (0, .ref h6)]) hx hb dX6_undo_48 hl (k := 1) rfl rfl (by decide) rfl (fun ls hl => ?_)
        refine lv_goto (tgt := 22) hx hb dX6_undo_51 (by decide) ?_
        exact ih h hP hD hS (lv_sub hl [1, 0] rfl)
  refine lv_aload_n hx hb dX6_undo_0 rfl (lv_at hl 0 rfl) ?_
  refine va_get (D := D) (ci := 6) (v := .int mk) (C := RX6) (T := TX6) (N := 17) hx hb hts hin6 hown hK.1 hP 0 rfl rfl 7 (by decide) (k_0) (fun _ h9 => h9) rfl dX6_undo_1 ?_
  refine lv_if_ne (tgt := 10) hx hb dX6_undo_4 (by decide) (fun c_1 => ?_) (fun c_1 => ?_)
  · have h := h.2 c_1
    refine lv_aload_n hx hb dX6_undo_10 rfl (lv_at hl 0 rfl) ?_
    refine lv_dup hx hb dX6_undo_11 rfl ?_
    refine va_get (D := D) (ci := 6) (v := .int mk) (C := RX6) (T := TX6) (N := 17) hx hb hts hin6 hown hK.1 hP 0 rfl rfl 7 (by decide) (k_0) (fun _ h9 => h9) rfl dX6_undo_12 ?_
    refine lv_iconst (v := 1) hx hb dX6_undo_15 (by decide) ?_
    refine lv_isub hx hb dX6_undo_16 ?_
    refine va_put (D := D) (ci := 6) (v := .int (mk - (1 : Int32))) (ty := .int) (C := RX6) (T := TX6) (N := 17) hx hb hts hin6 tyX6 tyX6_ok nmX6 hown hK.1 hP hD hS 0 rfl rfl 7 (by decide) (k_0) (fun _ h9 => h9) rfl (by decide +kernel) rfl rfl (Nat.le_of_ble_eq_true rfl) dX6_undo_17 (fun H locs hP hD hS => ?_)
    have hP : va_P D vwCl [(h6, .inr (6, [.ref a_mt, .int my, .ref a_mo, .ref a_md, .ref a_mb, .ref a_ms, .ref a_mp, .int (mk - (1 : Int32)), .ref a_mi, .int mq, .ref a_mn, .int mz, .int ma, .ref a_mh, .ref a_mg, .ref a_mr, .ref a_mx])), (a_mt, .inl (cI, 200, .inl mt)), (a_mo, .inl (cI, 16, .inl mo)), (a_md, .inl (cI, 16, .inl md)), (a_mb, .inl (cI, 56, .inl mb)), (a_ms, .inl (cI, 56, .inl ms)), (a_mp, .inl (cI, 448, .inl mp)), (a_mi, .inl (cI, 112, .inl mi)), (a_mn, .inl (cI, 12, .inl mn)), (a_mh, .inl (cI, 42, .inl mh)), (a_mg, .inl (cI, 56, .inl mg)), (a_mr, .inl (cI, 6, .inl mr)), (a_mx, .inl (cI, 6, .inl mx))] H := hP
    have hD : va_D A [(h6, .inr (6, [.ref a_mt, .int my, .ref a_mo, .ref a_md, .ref a_mb, .ref a_ms, .ref a_mp, .int (mk - (1 : Int32)), .ref a_mi, .int mq, .ref a_mn, .int mz, .int ma, .ref a_mh, .ref a_mg, .ref a_mr, .ref a_mx])), (a_mt, .inl (cI, 200, .inl mt)), (a_mo, .inl (cI, 16, .inl mo)), (a_md, .inl (cI, 16, .inl md)), (a_mb, .inl (cI, 56, .inl mb)), (a_ms, .inl (cI, 56, .inl ms)), (a_mp, .inl (cI, 448, .inl mp)), (a_mi, .inl (cI, 112, .inl mi)), (a_mn, .inl (cI, 12, .inl mn)), (a_mh, .inl (cI, 42, .inl mh)), (a_mg, .inl (cI, 56, .inl mg)), (a_mr, .inl (cI, 6, .inl mr)), (a_mx, .inl (cI, 6, .inl mx))] := hD
    refine lv_iconst (v := 0) hx hb dX6_undo_20 (by decide) ?_
    refine lv_istore_n (lv' := [(1, .int (0 : Int32)), (0, .ref h6)]) hx hb dX6_undo_21 rfl hl (by decide) rfl (fun ls hl => ?_)
    obtain ⟨n_4, h⟩ := h
    exact L22 n_4 h hP hD hS (lv_sub hl [1, 0] rfl)
  · have h := h.1 c_1
    refine lv_bipush (v := -2) hx hb dX6_undo_7 (by decide) ?_
    exact hret (-2 : Int32) (ms, mk) _ _ _ ls h hP hD hS dX6_undo_9
