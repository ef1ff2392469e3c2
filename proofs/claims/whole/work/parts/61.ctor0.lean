/-! DoubtCourt$Court, the constructor -/
abbrev rmX0_init : Room := { frames := 1, cells := 6, slots := 76, locals := 12 }
theorem yoX0_init : yX0_init.cls ≠ "java/lang/invoke/MethodHandle" ∧ yX0_init.cls ≠ "java/lang/invoke/VarHandle" ∧ (parseMethodDescriptor yX0_init.desc).map (fun d => d.parameters.length) = some 0 := by decide +kernel
set_option maxHeartbeats 4000000 in
set_option maxRecDepth 100000 in
theorem c_X0_init (K V : Nat) (b : Nat → Int32) (l : Launch) (D : va_G) (cI cC cQ : ClassId) (h0 : Nat) : Ck (S := Nat × Nat × Nat × Nat × Nat × Nat) K V b l D cI cC cQ yX0_init wsX0_init rmX0_init [.ref h0] [(h0, .inr (0, [.null, .null, .null, .null, .null, .null, .int 0, .int 0, .int 0]))] (fun u => [(h0, .inr (0, [.ref u.1, .ref u.2.1, .ref u.2.2.1, .ref u.2.2.2.1, .ref u.2.2.2.2.1, .ref u.2.2.2.2.2, .int 0, .int 0, .int 0])), (u.1, .inl (cI, 7, .inl (fun _ => 0))), (u.2.1, .inl (cI, 7, .inl (fun _ => 0))), (u.2.2.1, .inl (cI, 7, .inl (fun _ => 0))), (u.2.2.2.1, .inl (cI, 7, .inl (fun _ => 0))), (u.2.2.2.2.1, .inl (cI, 6, .inl (fun _ => 0))), (u.2.2.2.2.2, .inl (cI, 42, .inl (fun _ => 0)))]) (fun _ => True) := by
  refine Ck_mk (cc := cX0_init) (maxL := 1) (by decide) rfl (Nat.le_of_ble_eq_true rfl) rfl ?_
  intro p e s m args below meth c A Z ls hx hb hml hown hts hK hE hA hP hD hin hret hl
  have hS : va_S A s.heap s.heap [] := va_S.rf
  have hin0 : ∀ w ∈ u_ws RX0 TX0 9, w ∈ wsX0_init := by decide +kernel
  have hl : lv_has ls 1 [(0, .ref h0)] := hl
  refine lv_aload_n hx hb dX0_init_0 rfl (lv_at hl 0 rfl) ?_
  refine W.objInit hx hb hown (hts (.methodLink RX0 3 objectInit) (by decide +kernel)) (hts (.instanceMethod objectInit) (by decide +kernel)) (hts (.code objectInit ⟨#[0xb1]⟩ 1 none) (by decide +kernel)) rfl (by rw [hml]; exact hl.1) rfl dX0_init_1 (Nat.le_of_ble_eq_true rfl) (Nat.le_of_ble_eq_true rfl) ?_
  refine W.eq (g2 := F0 m 4 ls []) rfl ?_
  refine lv_aload_n hx hb dX0_init_4 rfl (lv_at hl 0 rfl) ?_
  refine lv_bipush (v := 7) hx hb dX0_init_5 (by decide) ?_
  refine z_newi (N := 7) hx hb (hts (.arrayClass .int) (by decide +kernel)) hK.1 hP hD hS hA (by decide) rfl (Nat.le_of_ble_eq_true rfl) (Nat.le_of_ble_eq_true rfl) (Nat.le_of_ble_eq_true rfl) dX0_init_7 (fun q_kd H hP hD hS => ?_)
  have hP : va_P D vwCl [(h0, .inr (0, [.null, .null, .null, .null, .null, .null, .int 0, .int 0, .int 0])), (q_kd, .inl (cI, 7, .inl (fun _ => 0)))] H := hP
  have hD : va_D A [(h0, .inr (0, [.null, .null, .null, .null, .null, .null, .int 0, .int 0, .int 0])), (q_kd, .inl (cI, 7, .inl (fun _ => 0)))] := hD
  refine W.widen (k := 1) (n := 7) (Nat.le_of_ble_eq_true rfl) (Nat.le_of_ble_eq_true rfl) ?_
  refine va_putF (D := D) (ci := 0) (v := .ref q_kd) (ty := .array .int) (C := RX0) (T := TX0) (N := 9) hx hb hts hin0 tyX0 tyX0_ok nmX0 hown hK.1 hP hD hS 0 rfl rfl 0 (by decide) (hts (.fieldLink RX0 9 "DoubtCourt$Court" "kind" "[I") (by decide +kernel)) (fun _ h9 => h9) rfl hin rfl (by decide +kernel) rfl rfl (Nat.le_of_ble_eq_true rfl) dX0_init_9 (fun H locs hP hD hS => ?_)
  have hP : va_P D vwCl [(h0, .inr (0, [.ref q_kd, .null, .null, .null, .null, .null, .int 0, .int 0, .int 0])), (q_kd, .inl (cI, 7, .inl (fun _ => 0)))] H := hP
  have hD : va_D A [(h0, .inr (0, [.ref q_kd, .null, .null, .null, .null, .null, .int 0, .int 0, .int 0])), (q_kd, .inl (cI, 7, .inl (fun _ => 0)))] := hD
  refine lv_aload_n hx hb dX0_init_12 rfl (lv_at hl 0 rfl) ?_
  refine lv_bipush (v := 7) hx hb dX0_init_13 (by decide) ?_
  refine z_newi (N := 7) hx hb (hts (.arrayClass .int) (by decide +kernel)) hK.1 hP hD hS hA (by decide) rfl (Nat.le_of_ble_eq_true rfl) (Nat.le_of_ble_eq_true rfl) (Nat.le_of_ble_eq_true rfl) dX0_init_15 (fun q_hd H hP hD hS => ?_)
  have hP : va_P D vwCl [(h0, .inr (0, [.ref q_kd, .null, .null, .null, .null, .null, .int 0, .int 0, .int 0])), (q_kd, .inl (cI, 7, .inl (fun _ => 0))), (q_hd, .inl (cI, 7, .inl (fun _ => 0)))] H := hP
  have hD : va_D A [(h0, .inr (0, [.ref q_kd, .null, .null, .null, .null, .null, .int 0, .int 0, .int 0])), (q_kd, .inl (cI, 7, .inl (fun _ => 0))), (q_hd, .inl (cI, 7, .inl (fun _ => 0)))] := hD
  refine W.widen (k := 2) (n := 14) (Nat.le_of_ble_eq_true rfl) (Nat.le_of_ble_eq_true rfl) ?_
  refine va_putF (D := D) (ci := 0) (v := .ref q_hd) (ty := .array .int) (C := RX0) (T := TX0) (N := 9) hx hb hts hin0 tyX0 tyX0_ok nmX0 hown hK.1 hP hD hS 0 rfl rfl 1 (by decide) (hts (.fieldLink RX0 15 "DoubtCourt$Court" "heeded" "[I") (by decide +kernel)) (fun _ h9 => h9) rfl hin rfl (by decide +kernel) rfl rfl (Nat.le_of_ble_eq_true rfl) dX0_init_17 (fun H locs hP hD hS => ?_)
  have hP : va_P D vwCl [(h0, .inr (0, [.ref q_kd, .ref q_hd, .null, .null, .null, .null, .int 0, .int 0, .int 0])), (q_kd, .inl (cI, 7, .inl (fun _ => 0))), (q_hd, .inl (cI, 7, .inl (fun _ => 0)))] H := hP
  have hD : va_D A [(h0, .inr (0, [.ref q_kd, .ref q_hd, .null, .null, .null, .null, .int 0, .int 0, .int 0])), (q_kd, .inl (cI, 7, .inl (fun _ => 0))), (q_hd, .inl (cI, 7, .inl (fun _ => 0)))] := hD
  refine lv_aload_n hx hb dX0_init_20 rfl (lv_at hl 0 rfl) ?_
  refine lv_bipush (v := 7) hx hb dX0_init_21 (by decide) ?_
  refine z_newi (N := 7) hx hb (hts (.arrayClass .int) (by decide +kernel)) hK.1 hP hD hS hA (by decide) rfl (Nat.le_of_ble_eq_true rfl) (Nat.le_of_ble_eq_true rfl) (Nat.le_of_ble_eq_true rfl) dX0_init_23 (fun q_pl H hP hD hS => ?_)
  have hP : va_P D vwCl [(h0, .inr (0, [.ref q_kd, .ref q_hd, .null, .null, .null, .null, .int 0, .int 0, .int 0])), (q_kd, .inl (cI, 7, .inl (fun _ => 0))), (q_hd, .inl (cI, 7, .inl (fun _ => 0))), (q_pl, .inl (cI, 7, .inl (fun _ => 0)))] H := hP
  have hD : va_D A [(h0, .inr (0, [.ref q_kd, .ref q_hd, .null, .null, .null, .null, .int 0, .int 0, .int 0])), (q_kd, .inl (cI, 7, .inl (fun _ => 0))), (q_hd, .inl (cI, 7, .inl (fun _ => 0))), (q_pl, .inl (cI, 7, .inl (fun _ => 0)))] := hD
  refine W.widen (k := 3) (n := 21) (Nat.le_of_ble_eq_true rfl) (Nat.le_of_ble_eq_true rfl) ?_
  refine va_putF (D := D) (ci := 0) (v := .ref q_pl) (ty := .array .int) (C := RX0) (T := TX0) (N := 9) hx hb hts hin0 tyX0 tyX0_ok nmX0 hown hK.1 hP hD hS 0 rfl rfl 2 (by decide) (hts (.fieldLink RX0 18 "DoubtCourt$Court" "place" "[I") (by decide +kernel)) (fun _ h9 => h9) rfl hin rfl (by decide +kernel) rfl rfl (Nat.le_of_ble_eq_true rfl) dX0_init_25 (fun H locs hP hD hS => ?_)
  have hP : va_P D vwCl [(h0, .inr (0, [.ref q_kd, .ref q_hd, .ref q_pl, .null, .null, .null, .int 0, .int 0, .int 0])), (q_kd, .inl (cI, 7, .inl (fun _ => 0))), (q_hd, .inl (cI, 7, .inl (fun _ => 0))), (q_pl, .inl (cI, 7, .inl (fun _ => 0)))] H := hP
  have hD : va_D A [(h0, .inr (0, [.ref q_kd, .ref q_hd, .ref q_pl, .null, .null, .null, .int 0, .int 0, .int 0])), (q_kd, .inl (cI, 7, .inl (fun _ => 0))), (q_hd, .inl (cI, 7, .inl (fun _ => 0))), (q_pl, .inl (cI, 7, .inl (fun _ => 0)))] := hD
  refine lv_aload_n hx hb dX0_init_28 rfl (lv_at hl 0 rfl) ?_
  refine lv_bipush (v := 7) hx hb dX0_init_29 (by decide) ?_
  refine z_newi (N := 7) hx hb (hts (.arrayClass .int) (by decide +kernel)) hK.1 hP hD hS hA (by decide) rfl (Nat.le_of_ble_eq_true rfl) (Nat.le_of_ble_eq_true rfl) (Nat.le_of_ble_eq_true rfl) dX0_init_31 (fun q_st H hP hD hS => ?_)
  have hP : va_P D vwCl [(h0, .inr (0, [.ref q_kd, .ref q_hd, .ref q_pl, .null, .null, .null, .int 0, .int 0, .int 0])), (q_kd, .inl (cI, 7, .inl (fun _ => 0))), (q_hd, .inl (cI, 7, .inl (fun _ => 0))), (q_pl, .inl (cI, 7, .inl (fun _ => 0))), (q_st, .inl (cI, 7, .inl (fun _ => 0)))] H := hP
  have hD : va_D A [(h0, .inr (0, [.ref q_kd, .ref q_hd, .ref q_pl, .null, .null, .null, .int 0, .int 0, .int 0])), (q_kd, .inl (cI, 7, .inl (fun _ => 0))), (q_hd, .inl (cI, 7, .inl (fun _ => 0))), (q_pl, .inl (cI, 7, .inl (fun _ => 0))), (q_st, .inl (cI, 7, .inl (fun _ => 0)))] := hD
  refine W.widen (k := 4) (n := 28) (Nat.le_of_ble_eq_true rfl) (Nat.le_of_ble_eq_true rfl) ?_
  refine va_putF (D := D) (ci := 0) (v := .ref q_st) (ty := .array .int) (C := RX0) (T := TX0) (N := 9) hx hb hts hin0 tyX0 tyX0_ok nmX0 hown hK.1 hP hD hS 0 rfl rfl 3 (by decide) (hts (.fieldLink RX0 21 "DoubtCourt$Court" "sitting" "[I") (by decide +kernel)) (fun _ h9 => h9) rfl hin rfl (by decide +kernel) rfl rfl (Nat.le_of_ble_eq_true rfl) dX0_init_33 (fun H locs hP hD hS => ?_)
  have hP : va_P D vwCl [(h0, .inr (0, [.ref q_kd, .ref q_hd, .ref q_pl, .ref q_st, .null, .null, .int 0, .int 0, .int 0])), (q_kd, .inl (cI, 7, .inl (fun _ => 0))), (q_hd, .inl (cI, 7, .inl (fun _ => 0))), (q_pl, .inl (cI, 7, .inl (fun _ => 0))), (q_st, .inl (cI, 7, .inl (fun _ => 0)))] H := hP
  have hD : va_D A [(h0, .inr (0, [.ref q_kd, .ref q_hd, .ref q_pl, .ref q_st, .null, .null, .int 0, .int 0, .int 0])), (q_kd, .inl (cI, 7, .inl (fun _ => 0))), (q_hd, .inl (cI, 7, .inl (fun _ => 0))), (q_pl, .inl (cI, 7, .inl (fun _ => 0))), (q_st, .inl (cI, 7, .inl (fun _ => 0)))] := hD
  refine lv_aload_n hx hb dX0_init_36 rfl (lv_at hl 0 rfl) ?_
  refine lv_bipush (v := 6) hx hb dX0_init_37 (by decide) ?_
  refine z_newi (N := 6) hx hb (hts (.arrayClass .int) (by decide +kernel)) hK.1 hP hD hS hA (by decide) rfl (Nat.le_of_ble_eq_true rfl) (Nat.le_of_ble_eq_true rfl) (Nat.le_of_ble_eq_true rfl) dX0_init_39 (fun q_ho H hP hD hS => ?_)
  have hP : va_P D vwCl [(h0, .inr (0, [.ref q_kd, .ref q_hd, .ref q_pl, .ref q_st, .null, .null, .int 0, .int 0, .int 0])), (q_kd, .inl (cI, 7, .inl (fun _ => 0))), (q_hd, .inl (cI, 7, .inl (fun _ => 0))), (q_pl, .inl (cI, 7, .inl (fun _ => 0))), (q_st, .inl (cI, 7, .inl (fun _ => 0))), (q_ho, .inl (cI, 6, .inl (fun _ => 0)))] H := hP
  have hD : va_D A [(h0, .inr (0, [.ref q_kd, .ref q_hd, .ref q_pl, .ref q_st, .null, .null, .int 0, .int 0, .int 0])), (q_kd, .inl (cI, 7, .inl (fun _ => 0))), (q_hd, .inl (cI, 7, .inl (fun _ => 0))), (q_pl, .inl (cI, 7, .inl (fun _ => 0))), (q_st, .inl (cI, 7, .inl (fun _ => 0))), (q_ho, .inl (cI, 6, .inl (fun _ => 0)))] := hD
  refine W.widen (k := 5) (n := 34) (Nat.le_of_ble_eq_true rfl) (Nat.le_of_ble_eq_true rfl) ?_
  refine va_putF (D := D) (ci := 0) (v := .ref q_ho) (ty := .array .int) (C := RX0) (T := TX0) (N := 9) hx hb hts hin0 tyX0 tyX0_ok nmX0 hown hK.1 hP hD hS 0 rfl rfl 4 (by decide) (hts (.fieldLink RX0 24 "DoubtCourt$Court" "holder" "[I") (by decide +kernel)) (fun _ h9 => h9) rfl hin rfl (by decide +kernel) rfl rfl (Nat.le_of_ble_eq_true rfl) dX0_init_41 (fun H locs hP hD hS => ?_)
  have hP : va_P D vwCl [(h0, .inr (0, [.ref q_kd, .ref q_hd, .ref q_pl, .ref q_st, .ref q_ho, .null, .int 0, .int 0, .int 0])), (q_kd, .inl (cI, 7, .inl (fun _ => 0))), (q_hd, .inl (cI, 7, .inl (fun _ => 0))), (q_pl, .inl (cI, 7, .inl (fun _ => 0))), (q_st, .inl (cI, 7, .inl (fun _ => 0))), (q_ho, .inl (cI, 6, .inl (fun _ => 0)))] H := hP
  have hD : va_D A [(h0, .inr (0, [.ref q_kd, .ref q_hd, .ref q_pl, .ref q_st, .ref q_ho, .null, .int 0, .int 0, .int 0])), (q_kd, .inl (cI, 7, .inl (fun _ => 0))), (q_hd, .inl (cI, 7, .inl (fun _ => 0))), (q_pl, .inl (cI, 7, .inl (fun _ => 0))), (q_st, .inl (cI, 7, .inl (fun _ => 0))), (q_ho, .inl (cI, 6, .inl (fun _ => 0)))] := hD
  refine lv_aload_n hx hb dX0_init_44 rfl (lv_at hl 0 rfl) ?_
  refine lv_bipush (v := 42) hx hb dX0_init_45 (by decide) ?_
  refine z_newi (N := 42) hx hb (hts (.arrayClass .int) (by decide +kernel)) hK.1 hP hD hS hA (by decide) rfl (Nat.le_of_ble_eq_true rfl) (Nat.le_of_ble_eq_true rfl) (Nat.le_of_ble_eq_true rfl) dX0_init_47 (fun q_be H hP hD hS => ?_)
  have hP : va_P D vwCl [(h0, .inr (0, [.ref q_kd, .ref q_hd, .ref q_pl, .ref q_st, .ref q_ho, .null, .int 0, .int 0, .int 0])), (q_kd, .inl (cI, 7, .inl (fun _ => 0))), (q_hd, .inl (cI, 7, .inl (fun _ => 0))), (q_pl, .inl (cI, 7, .inl (fun _ => 0))), (q_st, .inl (cI, 7, .inl (fun _ => 0))), (q_ho, .inl (cI, 6, .inl (fun _ => 0))), (q_be, .inl (cI, 42, .inl (fun _ => 0)))] H := hP
  have hD : va_D A [(h0, .inr (0, [.ref q_kd, .ref q_hd, .ref q_pl, .ref q_st, .ref q_ho, .null, .int 0, .int 0, .int 0])), (q_kd, .inl (cI, 7, .inl (fun _ => 0))), (q_hd, .inl (cI, 7, .inl (fun _ => 0))), (q_pl, .inl (cI, 7, .inl (fun _ => 0))), (q_st, .inl (cI, 7, .inl (fun _ => 0))), (q_ho, .inl (cI, 6, .inl (fun _ => 0))), (q_be, .inl (cI, 42, .inl (fun _ => 0)))] := hD
  refine W.widen (k := 6) (n := 76) (Nat.le_of_ble_eq_true rfl) (Nat.le_of_ble_eq_true rfl) ?_
  refine va_putF (D := D) (ci := 0) (v := .ref q_be) (ty := .array .int) (C := RX0) (T := TX0) (N := 9) hx hb hts hin0 tyX0 tyX0_ok nmX0 hown hK.1 hP hD hS 0 rfl rfl 5 (by decide) (hts (.fieldLink RX0 27 "DoubtCourt$Court" "believed" "[I") (by decide +kernel)) (fun _ h9 => h9) rfl hin rfl (by decide +kernel) rfl rfl (Nat.le_of_ble_eq_true rfl) dX0_init_49 (fun H locs hP hD hS => ?_)
  have hP : va_P D vwCl [(h0, .inr (0, [.ref q_kd, .ref q_hd, .ref q_pl, .ref q_st, .ref q_ho, .ref q_be, .int 0, .int 0, .int 0])), (q_kd, .inl (cI, 7, .inl (fun _ => 0))), (q_hd, .inl (cI, 7, .inl (fun _ => 0))), (q_pl, .inl (cI, 7, .inl (fun _ => 0))), (q_st, .inl (cI, 7, .inl (fun _ => 0))), (q_ho, .inl (cI, 6, .inl (fun _ => 0))), (q_be, .inl (cI, 42, .inl (fun _ => 0)))] H := hP
  have hD : va_D A [(h0, .inr (0, [.ref q_kd, .ref q_hd, .ref q_pl, .ref q_st, .ref q_ho, .ref q_be, .int 0, .int 0, .int 0])), (q_kd, .inl (cI, 7, .inl (fun _ => 0))), (q_hd, .inl (cI, 7, .inl (fun _ => 0))), (q_pl, .inl (cI, 7, .inl (fun _ => 0))), (q_st, .inl (cI, 7, .inl (fun _ => 0))), (q_ho, .inl (cI, 6, .inl (fun _ => 0))), (q_be, .inl (cI, 42, .inl (fun _ => 0)))] := hD
  exact hret (q_kd, q_hd, q_pl, q_st, q_ho, q_be) _ _ _ ls trivial hP hD hS dX0_init_52
/-! DoubtCourt$Offices, the constructor -/
abbrev rmX1_init : Room := { frames := 1, cells := 1, slots := 896, locals := 12 }
theorem yoX1_init : yX1_init.cls ≠ "java/lang/invoke/MethodHandle" ∧ yX1_init.cls ≠ "java/lang/invoke/VarHandle" ∧ (parseMethodDescriptor yX1_init.desc).map (fun d => d.parameters.length) = some 0 := by decide +kernel
set_option maxHeartbeats 4000000 in
set_option maxRecDepth 100000 in
theorem c_X1_init (K V : Nat) (b : Nat → Int32) (l : Launch) (D : va_G) (cI cC cQ : ClassId) (h1 : Nat) : Ck (S := Nat) K V b l D cI cC cQ yX1_init wsX1_init rmX1_init [.ref h1] [(h1, .inr (1, [.null]))] (fun u => [(h1, .inr (1, [.ref u])), (u, .inl (cI, 896, .inl (fun _ => 0)))]) (fun _ => True) := by
  refine Ck_mk (cc := cX1_init) (maxL := 1) (by decide) rfl (Nat.le_of_ble_eq_true rfl) rfl ?_
  intro p e s m args below meth c A Z ls hx hb hml hown hts hK hE hA hP hD hin hret hl
  have hS : va_S A s.heap s.heap [] := va_S.rf
  have hin0 : ∀ w ∈ u_ws RX1 TX1 1, w ∈ wsX1_init := by decide +kernel
  have hl : lv_has ls 1 [(0, .ref h1)] := hl
  refine lv_aload_n hx hb dX1_init_0 rfl (lv_at hl 0 rfl) ?_
  refine W.objInit hx hb hown (hts (.methodLink RX1 3 objectInit) (by decide +kernel)) (hts (.instanceMethod objectInit) (by decide +kernel)) (hts (.code objectInit ⟨#[0xb1]⟩ 1 none) (by decide +kernel)) rfl (by rw [hml]; exact hl.1) rfl dX1_init_1 (Nat.le_of_ble_eq_true rfl) (Nat.le_of_ble_eq_true rfl) ?_
  refine W.eq (g2 := F0 m 4 ls []) rfl ?_
  refine lv_aload_n hx hb dX1_init_4 rfl (lv_at hl 0 rfl) ?_
  refine lv_sipush (v := 896) hx hb dX1_init_5 (by decide) ?_
  refine z_newi (N := 896) hx hb (hts (.arrayClass .int) (by decide +kernel)) hK.1 hP hD hS hA (by decide) rfl (Nat.le_of_ble_eq_true rfl) (Nat.le_of_ble_eq_true rfl) (Nat.le_of_ble_eq_true rfl) dX1_init_8 (fun q_om H hP hD hS => ?_)
  have hP : va_P D vwCl [(h1, .inr (1, [.null])), (q_om, .inl (cI, 896, .inl (fun _ => 0)))] H := hP
  have hD : va_D A [(h1, .inr (1, [.null])), (q_om, .inl (cI, 896, .inl (fun _ => 0)))] := hD
  refine W.widen (k := 1) (n := 896) (Nat.le_of_ble_eq_true rfl) (Nat.le_of_ble_eq_true rfl) ?_
  refine va_putF (D := D) (ci := 1) (v := .ref q_om) (ty := .array .int) (C := RX1) (T := TX1) (N := 1) hx hb hts hin0 tyX1 tyX1_ok nmX1 hown hK.1 hP hD hS 0 rfl rfl 0 (by decide) (hts (.fieldLink RX1 9 "DoubtCourt$Offices" "most" "[I") (by decide +kernel)) (fun _ h9 => h9) rfl hin rfl (by decide +kernel) rfl rfl (Nat.le_of_ble_eq_true rfl) dX1_init_10 (fun H locs hP hD hS => ?_)
  have hP : va_P D vwCl [(h1, .inr (1, [.ref q_om])), (q_om, .inl (cI, 896, .inl (fun _ => 0)))] H := hP
  have hD : va_D A [(h1, .inr (1, [.ref q_om])), (q_om, .inl (cI, 896, .inl (fun _ => 0)))] := hD
  exact hret q_om _ _ _ ls trivial hP hD hS dX1_init_13
/-! DoubtCourt$Sightings, the constructor -/
abbrev rmX3_init : Room := { frames := 1, cells := 2, slots := 12, locals := 12 }
theorem yoX3_init : yX3_init.cls ≠ "java/lang/invoke/MethodHandle" ∧ yX3_init.cls ≠ "java/lang/invoke/VarHandle" ∧ (parseMethodDescriptor yX3_init.desc).map (fun d => d.parameters.length) = some 0 := by decide +kernel
set_option maxHeartbeats 4000000 in
set_option maxRecDepth 100000 in
theorem c_X3_init (K V : Nat) (b : Nat → Int32) (l : Launch) (D : va_G) (cI cC cQ : ClassId) (h3 : Nat) : Ck (S := Nat × Nat) K V b l D cI cC cQ yX3_init wsX3_init rmX3_init [.ref h3] [(h3, .inr (3, [.null, .null, .int 0]))] (fun u => [(h3, .inr (3, [.ref u.1, .ref u.2, .int 0])), (u.1, .inl (cI, 6, .inl (fun _ => 0))), (u.2, .inl (cI, 6, .inl (fun _ => 0)))]) (fun _ => True) := by
  refine Ck_mk (cc := cX3_init) (maxL := 1) (by decide) rfl (Nat.le_of_ble_eq_true rfl) rfl ?_
  intro p e s m args below meth c A Z ls hx hb hml hown hts hK hE hA hP hD hin hret hl
  have hS : va_S A s.heap s.heap [] := va_S.rf
  have hin0 : ∀ w ∈ u_ws RX3 TX3 3, w ∈ wsX3_init := by decide +kernel
  have hl : lv_has ls 1 [(0, .ref h3)] := hl
  refine lv_aload_n hx hb dX3_init_0 rfl (lv_at hl 0 rfl) ?_
  refine W.objInit hx hb hown (hts (.methodLink RX3 3 objectInit) (by decide +kernel)) (hts (.instanceMethod objectInit) (by decide +kernel)) (hts (.code objectInit ⟨#[0xb1]⟩ 1 none) (by decide +kernel)) rfl (by rw [hml]; exact hl.1) rfl dX3_init_1 (Nat.le_of_ble_eq_true rfl) (Nat.le_of_ble_eq_true rfl) ?_
  refine W.eq (g2 := F0 m 4 ls []) rfl ?_
  refine lv_aload_n hx hb dX3_init_4 rfl (lv_at hl 0 rfl) ?_
  refine lv_bipush (v := 6) hx hb dX3_init_5 (by decide) ?_
  refine z_newi (N := 6) hx hb (hts (.arrayClass .int) (by decide +kernel)) hK.1 hP hD hS hA (by decide) rfl (Nat.le_of_ble_eq_true rfl) (Nat.le_of_ble_eq_true rfl) (Nat.le_of_ble_eq_true rfl) dX3_init_7 (fun q_sw H hP hD hS => ?_)
  have hP : va_P D vwCl [(h3, .inr (3, [.null, .null, .int 0])), (q_sw, .inl (cI, 6, .inl (fun _ => 0)))] H := hP
  have hD : va_D A [(h3, .inr (3, [.null, .null, .int 0])), (q_sw, .inl (cI, 6, .inl (fun _ => 0)))] := hD
  refine W.widen (k := 1) (n := 6) (Nat.le_of_ble_eq_true rfl) (Nat.le_of_ble_eq_true rfl) ?_
  refine va_putF (D := D) (ci := 3) (v := .ref q_sw) (ty := .array .int) (C := RX3) (T := TX3) (N := 3) hx hb hts hin0 tyX3 tyX3_ok nmX3 hown hK.1 hP hD hS 0 rfl rfl 0 (by decide) (hts (.fieldLink RX3 9 "DoubtCourt$Sightings" "who" "[I") (by decide +kernel)) (fun _ h9 => h9) rfl hin rfl (by decide +kernel) rfl rfl (Nat.le_of_ble_eq_true rfl) dX3_init_9 (fun H locs hP hD hS => ?_)
  have hP : va_P D vwCl [(h3, .inr (3, [.ref q_sw, .null, .int 0])), (q_sw, .inl (cI, 6, .inl (fun _ => 0)))] H := hP
  have hD : va_D A [(h3, .inr (3, [.ref q_sw, .null, .int 0])), (q_sw, .inl (cI, 6, .inl (fun _ => 0)))] := hD
  refine lv_aload_n hx hb dX3_init_12 rfl (lv_at hl 0 rfl) ?_
  refine lv_bipush (v := 6) hx hb dX3_init_13 (by decide) ?_
  refine z_newi (N := 6) hx hb (hts (.arrayClass .int) (by decide +kernel)) hK.1 hP hD hS hA (by decide) rfl (Nat.le_of_ble_eq_true rfl) (Nat.le_of_ble_eq_true rfl) (Nat.le_of_ble_eq_true rfl) dX3_init_15 (fun q_sn H hP hD hS => ?_)
  have hP : va_P D vwCl [(h3, .inr (3, [.ref q_sw, .null, .int 0])), (q_sw, .inl (cI, 6, .inl (fun _ => 0))), (q_sn, .inl (cI, 6, .inl (fun _ => 0)))] H := hP
  have hD : va_D A [(h3, .inr (3, [.ref q_sw, .null, .int 0])), (q_sw, .inl (cI, 6, .inl (fun _ => 0))), (q_sn, .inl (cI, 6, .inl (fun _ => 0)))] := hD
  refine W.widen (k := 2) (n := 12) (Nat.le_of_ble_eq_true rfl) (Nat.le_of_ble_eq_true rfl) ?_
  refine va_putF (D := D) (ci := 3) (v := .ref q_sn) (ty := .array .int) (C := RX3) (T := TX3) (N := 3) hx hb hts hin0 tyX3 tyX3_ok nmX3 hown hK.1 hP hD hS 0 rfl rfl 1 (by decide) (hts (.fieldLink RX3 15 "DoubtCourt$Sightings" "when" "[I") (by decide +kernel)) (fun _ h9 => h9) rfl hin rfl (by decide +kernel) rfl rfl (Nat.le_of_ble_eq_true rfl) dX3_init_17 (fun H locs hP hD hS => ?_)
  have hP : va_P D vwCl [(h3, .inr (3, [.ref q_sw, .ref q_sn, .int 0])), (q_sw, .inl (cI, 6, .inl (fun _ => 0))), (q_sn, .inl (cI, 6, .inl (fun _ => 0)))] H := hP
  have hD : va_D A [(h3, .inr (3, [.ref q_sw, .ref q_sn, .int 0])), (q_sw, .inl (cI, 6, .inl (fun _ => 0))), (q_sn, .inl (cI, 6, .inl (fun _ => 0)))] := hD
  exact hret (q_sw, q_sn) _ _ _ ls trivial hP hD hS dX3_init_20
/-! DoubtCourt$Text, the constructor -/
abbrev rmX4_init : Room := { frames := 1, cells := 1, slots := 200, locals := 12 }
theorem yoX4_init : yX4_init.cls ≠ "java/lang/invoke/MethodHandle" ∧ yX4_init.cls ≠ "java/lang/invoke/VarHandle" ∧ (parseMethodDescriptor yX4_init.desc).map (fun d => d.parameters.length) = some 0 := by decide +kernel
set_option maxHeartbeats 4000000 in
set_option maxRecDepth 100000 in
theorem c_X4_init (K V : Nat) (b : Nat → Int32) (l : Launch) (D : va_G) (cI cC cQ : ClassId) (h4 : Nat) : Ck (S := Nat) K V b l D cI cC cQ yX4_init wsX4_init rmX4_init [.ref h4] [(h4, .inr (4, [.null, .int 0, .int 0]))] (fun u => [(h4, .inr (4, [.ref u, .int 0, .int 0])), (u, .inl (cC, 200, .inl (fun _ => 0)))]) (fun _ => True) := by
  refine Ck_mk (cc := cX4_init) (maxL := 1) (by decide) rfl (Nat.le_of_ble_eq_true rfl) rfl ?_
  intro p e s m args below meth c A Z ls hx hb hml hown hts hK hE hA hP hD hin hret hl
  have hS : va_S A s.heap s.heap [] := va_S.rf
  have hin0 : ∀ w ∈ u_ws RX4 TX4 3, w ∈ wsX4_init := by decide +kernel
  have hl : lv_has ls 1 [(0, .ref h4)] := hl
  refine lv_aload_n hx hb dX4_init_0 rfl (lv_at hl 0 rfl) ?_
  refine W.objInit hx hb hown (hts (.methodLink RX4 3 objectInit) (by decide +kernel)) (hts (.instanceMethod objectInit) (by decide +kernel)) (hts (.code objectInit ⟨#[0xb1]⟩ 1 none) (by decide +kernel)) rfl (by rw [hml]; exact hl.1) rfl dX4_init_1 (Nat.le_of_ble_eq_true rfl) (Nat.le_of_ble_eq_true rfl) ?_
  refine W.eq (g2 := F0 m 4 ls []) rfl ?_
  refine lv_aload_n hx hb dX4_init_4 rfl (lv_at hl 0 rfl) ?_
  refine lv_sipush (v := 200) hx hb dX4_init_5 (by decide) ?_
  refine z_newc (N := 200) hx hb (hts (.arrayClass .char) (by decide +kernel)) hK.1 hP hD hS hA (by decide) rfl (Nat.le_of_ble_eq_true rfl) (Nat.le_of_ble_eq_true rfl) (Nat.le_of_ble_eq_true rfl) dX4_init_8 (fun q_tl H hP hD hS => ?_)
  have hP : va_P D vwCl [(h4, .inr (4, [.null, .int 0, .int 0])), (q_tl, .inl (cC, 200, .inl (fun _ => 0)))] H := hP
  have hD : va_D A [(h4, .inr (4, [.null, .int 0, .int 0])), (q_tl, .inl (cC, 200, .inl (fun _ => 0)))] := hD
  refine W.widen (k := 1) (n := 200) (Nat.le_of_ble_eq_true rfl) (Nat.le_of_ble_eq_true rfl) ?_
  refine va_putF (D := D) (ci := 4) (v := .ref q_tl) (ty := .array .char) (C := RX4) (T := TX4) (N := 3) hx hb hts hin0 tyX4 tyX4_ok nmX4 hown hK.1 hP hD hS 0 rfl rfl 0 (by decide) (hts (.fieldLink RX4 9 "DoubtCourt$Text" "letters" "[C") (by decide +kernel)) (fun _ h9 => h9) rfl hin rfl (by decide +kernel) rfl rfl (Nat.le_of_ble_eq_true rfl) dX4_init_10 (fun H locs hP hD hS => ?_)
  have hP : va_P D vwCl [(h4, .inr (4, [.ref q_tl, .int 0, .int 0])), (q_tl, .inl (cC, 200, .inl (fun _ => 0)))] H := hP
  have hD : va_D A [(h4, .inr (4, [.ref q_tl, .int 0, .int 0])), (q_tl, .inl (cC, 200, .inl (fun _ => 0)))] := hD
  exact hret q_tl _ _ _ ls trivial hP hD hS dX4_init_13
