/-! DoubtCourt$Text.append -/
abbrev rmX4_append : Room := { frames := 0, cells := 0, slots := 0, locals := 0 }
theorem yoX4_append : yX4_append.cls ≠ "java/lang/invoke/MethodHandle" ∧ yX4_append.cls ≠ "java/lang/invoke/VarHandle" ∧ (parseMethodDescriptor yX4_append.desc).map (fun d => d.parameters.length) = some 1 := by decide +kernel
set_option maxHeartbeats 4000000 in
set_option maxRecDepth 100000 in
theorem c_X4_append (l : Launch) (D : va_G) (cI cC cQ : ClassId) (h4 : Nat) (a_tl : Nat) (tl : Nat → Int32) (tn : Int32) (tc : Int32) (x1 : Int32) (Q : (Nat → Int32) → Int32 → Prop) (h : wX4_append x1 tl tn Q) : Cv (S := (Nat → Int32) × (Int32)) l D cI cC cQ yX4_append wsX4_append rmX4_append [.ref h4, .int x1] [(h4, .inr (4, [.ref a_tl, .int tn, .int tc])), (a_tl, .inl (cC, 200, .inl tl))] (fun u => [(h4, .inr (4, [.ref a_tl, .int u.2, .int tc])), (a_tl, .inl (cC, 200, .inl u.1))]) (fun u => Q u.1 u.2) := by
  refine Cv_mk (cc := cX4_append) (maxL := 2) (by decide) rfl (Nat.le_of_ble_eq_true rfl) ?_
  intro p e s m args below meth c A Z ls hx hb hml hown hts hK hA hP hD hret hl
  have hS : va_S A s.heap s.heap [] := va_S.rf
  have hin4 : ∀ w ∈ u_ws RX4 TX4 3, w ∈ wsX4_append := by decide +kernel
  have k_0 := hts (.fieldLink RX4 15 "DoubtCourt$Text" "length" "I") (by decide +kernel)
  have k_1 := hts (.fieldLink RX4 9 "DoubtCourt$Text" "letters" "[C") (by decide +kernel)
  have hl : lv_has ls 2 [(0, .ref h4), (1, .int x1)] := hl
  refine lv_aload_n hx hb dX4_append_0 rfl (lv_at hl 0 rfl) ?_
  refine va_get (D := D) (ci := 4) (v := .int tn) (C := RX4) (T := TX4) (N := 3) hx hb hts hin4 hown hK.1 hP 0 rfl rfl 1 (by decide) (k_0) (fun _ h9 => h9) rfl dX4_append_1 ?_
  refine lv_if_lt (tgt := 39) hx hb dX4_append_4 (by decide) (fun c_1 => ?_) (fun c_1 => ?_)
  · have h := h.1 c_1
    exact hret (tl, tn) _ _ _ ls h hP hD hS dX4_append_39
  · have h := h.2 c_1
    refine lv_aload_n hx hb dX4_append_7 rfl (lv_at hl 0 rfl) ?_
    refine va_get (D := D) (ci := 4) (v := .int tn) (C := RX4) (T := TX4) (N := 3) hx hb hts hin4 hown hK.1 hP 0 rfl rfl 1 (by decide) (k_0) (fun _ h9 => h9) rfl dX4_append_8 ?_
    refine lv_aload_n hx hb dX4_append_11 rfl (lv_at hl 0 rfl) ?_
    refine va_get (D := D) (ci := 4) (v := .ref a_tl) (C := RX4) (T := TX4) (N := 3) hx hb hts hin4 hown hK.1 hP 0 rfl rfl 0 (by decide) (k_1) (fun _ h9 => h9) rfl dX4_append_12 ?_
    refine va_alen (v := (200 : Int32)) hx hb hK.1 hP 1 1 rfl rfl rfl dX4_append_15 ?_
    refine lv_icmp_ge (tgt := 39) hx hb dX4_append_16 (by decide) (fun c_2 => ?_) (fun c_2 => ?_)
    · have h := h.1 c_2
      exact hret (tl, tn) _ _ _ ls h hP hD hS dX4_append_39
    · have h := h.2 c_2
      refine lv_aload_n hx hb dX4_append_19 rfl (lv_at hl 0 rfl) ?_
      refine va_get (D := D) (ci := 4) (v := .ref a_tl) (C := RX4) (T := TX4) (N := 3) hx hb hts hin4 hown hK.1 hP 0 rfl rfl 0 (by decide) (k_1) (fun _ h9 => h9) rfl dX4_append_20 ?_
      refine lv_aload_n hx hb dX4_append_23 rfl (lv_at hl 0 rfl) ?_
      refine va_get (D := D) (ci := 4) (v := .int tn) (C := RX4) (T := TX4) (N := 3) hx hb hts hin4 hown hK.1 hP 0 rfl rfl 1 (by decide) (k_0) (fun _ h9 => h9) rfl dX4_append_24 ?_
      refine lv_iload_n hx hb dX4_append_27 rfl (lv_at hl 1 rfl) ?_
      refine z_cast (k := tn.toNatClampNeg) hx hb hK.1 hP hD hS 1 rfl rfl h.1 dX4_append_28 (fun H locs hP hD hS => ?_)
      have h := h.2
      have hP : va_P D vwCl [(h4, .inr (4, [.ref a_tl, .int tn, .int tc])), (a_tl, .inl (cC, 200, .inl (upd tl tn.toNatClampNeg (vp_nar .char x1))))] H := hP
      have hD : va_D A [(h4, .inr (4, [.ref a_tl, .int tn, .int tc])), (a_tl, .inl (cC, 200, .inl (upd tl tn.toNatClampNeg (vp_nar .char x1))))] := hD
      refine lv_aload_n hx hb dX4_append_29 rfl (lv_at hl 0 rfl) ?_
      refine lv_dup hx hb dX4_append_30 rfl ?_
      refine va_get (D := D) (ci := 4) (v := .int tn) (C := RX4) (T := TX4) (N := 3) hx hb hts hin4 hown hK.1 hP 0 rfl rfl 1 (by decide) (k_0) (fun _ h9 => h9) rfl dX4_append_31 ?_
      refine lv_iconst (v := 1) hx hb dX4_append_34 (by decide) ?_
      refine lv_iadd hx hb dX4_append_35 ?_
      refine va_put (D := D) (ci := 4) (v := .int (tn + (1 : Int32))) (ty := .int) (C := RX4) (T := TX4) (N := 3) hx hb hts hin4 tyX4 tyX4_ok nmX4 hown hK.1 hP hD hS 0 rfl rfl 1 (by decide) (k_0) (fun _ h9 => h9) rfl (by decide +kernel) rfl rfl (Nat.le_of_ble_eq_true rfl) dX4_append_36 (fun H locs hP hD hS => ?_)
      have hP : va_P D vwCl [(h4, .inr (4, [.ref a_tl, .int (tn + (1 : Int32)), .int tc])), (a_tl, .inl (cC, 200, .inl (upd tl tn.toNatClampNeg (vp_nar .char x1))))] H := hP
      have hD : va_D A [(h4, .inr (4, [.ref a_tl, .int (tn + (1 : Int32)), .int tc])), (a_tl, .inl (cC, 200, .inl (upd tl tn.toNatClampNeg (vp_nar .char x1))))] := hD
      exact hret ((upd tl tn.toNatClampNeg (vp_nar .char x1)), (tn + (1 : Int32))) _ _ _ ls h hP hD hS dX4_append_39

/-! DoubtCourt$Text.clear -/
abbrev rmX4_clear : Room := { frames := 0, cells := 0, slots := 0, locals := 0 }
theorem yoX4_clear : yX4_clear.cls ≠ "java/lang/invoke/MethodHandle" ∧ yX4_clear.cls ≠ "java/lang/invoke/VarHandle" ∧ (parseMethodDescriptor yX4_clear.desc).map (fun d => d.parameters.length) = some 0 := by decide +kernel
set_option maxHeartbeats 4000000 in
set_option maxRecDepth 100000 in
theorem c_X4_clear (l : Launch) (D : va_G) (cI cC cQ : ClassId) (h4 : Nat) (a_tl : Nat) (tl : Nat → Int32) (tn : Int32) (tc : Int32) (Q : Int32 → Prop) (h : wX4_clear Q) : Cv (S := (Int32)) l D cI cC cQ yX4_clear wsX4_clear rmX4_clear [.ref h4] [(h4, .inr (4, [.ref a_tl, .int tn, .int tc])), (a_tl, .inl (cC, 200, .inl tl))] (fun u => [(h4, .inr (4, [.ref a_tl, .int u, .int tc])), (a_tl, .inl (cC, 200, .inl tl))]) (fun u => Q u) := by
  refine Cv_mk (cc := cX4_clear) (maxL := 1) (by decide) rfl (Nat.le_of_ble_eq_true rfl) ?_
  intro p e s m args below meth c A Z ls hx hb hml hown hts hK hA hP hD hret hl
  have hS : va_S A s.heap s.heap [] := va_S.rf
  have hin4 : ∀ w ∈ u_ws RX4 TX4 3, w ∈ wsX4_clear := by decide +kernel
  have k_0 := hts (.fieldLink RX4 15 "DoubtCourt$Text" "length" "I") (by decide +kernel)
  have hl : lv_has ls 1 [(0, .ref h4)] := hl
  refine lv_aload_n hx hb dX4_clear_0 rfl (lv_at hl 0 rfl) ?_
  refine lv_iconst (v := 0) hx hb dX4_clear_1 (by decide) ?_
  refine va_put (D := D) (ci := 4) (v := .int (0 : Int32)) (ty := .int) (C := RX4) (T := TX4) (N := 3) hx hb hts hin4 tyX4 tyX4_ok nmX4 hown hK.1 hP hD hS 0 rfl rfl 1 (by decide) (k_0) (fun _ h9 => h9) rfl (by decide +kernel) rfl rfl (Nat.le_of_ble_eq_true rfl) dX4_clear_2 (fun H locs hP hD hS => ?_)
  have hP : va_P D vwCl [(h4, .inr (4, [.ref a_tl, .int (0 : Int32), .int tc])), (a_tl, .inl (cC, 200, .inl tl))] H := hP
  have hD : va_D A [(h4, .inr (4, [.ref a_tl, .int (0 : Int32), .int tc])), (a_tl, .inl (cC, 200, .inl tl))] := hD
  exact hret (0 : Int32) _ _ _ ls h hP hD hS dX4_clear_5

/-! DoubtCourt$Text.next -/
abbrev rmX4_next : Room := { frames := 0, cells := 0, slots := 0, locals := 0 }
theorem yoX4_next : yX4_next.cls ≠ "java/lang/invoke/MethodHandle" ∧ yX4_next.cls ≠ "java/lang/invoke/VarHandle" ∧ (parseMethodDescriptor yX4_next.desc).map (fun d => d.parameters.length) = some 0 := by decide +kernel
set_option maxHeartbeats 4000000 in
set_option maxRecDepth 100000 in
theorem c_X4_next (l : Launch) (D : va_G) (cI cC cQ : ClassId) (h4 : Nat) (a_tl : Nat) (tl : Nat → Int32) (tn : Int32) (tc : Int32) (Q : Int32 → Prop) (h : wX4_next tl tn tc Q) : Ci (S := Unit) l D cI cC cQ yX4_next wsX4_next rmX4_next [.ref h4] [(h4, .inr (4, [.ref a_tl, .int tn, .int tc])), (a_tl, .inl (cC, 200, .inl tl))] (fun _ => [(h4, .inr (4, [.ref a_tl, .int tn, .int tc])), (a_tl, .inl (cC, 200, .inl tl))]) (fun r _ => Q r) := by
  refine Cc_mk (cc := cX4_next) (maxL := 1) (by decide) rfl (Nat.le_of_ble_eq_true rfl) ?_
  intro p e s m args below meth c A Z ls hx hb hml hown hts hK hA hP hD hret hl
  have hS : va_S A s.heap s.heap [] := va_S.rf
  have hin4 : ∀ w ∈ u_ws RX4 TX4 3, w ∈ wsX4_next := by decide +kernel
  have k_0 := hts (.fieldLink RX4 24 "DoubtCourt$Text" "cursor" "I") (by decide +kernel)
  have k_1 := hts (.fieldLink RX4 15 "DoubtCourt$Text" "length" "I") (by decide +kernel)
  have k_2 := hts (.fieldLink RX4 9 "DoubtCourt$Text" "letters" "[C") (by decide +kernel)
  have hl : lv_has ls 1 [(0, .ref h4)] := hl
  refine lv_aload_n hx hb dX4_next_0 rfl (lv_at hl 0 rfl) ?_
  refine va_get (D := D) (ci := 4) (v := .int tc) (C := RX4) (T := TX4) (N := 3) hx hb hts hin4 hown hK.1 hP 0 rfl rfl 2 (by decide) (k_0) (fun _ h9 => h9) rfl dX4_next_1 ?_
  refine lv_if_lt (tgt := 42) hx hb dX4_next_4 (by decide) (fun c_1 => ?_) (fun c_1 => ?_)
  · have h := h.1 c_1
    refine lv_iconst (v := 0) hx hb dX4_next_42 (by decide) ?_
    exact hret (0 : Int32) () _ _ _ ls rfl h hP hD hS dX4_next_43
  · have h := h.2 c_1
    refine lv_aload_n hx hb dX4_next_7 rfl (lv_at hl 0 rfl) ?_
    refine va_get (D := D) (ci := 4) (v := .int tc) (C := RX4) (T := TX4) (N := 3) hx hb hts hin4 hown hK.1 hP 0 rfl rfl 2 (by decide) (k_0) (fun _ h9 => h9) rfl dX4_next_8 ?_
    refine lv_aload_n hx hb dX4_next_11 rfl (lv_at hl 0 rfl) ?_
    refine va_get (D := D) (ci := 4) (v := .int tn) (C := RX4) (T := TX4) (N := 3) hx hb hts hin4 hown hK.1 hP 0 rfl rfl 1 (by decide) (k_1) (fun _ h9 => h9) rfl dX4_next_12 ?_
    refine lv_icmp_ge (tgt := 42) hx hb dX4_next_15 (by decide) (fun c_2 => ?_) (fun c_2 => ?_)
    · have h := h.1 c_2
      refine lv_iconst (v := 0) hx hb dX4_next_42 (by decide) ?_
      exact hret (0 : Int32) () _ _ _ ls rfl h hP hD hS dX4_next_43
    · have h := h.2 c_2
      refine lv_aload_n hx hb dX4_next_18 rfl (lv_at hl 0 rfl) ?_
      refine va_get (D := D) (ci := 4) (v := .int tc) (C := RX4) (T := TX4) (N := 3) hx hb hts hin4 hown hK.1 hP 0 rfl rfl 2 (by decide) (k_0) (fun _ h9 => h9) rfl dX4_next_19 ?_
      refine lv_aload_n hx hb dX4_next_22 rfl (lv_at hl 0 rfl) ?_
      refine va_get (D := D) (ci := 4) (v := .ref a_tl) (C := RX4) (T := TX4) (N := 3) hx hb hts hin4 hown hK.1 hP 0 rfl rfl 0 (by decide) (k_2) (fun _ h9 => h9) rfl dX4_next_23 ?_
      refine va_alen (v := (200 : Int32)) hx hb hK.1 hP 1 1 rfl rfl rfl dX4_next_26 ?_
      refine lv_icmp_ge (tgt := 42) hx hb dX4_next_27 (by decide) (fun c_3 => ?_) (fun c_3 => ?_)
      · have h := h.1 c_3
        refine lv_iconst (v := 0) hx hb dX4_next_42 (by decide) ?_
        exact hret (0 : Int32) () _ _ _ ls rfl h hP hD hS dX4_next_43
      · have h := h.2 c_3
        refine lv_aload_n hx hb dX4_next_30 rfl (lv_at hl 0 rfl) ?_
        refine va_get (D := D) (ci := 4) (v := .ref a_tl) (C := RX4) (T := TX4) (N := 3) hx hb hts hin4 hown hK.1 hP 0 rfl rfl 0 (by decide) (k_2) (fun _ h9 => h9) rfl dX4_next_31 ?_
        refine lv_aload_n hx hb dX4_next_34 rfl (lv_at hl 0 rfl) ?_
        refine va_get (D := D) (ci := 4) (v := .int tc) (C := RX4) (T := TX4) (N := 3) hx hb hts hin4 hown hK.1 hP 0 rfl rfl 2 (by decide) (k_0) (fun _ h9 => h9) rfl dX4_next_35 ?_
        refine z_cald (k := tc.toNatClampNeg) hx hb hK.1 hP 1 rfl rfl h.1 dX4_next_38 ?_
        have h := h.2
        refine lv_goto (tgt := 43) hx hb dX4_next_39 (by decide) ?_
        exact hret (tl tc.toNatClampNeg) () _ _ _ ls h.1 h.2 hP hD hS dX4_next_43

/-! DoubtCourt$Text.takes -/
abbrev rmX4_takes : Room := { frames := 1, cells := 0, slots := 0, locals := 20 }
theorem yoX4_takes : yX4_takes.cls ≠ "java/lang/invoke/MethodHandle" ∧ yX4_takes.cls ≠ "java/lang/invoke/VarHandle" ∧ (parseMethodDescriptor yX4_takes.desc).map (fun d => d.parameters.length) = some 1 := by decide +kernel
set_option maxHeartbeats 4000000 in
set_option maxRecDepth 100000 in
theorem c_X4_takes (l : Launch) (D : va_G) (cI cC cQ : ClassId) (h4 : Nat) (a_tl : Nat) (tl : Nat → Int32) (tn : Int32) (tc : Int32) (x1 : Int32) (Q : Int32 → Int32 → Prop) (h : wX4_takes x1 tl tn tc Q) : Ci (S := (Int32)) l D cI cC cQ yX4_takes wsX4_takes rmX4_takes [.ref h4, .int x1] [(h4, .inr (4, [.ref a_tl, .int tn, .int tc])), (a_tl, .inl (cC, 200, .inl tl))] (fun u => [(h4, .inr (4, [.ref a_tl, .int tn, .int u])), (a_tl, .inl (cC, 200, .inl tl))]) (fun r u => (r = 0 ∨ r = 1) ∧ Q r u) := by
  refine Cz_mk (cc := cX4_takes) (maxL := 2) (by decide) rfl (Nat.le_of_ble_eq_true rfl) ?_
  intro p e s m args below meth c A Z ls hx hb hml hown hts hK hA hP hD hret hl
  have hS : va_S A s.heap s.heap [] := va_S.rf
  have hin4 : ∀ w ∈ u_ws RX4 TX4 3, w ∈ wsX4_takes := by decide +kernel
  have k_0 := hts (.fieldLink RX4 24 "DoubtCourt$Text" "cursor" "I") (by decide +kernel)
  have hl : lv_has ls 2 [(0, .ref h4), (1, .int x1)] := hl
  refine lv_aload_n hx hb dX4_takes_0 rfl (lv_at hl 0 rfl) ?_
  refine k0V_i (As := []) (n := 0) ⟨hx, hb, hml, hown, hts⟩ hK hP hD hS hA (c_X4_next l D cI cC cQ h4 a_tl tl tn tc  _ h) gX4_takes_X4_next rfl rfl ⟨rfl, rfl⟩ yoX4_next ⟨Nat.le_of_ble_eq_true rfl, Nat.le_of_ble_eq_true rfl⟩ (q0 := 0) (ci := 4) rfl rfl rfl rfl hl.1 rfl (Nat.le_of_ble_eq_true rfl) dX4_takes_1 ⟨Nat.zero_le _, Nat.zero_le _⟩ (fun r_1 u H locs h hP hD hS => ?_)
  refine lv_iload_n hx hb dX4_takes_4 rfl (lv_at hl 1 rfl) ?_
  refine lv_icmp_eq (tgt := 10) hx hb dX4_takes_5 (by decide) (fun c_2 => ?_) (fun c_2 => ?_)
  · have h := h.1 c_2
    refine lv_aload_n hx hb dX4_takes_10 rfl (lv_at hl 0 rfl) ?_
    refine lv_dup hx hb dX4_takes_11 rfl ?_
    refine va_get (D := D) (ci := 4) (v := .int tc) (C := RX4) (T := TX4) (N := 3) hx hb hts hin4 hown hK.1 hP 0 rfl rfl 2 (by decide) (k_0) (fun _ h9 => h9) rfl dX4_takes_12 ?_
    refine lv_iconst (v := 1) hx hb dX4_takes_15 (by decide) ?_
    refine lv_iadd hx hb dX4_takes_16 ?_
    refine va_put (D := D) (ci := 4) (v := .int (tc + (1 : Int32))) (ty := .int) (C := RX4) (T := TX4) (N := 3) hx hb hts hin4 tyX4 tyX4_ok nmX4 hown hK.1 hP hD hS 0 rfl rfl 2 (by decide) (k_0) (fun _ h9 => h9) rfl (by decide +kernel) rfl rfl (Nat.le_of_ble_eq_true rfl) dX4_takes_17 (fun H locs hP hD hS => ?_)
    have hP : va_P D vwCl [(h4, .inr (4, [.ref a_tl, .int tn, .int (tc + (1 : Int32))])), (a_tl, .inl (cC, 200, .inl tl))] H := hP
    have hD : va_D A [(h4, .inr (4, [.ref a_tl, .int tn, .int (tc + (1 : Int32))])), (a_tl, .inl (cC, 200, .inl tl))] := hD
    refine lv_iconst (v := 1) hx hb dX4_takes_20 (by decide) ?_
    exact hret (1 : Int32) (tc + (1 : Int32)) _ _ _ ls (by decide) h hP hD hS dX4_takes_21
  · have h := h.2 c_2
    refine lv_iconst (v := 0) hx hb dX4_takes_8 (by decide) ?_
    exact hret (0 : Int32) tc _ _ _ ls (by decide) h hP hD hS dX4_takes_9

/-! DoubtCourt$Text.figure -/
abbrev rmX4_figure : Room := { frames := 1, cells := 0, slots := 0, locals := 20 }
theorem yoX4_figure : yX4_figure.cls ≠ "java/lang/invoke/MethodHandle" ∧ yX4_figure.cls ≠ "java/lang/invoke/VarHandle" ∧ (parseMethodDescriptor yX4_figure.desc).map (fun d => d.parameters.length) = some 0 := by decide +kernel
set_option maxHeartbeats 4000000 in
set_option maxRecDepth 100000 in
theorem c_X4_figure (l : Launch) (D : va_G) (cI cC cQ : ClassId) (h4 : Nat) (a_tl : Nat) (tl : Nat → Int32) (tn : Int32) (tc : Int32) (Q : Int32 → Int32 → Prop) (h : wX4_figure tl tn tc Q) : Ci (S := (Int32)) l D cI cC cQ yX4_figure wsX4_figure rmX4_figure [.ref h4] [(h4, .inr (4, [.ref a_tl, .int tn, .int tc])), (a_tl, .inl (cC, 200, .inl tl))] (fun u => [(h4, .inr (4, [.ref a_tl, .int tn, .int u])), (a_tl, .inl (cC, 200, .inl tl))]) (fun r u => Q r u) := by
  refine Ci_mk (cc := cX4_figure) (maxL := 2) (by decide) rfl (Nat.le_of_ble_eq_true rfl) ?_
  intro p e s m args below meth c A Z ls hx hb hml hown hts hK hA hP hD hret hl
  have hS : va_S A s.heap s.heap [] := va_S.rf
  have hin4 : ∀ w ∈ u_ws RX4 TX4 3, w ∈ wsX4_figure := by decide +kernel
  have k_0 := hts (.fieldLink RX4 24 "DoubtCourt$Text" "cursor" "I") (by decide +kernel)
  have hl : lv_has ls 2 [(0, .ref h4)] := hl
  refine lv_aload_n hx hb dX4_figure_0 rfl (lv_at hl 0 rfl) ?_
  refine k0V_i (As := []) (n := 0) ⟨hx, hb, hml, hown, hts⟩ hK hP hD hS hA (c_X4_next l D cI cC cQ h4 a_tl tl tn tc  _ h) gX4_figure_X4_next rfl rfl ⟨rfl, rfl⟩ yoX4_next ⟨Nat.le_of_ble_eq_true rfl, Nat.le_of_ble_eq_true rfl⟩ (q0 := 0) (ci := 4) rfl rfl rfl rfl hl.1 rfl (Nat.le_of_ble_eq_true rfl) dX4_figure_1 ⟨Nat.zero_le _, Nat.zero_le _⟩ (fun r_1 u H locs h hP hD hS => ?_)
  refine lv_istore_n (lv' := [(1, .int r_1), (0, .ref h4)]) hx hb dX4_figure_4 rfl hl (by decide) rfl (fun ls hl => ?_)
  refine lv_iload_n hx hb dX4_figure_5 rfl (lv_at hl 0 rfl) ?_
  refine lv_bipush (v := 48) hx hb dX4_figure_6 (by decide) ?_
  refine lv_icmp_lt (tgt := 17) hx hb dX4_figure_8 (by decide) (fun c_2 => ?_) (fun c_2 => ?_)
  · have h := h.1 c_2
    refine lv_bipush (v := -4) hx hb dX4_figure_17 (by decide) ?_
    exact hret (-4 : Int32) tc _ _ _ ls h hP hD hS dX4_figure_19
  · have h := h.2 c_2
    refine lv_iload_n hx hb dX4_figure_11 rfl (lv_at hl 0 rfl) ?_
    refine lv_bipush (v := 57) hx hb dX4_figure_12 (by decide) ?_
    refine lv_icmp_le (tgt := 20) hx hb dX4_figure_14 (by decide) (fun c_3 => ?_) (fun c_3 => ?_)
    · have h := h.1 c_3
      refine lv_aload_n hx hb dX4_figure_20 rfl (lv_at hl 1 rfl) ?_
      refine lv_dup hx hb dX4_figure_21 rfl ?_
      refine va_get (D := D) (ci := 4) (v := .int tc) (C := RX4) (T := TX4) (N := 3) hx hb hts hin4 hown hK.1 hP 0 rfl rfl 2 (by decide) (k_0) (fun _ h9 => h9) rfl dX4_figure_22 ?_
      refine lv_iconst (v := 1) hx hb dX4_figure_25 (by decide) ?_
      refine lv_iadd hx hb dX4_figure_26 ?_
      refine va_put (D := D) (ci := 4) (v := .int (tc + (1 : Int32))) (ty := .int) (C := RX4) (T := TX4) (N := 3) hx hb hts hin4 tyX4 tyX4_ok nmX4 hown hK.1 hP hD hS 0 rfl rfl 2 (by decide) (k_0) (fun _ h9 => h9) rfl (by decide +kernel) rfl rfl (Nat.le_of_ble_eq_true rfl) dX4_figure_27 (fun H locs hP hD hS => ?_)
      have hP : va_P D vwCl [(h4, .inr (4, [.ref a_tl, .int tn, .int (tc + (1 : Int32))])), (a_tl, .inl (cC, 200, .inl tl))] H := hP
      have hD : va_D A [(h4, .inr (4, [.ref a_tl, .int tn, .int (tc + (1 : Int32))])), (a_tl, .inl (cC, 200, .inl tl))] := hD
      refine lv_iload_n hx hb dX4_figure_30 rfl (lv_at hl 0 rfl) ?_
      refine lv_bipush (v := 48) hx hb dX4_figure_31 (by decide) ?_
      refine lv_isub hx hb dX4_figure_33 ?_
      exact hret (r_1 - (48 : Int32)) (tc + (1 : Int32)) _ _ _ ls h hP hD hS dX4_figure_34
    · have h := h.2 c_3
      refine lv_bipush (v := -4) hx hb dX4_figure_17 (by decide) ?_
      exact hret (-4 : Int32) tc _ _ _ ls h hP hD hS dX4_figure_19

/-! DoubtCourt$Text.number -/
abbrev rmX4_number : Room := { frames := 2, cells := 0, slots := 0, locals := 41 }
theorem yoX4_number : yX4_number.cls ≠ "java/lang/invoke/MethodHandle" ∧ yX4_number.cls ≠ "java/lang/invoke/VarHandle" ∧ (parseMethodDescriptor yX4_number.desc).map (fun d => d.parameters.length) = some 0 := by decide +kernel
set_option maxHeartbeats 4000000 in
set_option maxRecDepth 100000 in
theorem c_X4_number (l : Launch) (D : va_G) (cI cC cQ : ClassId) (h4 : Nat) (a_tl : Nat) (tl : Nat → Int32) (tn : Int32) (tc : Int32) (Q : Int32 → Int32 → Prop) (h : wX4_number tl tn tc Q) : Ci (S := (Int32)) l D cI cC cQ yX4_number wsX4_number rmX4_number [.ref h4] [(h4, .inr (4, [.ref a_tl, .int tn, .int tc])), (a_tl, .inl (cC, 200, .inl tl))] (fun u => [(h4, .inr (4, [.ref a_tl, .int tn, .int u])), (a_tl, .inl (cC, 200, .inl tl))]) (fun r u => Q r u) := by
  refine Ci_mk (cc := cX4_number) (maxL := 3) (by decide) rfl (Nat.le_of_ble_eq_true rfl) ?_
  intro p e s m args below meth c A Z ls hx hb hml hown hts hK hA hP hD hret hl
  have hS : va_S A s.heap s.heap [] := va_S.rf
  have hl : lv_has ls 3 [(0, .ref h4)] := hl
  refine lv_aload_n hx hb dX4_number_0 rfl (lv_at hl 0 rfl) ?_
  refine k0V_i (As := []) (n := 0) ⟨hx, hb, hml, hown, hts⟩ hK hP hD hS hA (c_X4_figure l D cI cC cQ h4 a_tl tl tn tc  _ h) gX4_number_X4_figure rfl rfl ⟨rfl, rfl⟩ yoX4_figure ⟨Nat.le_of_ble_eq_true rfl, Nat.le_of_ble_eq_true rfl⟩ (q0 := 0) (ci := 4) rfl rfl rfl rfl hl.1 rfl (Nat.le_of_ble_eq_true rfl) dX4_number_1 ⟨Nat.zero_le _, Nat.zero_le _⟩ (fun r_1 tc_2 H locs h hP hD hS => ?_)
  have hP : va_P D vwCl [(h4, .inr (4, [.ref a_tl, .int tn, .int tc_2])), (a_tl, .inl (cC, 200, .inl tl))] H := hP
  have hD : va_D A [(h4, .inr (4, [.ref a_tl, .int tn, .int tc_2])), (a_tl, .inl (cC, 200, .inl tl))] := hD
  refine lv_istore_n (lv' := [(1, .int r_1), (0, .ref h4)]) hx hb dX4_number_4 rfl hl (by decide) rfl (fun ls hl => ?_)
  refine lv_iload_n hx hb dX4_number_5 rfl (lv_at hl 0 rfl) ?_
  refine lv_bipush (v := -4) hx hb dX4_number_6 (by decide) ?_
  refine lv_icmp_ne (tgt := 14) hx hb dX4_number_8 (by decide) (fun c_3 => ?_) (fun c_3 => ?_)
  · have h := h.2 c_3
    refine lv_aload_n hx hb dX4_number_14 rfl (lv_at hl 1 rfl) ?_
    refine k0V_i (As := []) (n := 0) ⟨hx, hb, hml, hown, hts⟩ hK hP hD hS hA (c_X4_figure l D cI cC cQ h4 a_tl tl tn tc_2  _ h) gX4_number_X4_figure rfl rfl ⟨rfl, rfl⟩ yoX4_figure ⟨Nat.le_of_ble_eq_true rfl, Nat.le_of_ble_eq_true rfl⟩ (q0 := 0) (ci := 4) rfl rfl rfl rfl hl.1 rfl (Nat.le_of_ble_eq_true rfl) dX4_number_15 ⟨Nat.zero_le _, Nat.zero_le _⟩ (fun r_4 tc_5 H locs h hP hD hS => ?_)
    have hP : va_P D vwCl [(h4, .inr (4, [.ref a_tl, .int tn, .int tc_5])), (a_tl, .inl (cC, 200, .inl tl))] H := hP
    have hD : va_D A [(h4, .inr (4, [.ref a_tl, .int tn, .int tc_5])), (a_tl, .inl (cC, 200, .inl tl))] := hD
    refine lv_istore_n (lv' := [(2, .int r_4), (1, .int r_1), (0, .ref h4)]) hx hb dX4_number_18 rfl hl (by decide) rfl (fun ls hl => ?_)
    refine lv_iload_n hx hb dX4_number_19 rfl (lv_at hl 0 rfl) ?_
    refine lv_bipush (v := -4) hx hb dX4_number_20 (by decide) ?_
    refine lv_icmp_ne (tgt := 29) hx hb dX4_number_22 (by decide) (fun c_6 => ?_) (fun c_6 => ?_)
    · have h := h.2 c_6
      refine lv_bipush (v := 10) hx hb dX4_number_29 (by decide) ?_
      refine lv_iload_n hx hb dX4_number_31 rfl (lv_at hl 1 rfl) ?_
      refine lv_imul hx hb dX4_number_32 ?_
      refine lv_iload_n hx hb dX4_number_33 rfl (lv_at hl 0 rfl) ?_
      refine lv_iadd hx hb dX4_number_34 ?_
      exact hret (((10 : Int32) * r_1) + r_4) tc_5 _ _ _ ls h hP hD hS dX4_number_35
    · have h := h.1 c_6
      refine lv_iload_n hx hb dX4_number_25 rfl (lv_at hl 1 rfl) ?_
      refine lv_goto (tgt := 35) hx hb dX4_number_26 (by decide) ?_
      exact hret r_1 tc_5 _ _ _ ls h hP hD hS dX4_number_35
  · have h := h.1 c_3
    refine lv_bipush (v := -4) hx hb dX4_number_11 (by decide) ?_
    exact hret (-4 : Int32) tc_2 _ _ _ ls h hP hD hS dX4_number_13

/-! DoubtCourt$Text.readCourtier -/
abbrev rmX4_readCourtier : Room := { frames := 3, cells := 0, slots := 0, locals := 63 }
theorem yoX4_readCourtier : yX4_readCourtier.cls ≠ "java/lang/invoke/MethodHandle" ∧ yX4_readCourtier.cls ≠ "java/lang/invoke/VarHandle" ∧ (parseMethodDescriptor yX4_readCourtier.desc).map (fun d => d.parameters.length) = some 1 := by decide +kernel
set_option maxHeartbeats 4000000 in
set_option maxRecDepth 100000 in
theorem c_X4_readCourtier (l : Launch) (D : va_G) (cI cC cQ : ClassId) (h4 : Nat) (a_tl : Nat) (h0 : Nat) (a_kd : Nat) (a_hd : Nat) (a_pl : Nat) (a_st : Nat) (a_ho : Nat) (a_be : Nat) (tl : Nat → Int32) (tn : Int32) (tc : Int32) (kd : Nat → Int32) (hd : Nat → Int32) (pl : Nat → Int32) (st : Nat → Int32) (ho : Nat → Int32) (be : Nat → Int32) (nc : Int32) (nn : Int32) (dy : Int32) (Q : Int32 → Int32 → (Nat → Int32) → (Nat → Int32) → (Nat → Int32) → (Nat → Int32) → Int32 → Prop) (h : wX4_readCourtier tl tn tc kd hd pl st nc Q) : Ci (S := (Int32) × (Nat → Int32) × (Nat → Int32) × (Nat → Int32) × (Nat → Int32) × (Int32)) l D cI cC cQ yX4_readCourtier wsX4_readCourtier rmX4_readCourtier [.ref h4, .ref h0] [(h4, .inr (4, [.ref a_tl, .int tn, .int tc])), (a_tl, .inl (cC, 200, .inl tl)), (h0, .inr (0, [.ref a_kd, .ref a_hd, .ref a_pl, .ref a_st, .ref a_ho, .ref a_be, .int nc, .int nn, .int dy])), (a_kd, .inl (cI, 7, .inl kd)), (a_hd, .inl (cI, 7, .inl hd)), (a_pl, .inl (cI, 7, .inl pl)), (a_st, .inl (cI, 7, .inl st)), (a_ho, .inl (cI, 6, .inl ho)), (a_be, .inl (cI, 42, .inl be))] (fun u => [(h4, .inr (4, [.ref a_tl, .int tn, .int u.1])), (a_tl, .inl (cC, 200, .inl tl)), (h0, .inr (0, [.ref a_kd, .ref a_hd, .ref a_pl, .ref a_st, .ref a_ho, .ref a_be, .int u.2.2.2.2.2, .int nn, .int dy])), (a_kd, .inl (cI, 7, .inl u.2.1)), (a_hd, .inl (cI, 7, .inl u.2.2.1)), (a_pl, .inl (cI, 7, .inl u.2.2.2.1)), (a_st, .inl (cI, 7, .inl u.2.2.2.2.1)), (a_ho, .inl (cI, 6, .inl ho)), (a_be, .inl (cI, 42, .inl be))]) (fun r u => (r = 0 ∨ r = 1) ∧ Q r u.1 u.2.1 u.2.2.1 u.2.2.2.1 u.2.2.2.2.1 u.2.2.2.2.2) := by
  refine Cz_mk (cc := cX4_readCourtier) (maxL := 5) (by decide) rfl (Nat.le_of_ble_eq_true rfl) ?_
  intro p e s m args below meth c A Z ls hx hb hml hown hts hK hA hP hD hret hl
  have hS : va_S A s.heap s.heap [] := va_S.rf
  have k_0 := hts (.initialized RX5) (by decide +kernel)
  have k_1 := hts (.static yX5_isIn) (by decide +kernel)
  have hl : lv_has ls 5 [(0, .ref h4), (1, .ref h0)] := hl
  refine lv_aload_n hx hb dX4_readCourtier_0 rfl (lv_at hl 0 rfl) ?_
  refine kV_i (wr := [(h0, .inr (0, [.ref a_kd, .ref a_hd, .ref a_pl, .ref a_st, .ref a_ho, .ref a_be, .int nc, .int nn, .int dy])), (a_kd, .inl (cI, 7, .inl kd)), (a_hd, .inl (cI, 7, .inl hd)), (a_pl, .inl (cI, 7, .inl pl)), (a_st, .inl (cI, 7, .inl st)), (a_ho, .inl (cI, 6, .inl ho)), (a_be, .inl (cI, 42, .inl be))]) (As := []) (n := 0) ⟨hx, hb, hml, hown, hts⟩ hK hP hD hS hA (c_X4_number l D cI cC cQ h4 a_tl tl tn tc  _ h) gX4_readCourtier_X4_number rfl rfl ⟨rfl, rfl⟩ yoX4_number ⟨Nat.le_of_ble_eq_true rfl, Nat.le_of_ble_eq_true rfl⟩ (q0 := 0) (ci := 4) rfl rfl rfl rfl hl.1 rfl (Nat.le_of_ble_eq_true rfl) dX4_readCourtier_1 ⟨Nat.zero_le _, Nat.zero_le _⟩ [0, 1] [2, 3, 4, 5, 6, 7, 8] rfl (by decide) rfl (by decide) (by decide) (fun r_1 tc_2 H locs h hP hD hS => ?_)
  have hP : va_P D vwCl [(h0, .inr (0, [.ref a_kd, .ref a_hd, .ref a_pl, .ref a_st, .ref a_ho, .ref a_be, .int nc, .int nn, .int dy])), (a_kd, .inl (cI, 7, .inl kd)), (a_hd, .inl (cI, 7, .inl hd)), (a_pl, .inl (cI, 7, .inl pl)), (a_st, .inl (cI, 7, .inl st)), (a_ho, .inl (cI, 6, .inl ho)), (a_be, .inl (cI, 42, .inl be)), (h4, .inr (4, [.ref a_tl, .int tn, .int tc_2])), (a_tl, .inl (cC, 200, .inl tl))] H := hP
  have hD : va_D A [(h0, .inr (0, [.ref a_kd, .ref a_hd, .ref a_pl, .ref a_st, .ref a_ho, .ref a_be, .int nc, .int nn, .int dy])), (a_kd, .inl (cI, 7, .inl kd)), (a_hd, .inl (cI, 7, .inl hd)), (a_pl, .inl (cI, 7, .inl pl)), (a_st, .inl (cI, 7, .inl st)), (a_ho, .inl (cI, 6, .inl ho)), (a_be, .inl (cI, 42, .inl be)), (h4, .inr (4, [.ref a_tl, .int tn, .int tc_2])), (a_tl, .inl (cC, 200, .inl tl))] := hD
  refine lv_istore_n (lv' := [(2, .int r_1), (0, .ref h4), (1, .ref h0)]) hx hb dX4_readCourtier_4 rfl hl (by decide) rfl (fun ls hl => ?_)
  refine lv_iload_n hx hb dX4_readCourtier_5 rfl (lv_at hl 0 rfl) ?_
  refine lv_iconst (v := 0) hx hb dX4_readCourtier_6 (by decide) ?_
  refine lv_iconst (v := 3) hx hb dX4_readCourtier_7 (by decide) ?_
  refine kSN_i (wr := [(h0, .inr (0, [.ref a_kd, .ref a_hd, .ref a_pl, .ref a_st, .ref a_ho, .ref a_be, .int nc, .int nn, .int dy])), (a_kd, .inl (cI, 7, .inl kd)), (a_hd, .inl (cI, 7, .inl hd)), (a_pl, .inl (cI, 7, .inl pl)), (a_st, .inl (cI, 7, .inl st)), (a_ho, .inl (cI, 6, .inl ho)), (a_be, .inl (cI, 42, .inl be)), (h4, .inr (4, [.ref a_tl, .int tn, .int tc_2])), (a_tl, .inl (cC, 200, .inl tl))]) (As := [.int r_1, .int (0 : Int32), .int (3 : Int32)]) (n := 3) ⟨hx, hb, hml, hown, hts⟩ hK hP hD hS hA (c_X5_isIn l D cI cC cQ   r_1 (0 : Int32) (3 : Int32) _ h) gX4_readCourtier_X5_isIn_n48 (hK.2 _ (List.mem_of_getElem? (i := 15) rfl)) (k_0) (k_1) rfl ⟨rfl, rfl⟩ yoX5_isIn ⟨Nat.le_of_ble_eq_true rfl, Nat.le_of_ble_eq_true rfl⟩ rfl hl.1 rfl (Nat.le_of_ble_eq_true rfl) dX4_readCourtier_8 ⟨Nat.zero_le _, Nat.zero_le _⟩ [] [0, 1, 2, 3, 4, 5, 6, 7, 8] rfl (by decide) rfl (by decide) (by decide) (fun r_3 u H locs h hP hD hS => ?_)
  have hP : va_P D vwCl [(h0, .inr (0, [.ref a_kd, .ref a_hd, .ref a_pl, .ref a_st, .ref a_ho, .ref a_be, .int nc, .int nn, .int dy])), (a_kd, .inl (cI, 7, .inl kd)), (a_hd, .inl (cI, 7, .inl hd)), (a_pl, .inl (cI, 7, .inl pl)), (a_st, .inl (cI, 7, .inl st)), (a_ho, .inl (cI, 6, .inl ho)), (a_be, .inl (cI, 42, .inl be)), (h4, .inr (4, [.ref a_tl, .int tn, .int tc_2])), (a_tl, .inl (cC, 200, .inl tl))] H := hP
  have hD : va_D A [(h0, .inr (0, [.ref a_kd, .ref a_hd, .ref a_pl, .ref a_st, .ref a_ho, .ref a_be, .int nc, .int nn, .int dy])), (a_kd, .inl (cI, 7, .inl kd)), (a_hd, .inl (cI, 7, .inl hd)), (a_pl, .inl (cI, 7, .inl pl)), (a_st, .inl (cI, 7, .inl st)), (a_ho, .inl (cI, 6, .inl ho)), (a_be, .inl (cI, 42, .inl be)), (h4, .inr (4, [.ref a_tl, .int tn, .int tc_2])), (a_tl, .inl (cC, 200, .inl tl))] := hD
  obtain ⟨b_4, h⟩ := h
  refine lv_if_eq (tgt := 23) hx hb dX4_readCourtier_11 (by decide) (fun c_5 => ?_) (fun c_5 => ?_)
  · have h := h.1 c_5
    refine lv_iconst (v := 0) hx hb dX4_readCourtier_23 (by decide) ?_
    have hP := hP.sub (ws' := [(h4, .inr (4, [.ref a_tl, .int tn, .int tc_2])), (a_tl, .inl (cC, 200, .inl tl)), (h0, .inr (0, [.ref a_kd, .ref a_hd, .ref a_pl, .ref a_st, .ref a_ho, .ref a_be, .int nc, .int nn, .int dy])), (a_kd, .inl (cI, 7, .inl kd)), (a_hd, .inl (cI, 7, .inl hd)), (a_pl, .inl (cI, 7, .inl pl)), (a_st, .inl (cI, 7, .inl st)), (a_ho, .inl (cI, 6, .inl ho)), (a_be, .inl (cI, 42, .inl be))]) [7, 8, 0, 1, 2, 3, 4, 5, 6] rfl
    have hD := hD.sub (ws' := [(h4, .inr (4, [.ref a_tl, .int tn, .int tc_2])), (a_tl, .inl (cC, 200, .inl tl)), (h0, .inr (0, [.ref a_kd, .ref a_hd, .ref a_pl, .ref a_st, .ref a_ho, .ref a_be, .int nc, .int nn, .int dy])), (a_kd, .inl (cI, 7, .inl kd)), (a_hd, .inl (cI, 7, .inl hd)), (a_pl, .inl (cI, 7, .inl pl)), (a_st, .inl (cI, 7, .inl st)), (a_ho, .inl (cI, 6, .inl ho)), (a_be, .inl (cI, 42, .inl be))]) [7, 8, 0, 1, 2, 3, 4, 5, 6] (by decide) rfl
    exact hret (0 : Int32) (tc_2, kd, hd, pl, st, nc) _ _ _ ls (by decide) h hP hD hS dX4_readCourtier_24
  · have h := h.2 c_5
    refine lv_aload_n hx hb dX4_readCourtier_14 rfl (lv_at hl 1 rfl) ?_
    refine lv_bipush (v := 44) hx hb dX4_readCourtier_15 (by decide) ?_
    refine kV_i (wr := [(h0, .inr (0, [.ref a_kd, .ref a_hd, .ref a_pl, .ref a_st, .ref a_ho, .ref a_be, .int nc, .int nn, .int dy])), (a_kd, .inl (cI, 7, .inl kd)), (a_hd, .inl (cI, 7, .inl hd)), (a_pl, .inl (cI, 7, .inl pl)), (a_st, .inl (cI, 7, .inl st)), (a_ho, .inl (cI, 6, .inl ho)), (a_be, .inl (cI, 42, .inl be))]) (As := [.int (44 : Int32)]) (n := 1) ⟨hx, hb, hml, hown, hts⟩ hK hP hD hS hA (c_X4_takes l D cI cC cQ h4 a_tl tl tn tc_2 (44 : Int32) _ h) gX4_readCourtier_X4_takes rfl rfl ⟨rfl, rfl⟩ yoX4_takes ⟨Nat.le_of_ble_eq_true rfl, Nat.le_of_ble_eq_true rfl⟩ (q0 := 0) (ci := 4) rfl rfl rfl rfl hl.1 rfl (Nat.le_of_ble_eq_true rfl) dX4_readCourtier_17 ⟨Nat.zero_le _, Nat.zero_le _⟩ [7, 8] [0, 1, 2, 3, 4, 5, 6] rfl (by decide) rfl (by decide) (by decide) (fun r_6 tc_7 H locs h hP hD hS => ?_)
    have hP : va_P D vwCl [(h0, .inr (0, [.ref a_kd, .ref a_hd, .ref a_pl, .ref a_st, .ref a_ho, .ref a_be, .int nc, .int nn, .int dy])), (a_kd, .inl (cI, 7, .inl kd)), (a_hd, .inl (cI, 7, .inl hd)), (a_pl, .inl (cI, 7, .inl pl)), (a_st, .inl (cI, 7, .inl st)), (a_ho, .inl (cI, 6, .inl ho)), (a_be, .inl (cI, 42, .inl be)), (h4, .inr (4, [.ref a_tl, .int tn, .int tc_7])), (a_tl, .inl (cC, 200, .inl tl))] H := hP
    have hD : va_D A [(h0, .inr (0, [.ref a_kd, .ref a_hd, .ref a_pl, .ref a_st, .ref a_ho, .ref a_be, .int nc, .int nn, .int dy])), (a_kd, .inl (cI, 7, .inl kd)), (a_hd, .inl (cI, 7, .inl hd)), (a_pl, .inl (cI, 7, .inl pl)), (a_st, .inl (cI, 7, .inl st)), (a_ho, .inl (cI, 6, .inl ho)), (a_be, .inl (cI, 42, .inl be)), (h4, .inr (4, [.ref a_tl, .int tn, .int tc_7])), (a_tl, .inl (cC, 200, .inl tl))] := hD
    obtain ⟨b_8, h⟩ := h
    refine lv_if_ne (tgt := 25) hx hb dX4_readCourtier_20 (by decide) (fun c_9 => ?_) (fun c_9 => ?_)
    · have h := h.2 c_9
      refine lv_aload_n hx hb dX4_readCourtier_25 rfl (lv_at hl 1 rfl) ?_
      refine kV_i (wr := [(h0, .inr (0, [.ref a_kd, .ref a_hd, .ref a_pl, .ref a_st, .ref a_ho, .ref a_be, .int nc, .int nn, .int dy])), (a_kd, .inl (cI, 7, .inl kd)), (a_hd, .inl (cI, 7, .inl hd)), (a_pl, .inl (cI, 7, .inl pl)), (a_st, .inl (cI, 7, .inl st)), (a_ho, .inl (cI, 6, .inl ho)), (a_be, .inl (cI, 42, .inl be))]) (As := []) (n := 0) ⟨hx, hb, hml, hown, hts⟩ hK hP hD hS hA (c_X4_number l D cI cC cQ h4 a_tl tl tn tc_7  _ h) gX4_readCourtier_X4_number rfl rfl ⟨rfl, rfl⟩ yoX4_number ⟨Nat.le_of_ble_eq_true rfl, Nat.le_of_ble_eq_true rfl⟩ (q0 := 0) (ci := 4) rfl rfl rfl rfl hl.1 rfl (Nat.le_of_ble_eq_true rfl) dX4_readCourtier_26 ⟨Nat.zero_le _, Nat.zero_le _⟩ [7, 8] [0, 1, 2, 3, 4, 5, 6] rfl (by decide) rfl (by decide) (by decide) (fun r_10 tc_11 H locs h hP hD hS => ?_)
      have hP : va_P D vwCl [(h0, .inr (0, [.ref a_kd, .ref a_hd, .ref a_pl, .ref a_st, .ref a_ho, .ref a_be, .int nc, .int nn, .int dy])), (a_kd, .inl (cI, 7, .inl kd)), (a_hd, .inl (cI, 7, .inl hd)), (a_pl, .inl (cI, 7, .inl pl)), (a_st, .inl (cI, 7, .inl st)), (a_ho, .inl (cI, 6, .inl ho)), (a_be, .inl (cI, 42, .inl be)), (h4, .inr (4, [.ref a_tl, .int tn, .int tc_11])), (a_tl, .inl (cC, 200, .inl tl))] H := hP
      have hD : va_D A [(h0, .inr (0, [.ref a_kd, .ref a_hd, .ref a_pl, .ref a_st, .ref a_ho, .ref a_be, .int nc, .int nn, .int dy])), (a_kd, .inl (cI, 7, .inl kd)), (a_hd, .inl (cI, 7, .inl hd)), (a_pl, .inl (cI, 7, .inl pl)), (a_st, .inl (cI, 7, .inl st)), (a_ho, .inl (cI, 6, .inl ho)), (a_be, .inl (cI, 42, .inl be)), (h4, .inr (4, [.ref a_tl, .int tn, .int tc_11])), (a_tl, .inl (cC, 200, .inl tl))] := hD
      refine lv_istore_n (lv' := [(3, .int r_10), (2, .int r_1), (0, .ref h4), (1, .ref h0)]) hx hb dX4_readCourtier_29 rfl hl (by decide) rfl (fun ls hl => ?_)
      refine lv_iload_n hx hb dX4_readCourtier_30 rfl (lv_at hl 0 rfl) ?_
      refine lv_iconst (v := 0) hx hb dX4_readCourtier_31 (by decide) ?_
      refine lv_bipush (v := 6) hx hb dX4_readCourtier_32 (by decide) ?_
      refine kSN_i (wr := [(h0, .inr (0, [.ref a_kd, .ref a_hd, .ref a_pl, .ref a_st, .ref a_ho, .ref a_be, .int nc, .int nn, .int dy])), (a_kd, .inl (cI, 7, .inl kd)), (a_hd, .inl (cI, 7, .inl hd)), (a_pl, .inl (cI, 7, .inl pl)), (a_st, .inl (cI, 7, .inl st)), (a_ho, .inl (cI, 6, .inl ho)), (a_be, .inl (cI, 42, .inl be)), (h4, .inr (4, [.ref a_tl, .int tn, .int tc_11])), (a_tl, .inl (cC, 200, .inl tl))]) (As := [.int r_10, .int (0 : Int32), .int (6 : Int32)]) (n := 3) ⟨hx, hb, hml, hown, hts⟩ hK hP hD hS hA (c_X5_isIn l D cI cC cQ   r_10 (0 : Int32) (6 : Int32) _ h) gX4_readCourtier_X5_isIn_n48 (hK.2 _ (List.mem_of_getElem? (i := 15) rfl)) (k_0) (k_1) rfl ⟨rfl, rfl⟩ yoX5_isIn ⟨Nat.le_of_ble_eq_true rfl, Nat.le_of_ble_eq_true rfl⟩ rfl hl.1 rfl (Nat.le_of_ble_eq_true rfl) dX4_readCourtier_34 ⟨Nat.zero_le _, Nat.zero_le _⟩ [] [0, 1, 2, 3, 4, 5, 6, 7, 8] rfl (by decide) rfl (by decide) (by decide) (fun r_12 u H locs h hP hD hS => ?_)
      have hP : va_P D vwCl [(h0, .inr (0, [.ref a_kd, .ref a_hd, .ref a_pl, .ref a_st, .ref a_ho, .ref a_be, .int nc, .int nn, .int dy])), (a_kd, .inl (cI, 7, .inl kd)), (a_hd, .inl (cI, 7, .inl hd)), (a_pl, .inl (cI, 7, .inl pl)), (a_st, .inl (cI, 7, .inl st)), (a_ho, .inl (cI, 6, .inl ho)), (a_be, .inl (cI, 42, .inl be)), (h4, .inr (4, [.ref a_tl, .int tn, .int tc_11])), (a_tl, .inl (cC, 200, .inl tl))] H := hP
      have hD : va_D A [(h0, .inr (0, [.ref a_kd, .ref a_hd, .ref a_pl, .ref a_st, .ref a_ho, .ref a_be, .int nc, .int nn, .int dy])), (a_kd, .inl (cI, 7, .inl kd)), (a_hd, .inl (cI, 7, .inl hd)), (a_pl, .inl (cI, 7, .inl pl)), (a_st, .inl (cI, 7, .inl st)), (a_ho, .inl (cI, 6, .inl ho)), (a_be, .inl (cI, 42, .inl be)), (h4, .inr (4, [.ref a_tl, .int tn, .int tc_11])), (a_tl, .inl (cC, 200, .inl tl))] := hD
      obtain ⟨b_13, h⟩ := h
      refine lv_if_ne (tgt := 46) hx hb dX4_readCourtier_37 (by decide) (fun c_14 => ?_) (fun c_14 => ?_)
      · have h := h.2 c_14
        refine lv_iconst (v := 1) hx hb dX4_readCourtier_46 (by decide) ?_
        refine lv_goto (tgt := 51) hx hb dX4_readCourtier_47 (by decide) ?_
        refine lv_istore (lv' := [(4, .int (1 : Int32)), (3, .int r_10), (2, .int r_1), (0, .ref h4), (1, .ref h0)]) hx hb dX4_readCourtier_51 hl (by decide) rfl (fun ls hl => ?_)
        refine lv_iload hx hb dX4_readCourtier_53 (lv_at hl 0 rfl) ?_
        refine lv_if_eq (tgt := 80) hx hb dX4_readCourtier_55 (by decide) (fun c_ => absurd c_ (by decide)) (fun _ => ?_)
        refine lv_aload_n hx hb dX4_readCourtier_58 rfl (lv_at hl 3 rfl) ?_
        refine lv_bipush (v := 59) hx hb dX4_readCourtier_59 (by decide) ?_
        refine kV_i (wr := [(h0, .inr (0, [.ref a_kd, .ref a_hd, .ref a_pl, .ref a_st, .ref a_ho, .ref a_be, .int nc, .int nn, .int dy])), (a_kd, .inl (cI, 7, .inl kd)), (a_hd, .inl (cI, 7, .inl hd)), (a_pl, .inl (cI, 7, .inl pl)), (a_st, .inl (cI, 7, .inl st)), (a_ho, .inl (cI, 6, .inl ho)), (a_be, .inl (cI, 42, .inl be))]) (As := [.int (59 : Int32)]) (n := 1) ⟨hx, hb, hml, hown, hts⟩ hK hP hD hS hA (c_X4_takes l D cI cC cQ h4 a_tl tl tn tc_11 (59 : Int32) _ h) gX4_readCourtier_X4_takes rfl rfl ⟨rfl, rfl⟩ yoX4_takes ⟨Nat.le_of_ble_eq_true rfl, Nat.le_of_ble_eq_true rfl⟩ (q0 := 0) (ci := 4) rfl rfl rfl rfl hl.1 rfl (Nat.le_of_ble_eq_true rfl) dX4_readCourtier_61 ⟨Nat.zero_le _, Nat.zero_le _⟩ [7, 8] [0, 1, 2, 3, 4, 5, 6] rfl (by decide) rfl (by decide) (by decide) (fun r_15 tc_16 H locs h hP hD hS => ?_)
        have hP : va_P D vwCl [(h0, .inr (0, [.ref a_kd, .ref a_hd, .ref a_pl, .ref a_st, .ref a_ho, .ref a_be, .int nc, .int nn, .int dy])), (a_kd, .inl (cI, 7, .inl kd)), (a_hd, .inl (cI, 7, .inl hd)), (a_pl, .inl (cI, 7, .inl pl)), (a_st, .inl (cI, 7, .inl st)), (a_ho, .inl (cI, 6, .inl ho)), (a_be, .inl (cI, 42, .inl be)), (h4, .inr (4, [.ref a_tl, .int tn, .int tc_16])), (a_tl, .inl (cC, 200, .inl tl))] H := hP
        have hD : va_D A [(h0, .inr (0, [.ref a_kd, .ref a_hd, .ref a_pl, .ref a_st, .ref a_ho, .ref a_be, .int nc, .int nn, .int dy])), (a_kd, .inl (cI, 7, .inl kd)), (a_hd, .inl (cI, 7, .inl hd)), (a_pl, .inl (cI, 7, .inl pl)), (a_st, .inl (cI, 7, .inl st)), (a_ho, .inl (cI, 6, .inl ho)), (a_be, .inl (cI, 42, .inl be)), (h4, .inr (4, [.ref a_tl, .int tn, .int tc_16])), (a_tl, .inl (cC, 200, .inl tl))] := hD
        obtain ⟨b_17, h⟩ := h
        refine lv_if_eq (tgt := 80) hx hb dX4_readCourtier_64 (by decide) (fun c_18 => ?_) (fun c_18 => ?_)
        · have h := h.1 c_18
          refine lv_iconst (v := 0) hx hb dX4_readCourtier_80 (by decide) ?_
          have hP := hP.sub (ws' := [(h4, .inr (4, [.ref a_tl, .int tn, .int tc_16])), (a_tl, .inl (cC, 200, .inl tl)), (h0, .inr (0, [.ref a_kd, .ref a_hd, .ref a_pl, .ref a_st, .ref a_ho, .ref a_be, .int nc, .int nn, .int dy])), (a_kd, .inl (cI, 7, .inl kd)), (a_hd, .inl (cI, 7, .inl hd)), (a_pl, .inl (cI, 7, .inl pl)), (a_st, .inl (cI, 7, .inl st)), (a_ho, .inl (cI, 6, .inl ho)), (a_be, .inl (cI, 42, .inl be))]) [7, 8, 0, 1, 2, 3, 4, 5, 6] rfl
          have hD := hD.sub (ws' := [(h4, .inr (4, [.ref a_tl, .int tn, .int tc_16])), (a_tl, .inl (cC, 200, .inl tl)), (h0, .inr (0, [.ref a_kd, .ref a_hd, .ref a_pl, .ref a_st, .ref a_ho, .ref a_be, .int nc, .int nn, .int dy])), (a_kd, .inl (cI, 7, .inl kd)), (a_hd, .inl (cI, 7, .inl hd)), (a_pl, .inl (cI, 7, .inl pl)), (a_st, .inl (cI, 7, .inl st)), (a_ho, .inl (cI, 6, .inl ho)), (a_be, .inl (cI, 42, .inl be))]) [7, 8, 0, 1, 2, 3, 4, 5, 6] (by decide) rfl
          exact hret (0 : Int32) (tc_16, kd, hd, pl, st, nc) _ _ _ ls (by decide) h hP hD hS dX4_readCourtier_81
        · have h := h.2 c_18
          refine lv_aload_n hx hb dX4_readCourtier_67 rfl (lv_at hl 4 rfl) ?_
          refine lv_iload_n hx hb dX4_readCourtier_68 rfl (lv_at hl 2 rfl) ?_
          refine lv_iload_n hx hb dX4_readCourtier_69 rfl (lv_at hl 1 rfl) ?_
          refine kV_i (wr := [(h4, .inr (4, [.ref a_tl, .int tn, .int tc_16])), (a_tl, .inl (cC, 200, .inl tl))]) (As := [.int r_1, .int r_10]) (n := 2) ⟨hx, hb, hml, hown, hts⟩ hK hP hD hS hA (c_X0_addCourtier l D cI cC cQ h0 a_kd a_hd a_pl a_st a_ho a_be kd hd pl st ho be nc nn dy r_1 r_10 _ h) gX4_readCourtier_X0_addCourtier rfl rfl ⟨rfl, rfl⟩ yoX0_addCourtier ⟨Nat.le_of_ble_eq_true rfl, Nat.le_of_ble_eq_true rfl⟩ (q0 := 0) (ci := 0) rfl rfl rfl rfl hl.1 rfl (Nat.le_of_ble_eq_true rfl) dX4_readCourtier_70 ⟨Nat.zero_le _, Nat.zero_le _⟩ [0, 1, 2, 3, 4, 5, 6] [7, 8] rfl (by decide) rfl (by decide) (by decide) (fun r_19 u H locs h hP hD hS => ?_)
          obtain ⟨kd_20, hd_21, pl_22, st_23, nc_24⟩ := u
          have hP : va_P D vwCl [(h4, .inr (4, [.ref a_tl, .int tn, .int tc_16])), (a_tl, .inl (cC, 200, .inl tl)), (h0, .inr (0, [.ref a_kd, .ref a_hd, .ref a_pl, .ref a_st, .ref a_ho, .ref a_be, .int nc_24, .int nn, .int dy])), (a_kd, .inl (cI, 7, .inl kd_20)), (a_hd, .inl (cI, 7, .inl hd_21)), (a_pl, .inl (cI, 7, .inl pl_22)), (a_st, .inl (cI, 7, .inl st_23)), (a_ho, .inl (cI, 6, .inl ho)), (a_be, .inl (cI, 42, .inl be))] H := hP
          have hD : va_D A [(h4, .inr (4, [.ref a_tl, .int tn, .int tc_16])), (a_tl, .inl (cC, 200, .inl tl)), (h0, .inr (0, [.ref a_kd, .ref a_hd, .ref a_pl, .ref a_st, .ref a_ho, .ref a_be, .int nc_24, .int nn, .int dy])), (a_kd, .inl (cI, 7, .inl kd_20)), (a_hd, .inl (cI, 7, .inl hd_21)), (a_pl, .inl (cI, 7, .inl pl_22)), (a_st, .inl (cI, 7, .inl st_23)), (a_ho, .inl (cI, 6, .inl ho)), (a_be, .inl (cI, 42, .inl be))] := hD
          obtain ⟨b_25, h⟩ := h
          refine lv_if_eq (tgt := 80) hx hb dX4_readCourtier_73 (by decide) (fun c_26 => ?_) (fun c_26 => ?_)
          · have h := h.1 c_26
            refine lv_iconst (v := 0) hx hb dX4_readCourtier_80 (by decide) ?_
            exact hret (0 : Int32) (tc_16, kd_20, hd_21, pl_22, st_23, nc_24) _ _ _ ls (by decide) h hP hD hS dX4_readCourtier_81
          · have h := h.2 c_26
            refine lv_iconst (v := 1) hx hb dX4_readCourtier_76 (by decide) ?_
            refine lv_goto (tgt := 81) hx hb dX4_readCourtier_77 (by decide) ?_
            exact hret (1 : Int32) (tc_16, kd_20, hd_21, pl_22, st_23, nc_24) _ _ _ ls (by decide) h hP hD hS dX4_readCourtier_81
      · have h := h.1 c_14
        refine lv_iload_n hx hb dX4_readCourtier_40 rfl (lv_at hl 0 rfl) ?_
        refine lv_bipush (v := 9) hx hb dX4_readCourtier_41 (by decide) ?_
        refine lv_icmp_ne (tgt := 50) hx hb dX4_readCourtier_43 (by decide) (fun c_27 => ?_) (fun c_27 => ?_)
        · have h := h.2 c_27
          refine lv_iconst (v := 0) hx hb dX4_readCourtier_50 (by decide) ?_
          refine lv_istore (lv' := [(4, .int (0 : Int32)), (3, .int r_10), (2, .int r_1), (0, .ref h4), (1, .ref h0)]) hx hb dX4_readCourtier_51 hl (by decide) rfl (fun ls hl => ?_)
          refine lv_iload hx hb dX4_readCourtier_53 (lv_at hl 0 rfl) ?_
          refine lv_if_eq (tgt := 80) hx hb dX4_readCourtier_55 (by decide) (fun _ => ?_) (fun c_ => absurd c_ (by decide))
          refine lv_iconst (v := 0) hx hb dX4_readCourtier_80 (by decide) ?_
          have hP := hP.sub (ws' := [(h4, .inr (4, [.ref a_tl, .int tn, .int tc_11])), (a_tl, .inl (cC, 200, .inl tl)), (h0, .inr (0, [.ref a_kd, .ref a_hd, .ref a_pl, .ref a_st, .ref a_ho, .ref a_be, .int nc, .int nn, .int dy])), (a_kd, .inl (cI, 7, .inl kd)), (a_hd, .inl (cI, 7, .inl hd)), (a_pl, .inl (cI, 7, .inl pl)), (a_st, .inl (cI, 7, .inl st)), (a_ho, .inl (cI, 6, .inl ho)), (a_be, .inl (cI, 42, .inl be))]) [7, 8, 0, 1, 2, 3, 4, 5, 6] rfl
          have hD := hD.sub (ws' := [(h4, .inr (4, [.ref a_tl, .int tn, .int tc_11])), (a_tl, .inl (cC, 200, .inl tl)), (h0, .inr (0, [.ref a_kd, .ref a_hd, .ref a_pl, .ref a_st, .ref a_ho, .ref a_be, .int nc, .int nn, .int dy])), (a_kd, .inl (cI, 7, .inl kd)), (a_hd, .inl (cI, 7, .inl hd)), (a_pl, .inl (cI, 7, .inl pl)), (a_st, .inl (cI, 7, .inl st)), (a_ho, .inl (cI, 6, .inl ho)), (a_be, .inl (cI, 42, .inl be))]) [7, 8, 0, 1, 2, 3, 4, 5, 6] (by decide) rfl
          exact hret (0 : Int32) (tc_11, kd, hd, pl, st, nc) _ _ _ ls (by decide) h hP hD hS dX4_readCourtier_81
        · have h := h.1 c_27
          refine lv_iconst (v := 1) hx hb dX4_readCourtier_46 (by decide) ?_
          refine lv_goto (tgt := 51) hx hb dX4_readCourtier_47 (by decide) ?_
          refine lv_istore (lv' := [(4, .int (1 : Int32)), (3, .int r_10), (2, .int r_1), (0, .ref h4), (1, .ref h0)]) hx hb dX4_readCourtier_51 hl (by decide) rfl (fun ls hl => ?_)
          refine lv_iload hx hb dX4_readCourtier_53 (lv_at hl 0 rfl) ?_
          refine lv_if_eq (tgt := 80) hx hb dX4_readCourtier_55 (by decide) (fun c_ => absurd c_ (by decide)) (fun _ => ?_)
          refine lv_aload_n hx hb dX4_readCourtier_58 rfl (lv_at hl 3 rfl) ?_
          refine lv_bipush (v := 59) hx hb dX4_readCourtier_59 (by decide) ?_
          refine kV_i (wr := [(h0, .inr (0, [.ref a_kd, .ref a_hd, .ref a_pl, .ref a_st, .ref a_ho, .ref a_be, .int nc, .int nn, .int dy])), (a_kd, .inl (cI, 7, .inl kd)), (a_hd, .inl (cI, 7, .inl hd)), (a_pl, .inl (cI, 7, .inl pl)), (a_st, .inl (cI, 7, .inl st)), (a_ho, .inl (cI, 6, .inl ho)), (a_be, .inl (cI, 42, .inl be))]) (As := [.int (59 : Int32)]) (n := 1) ⟨hx, hb, hml, hown, hts⟩ hK hP hD hS hA (c_X4_takes l D cI cC cQ h4 a_tl tl tn tc_11 (59 : Int32) _ h) gX4_readCourtier_X4_takes rfl rfl ⟨rfl, rfl⟩ yoX4_takes ⟨Nat.le_of_ble_eq_true rfl, Nat.le_of_ble_eq_true rfl⟩ (q0 := 0) (ci := 4) rfl rfl rfl rfl hl.1 rfl (Nat.le_of_ble_eq_true rfl) dX4_readCourtier_61 ⟨Nat.zero_le _, Nat.zero_le _⟩ [7, 8] [0, 1, 2, 3, 4, 5, 6] rfl (by decide) rfl (by decide) (by decide) (fun r_28 tc_29 H locs h hP hD hS => ?_)
          have hP : va_P D vwCl [(h0, .inr (0, [.ref a_kd, .ref a_hd, .ref a_pl, .ref a_st, .ref a_ho, .ref a_be, .int nc, .int nn, .int dy])), (a_kd, .inl (cI, 7, .inl kd)), (a_hd, .inl (cI, 7, .inl hd)), (a_pl, .inl (cI, 7, .inl pl)), (a_st, .inl (cI, 7, .inl st)), (a_ho, .inl (cI, 6, .inl ho)), (a_be, .inl (cI, 42, .inl be)), (h4, .inr (4, [.ref a_tl, .int tn, .int tc_29])), (a_tl, .inl (cC, 200, .inl tl))] H := hP
          have hD : va_D A [(h0, .inr (0, [.ref a_kd, .ref a_hd, .ref a_pl, .ref a_st, .ref a_ho, .ref a_be, .int nc, .int nn, .int dy])), (a_kd, .inl (cI, 7, .inl kd)), (a_hd, .inl (cI, 7, .inl hd)), (a_pl, .inl (cI, 7, .inl pl)), (a_st, .inl (cI, 7, .inl st)), (a_ho, .inl (cI, 6, .inl ho)), (a_be, .inl (cI, 42, .inl be)), (h4, .inr (4, [.ref a_tl, .int tn, .int tc_29])), (a_tl, .inl (cC, 200, .inl tl))] := hD
          obtain ⟨b_30, h⟩ := h
          refine lv_if_eq (tgt := 80) hx hb dX4_readCourtier_64 (by decide) (fun c_31 => ?_) (fun c_31 => ?_)
          · have h := h.1 c_31
            refine lv_iconst (v := 0) hx hb dX4_readCourtier_80 (by decide) ?_
            have hP := hP.sub (ws' := [(h4, .inr (4, [.ref a_tl, .int tn, .int tc_29])), (a_tl, .inl (cC, 200, .inl tl)), (h0, .inr (0, [.ref a_kd, .ref a_hd, .ref a_pl, .ref a_st, .ref a_ho, .ref a_be, .int nc, .int nn, .int dy])), (a_kd, .inl (cI, 7, .inl kd)), (a_hd, .inl (cI, 7, .inl hd)), (a_pl, .inl (cI, 7, .inl pl)), (a_st, .inl (cI, 7, .inl st)), (a_ho, .inl (cI, 6, .inl ho)), (a_be, .inl (cI, 42, .inl be))]) [7, 8, 0, 1, 2, 3, 4, 5, 6] rfl
            have hD := hD.sub (ws' := [(h4, .inr (4, [.ref a_tl, .int tn, .int tc_29])), (a_tl, .inl (cC, 200, .inl tl)), (h0, .inr (0, [.ref a_kd, .ref a_hd, .ref a_pl, .ref a_st, .ref a_ho, .ref a_be, .int nc, .int nn, .int dy])), (a_kd, .inl (cI, 7, .inl kd)), (a_hd, .inl (cI, 7, .inl hd)), (a_pl, .inl (cI, 7, .inl pl)), (a_st, .inl (cI, 7, .inl st)), (a_ho, .inl (cI, 6, .inl ho)), (a_be, .inl (cI, 42, .inl be))]) [7, 8, 0, 1, 2, 3, 4, 5, 6] (by decide) rfl
            exact hret (0 : Int32) (tc_29, kd, hd, pl, st, nc) _ _ _ ls (by decide) h hP hD hS dX4_readCourtier_81
          · have h := h.2 c_31
            refine lv_aload_n hx hb dX4_readCourtier_67 rfl (lv_at hl 4 rfl) ?_
            refine lv_iload_n hx hb dX4_readCourtier_68 rfl (lv_at hl 2 rfl) ?_
            refine lv_iload_n hx hb dX4_readCourtier_69 rfl (lv_at hl 1 rfl) ?_
            refine kV_i (wr := [(h4, .inr (4, [.ref a_tl, .int tn, .int tc_29])), (a_tl, .inl (cC, 200, .inl tl))]) (As := [.int r_1, .int r_10]) (n := 2) ⟨hx, hb, hml, hown, hts⟩ hK hP hD hS hA (c_X0_addCourtier l D cI cC cQ h0 a_kd a_hd a_pl a_st a_ho a_be kd hd pl st ho be nc nn dy r_1 r_10 _ h) gX4_readCourtier_X0_addCourtier rfl rfl ⟨rfl, rfl⟩ yoX0_addCourtier ⟨Nat.le_of_ble_eq_true rfl, Nat.le_of_ble_eq_true rfl⟩ (q0 := 0) (ci := 0) rfl rfl rfl rfl hl.1 rfl (Nat.le_of_ble_eq_true rfl) dX4_readCourtier_70 ⟨Nat.zero_le _, Nat.zero_le _⟩ [0, 1, 2, 3, 4, 5, 6] [7, 8] rfl (by decide) rfl (by decide) (by decide) (fun r_32 u H locs h hP hD hS => ?_)
            obtain ⟨kd_33, hd_34, pl_35, st_36, nc_37⟩ := u
            have hP : va_P D vwCl [(h4, .inr (4, [.ref a_tl, .int tn, .int tc_29])), (a_tl, .inl (cC, 200, .inl tl)), (h0, .inr (0, [.ref a_kd, .ref a_hd, .ref a_pl, .ref a_st, .ref a_ho, .ref a_be, .int nc_37, .int nn, .int dy])), (a_kd, .inl (cI, 7, .inl kd_33)), (a_hd, .inl (cI, 7, .inl hd_34)), (a_pl, .inl (cI, 7, .inl pl_35)), (a_st, .inl (cI, 7, .inl st_36)), (a_ho, .inl (cI, 6, .inl ho)), (a_be, .inl (cI, 42, .inl be))] H := hP
            have hD : va_D A [(h4, .inr (4, [.ref a_tl, .int tn, .int tc_29])), (a_tl, .inl (cC, 200, .inl tl)), (h0, .inr (0, [.ref a_kd, .ref a_hd, .ref a_pl, .ref a_st, .ref a_ho, .ref a_be, .int nc_37, .int nn, .int dy])), (a_kd, .inl (cI, 7, .inl kd_33)), (a_hd, .inl (cI, 7, .inl hd_34)), (a_pl, .inl (cI, 7, .inl pl_35)), (a_st, .inl (cI, 7, .inl st_36)), (a_ho, .inl (cI, 6, .inl ho)), (a_be, .inl (cI, 42, .inl be))] := hD
            obtain ⟨b_38, h⟩ := h
            refine lv_if_eq (tgt := 80) hx hb dX4_readCourtier_73 (by decide) (fun c_39 => ?_) (fun c_39 => ?_)
            · have h := h.1 c_39
              refine lv_iconst (v := 0) hx hb dX4_readCourtier_80 (by decide) ?_
              exact hret (0 : Int32) (tc_29, kd_33, hd_34, pl_35, st_36, nc_37) _ _ _ ls (by decide) h hP hD hS dX4_readCourtier_81
            · have h := h.2 c_39
              refine lv_iconst (v := 1) hx hb dX4_readCourtier_76 (by decide) ?_
              refine lv_goto (tgt := 81) hx hb dX4_readCourtier_77 (by decide) ?_
              exact hret (1 : Int32) (tc_29, kd_33, hd_34, pl_35, st_36, nc_37) _ _ _ ls (by decide) h hP hD hS dX4_readCourtier_81
    · have h := h.1 c_9
      refine lv_iconst (v := 0) hx hb dX4_readCourtier_23 (by decide) ?_
      have hP := hP.sub (ws' := [(h4, .inr (4, [.ref a_tl, .int tn, .int tc_7])), (a_tl, .inl (cC, 200, .inl tl)), (h0, .inr (0, [.ref a_kd, .ref a_hd, .ref a_pl, .ref a_st, .ref a_ho, .ref a_be, .int nc, .int nn, .int dy])), (a_kd, .inl (cI, 7, .inl kd)), (a_hd, .inl (cI, 7, .inl hd)), (a_pl, .inl (cI, 7, .inl pl)), (a_st, .inl (cI, 7, .inl st)), (a_ho, .inl (cI, 6, .inl ho)), (a_be, .inl (cI, 42, .inl be))]) [7, 8, 0, 1, 2, 3, 4, 5, 6] rfl
      have hD := hD.sub (ws' := [(h4, .inr (4, [.ref a_tl, .int tn, .int tc_7])), (a_tl, .inl (cC, 200, .inl tl)), (h0, .inr (0, [.ref a_kd, .ref a_hd, .ref a_pl, .ref a_st, .ref a_ho, .ref a_be, .int nc, .int nn, .int dy])), (a_kd, .inl (cI, 7, .inl kd)), (a_hd, .inl (cI, 7, .inl hd)), (a_pl, .inl (cI, 7, .inl pl)), (a_st, .inl (cI, 7, .inl st)), (a_ho, .inl (cI, 6, .inl ho)), (a_be, .inl (cI, 42, .inl be))]) [7, 8, 0, 1, 2, 3, 4, 5, 6] (by decide) rfl
      exact hret (0 : Int32) (tc_7, kd, hd, pl, st, nc) _ _ _ ls (by decide) h hP hD hS dX4_readCourtier_24

/-! DoubtCourt$Text.readNews -/
abbrev rmX4_readNews : Room := { frames := 3, cells := 0, slots := 0, locals := 63 }
theorem yoX4_readNews : yX4_readNews.cls ≠ "java/lang/invoke/MethodHandle" ∧ yX4_readNews.cls ≠ "java/lang/invoke/VarHandle" ∧ (parseMethodDescriptor yX4_readNews.desc).map (fun d => d.parameters.length) = some 1 := by decide +kernel
set_option maxHeartbeats 4000000 in
set_option maxRecDepth 100000 in
theorem c_X4_readNews (l : Launch) (D : va_G) (cI cC cQ : ClassId) (h4 : Nat) (a_tl : Nat) (h0 : Nat) (a_kd : Nat) (a_hd : Nat) (a_pl : Nat) (a_st : Nat) (a_ho : Nat) (a_be : Nat) (tl : Nat → Int32) (tn : Int32) (tc : Int32) (kd : Nat → Int32) (hd : Nat → Int32) (pl : Nat → Int32) (st : Nat → Int32) (ho : Nat → Int32) (be : Nat → Int32) (nc : Int32) (nn : Int32) (dy : Int32) (Q : Int32 → Int32 → (Nat → Int32) → (Nat → Int32) → Int32 → Prop) (h : wX4_readNews tl tn tc ho be nc nn Q) : Ci (S := (Int32) × (Nat → Int32) × (Nat → Int32) × (Int32)) l D cI cC cQ yX4_readNews wsX4_readNews rmX4_readNews [.ref h4, .ref h0] [(h4, .inr (4, [.ref a_tl, .int tn, .int tc])), (a_tl, .inl (cC, 200, .inl tl)), (h0, .inr (0, [.ref a_kd, .ref a_hd, .ref a_pl, .ref a_st, .ref a_ho, .ref a_be, .int nc, .int nn, .int dy])), (a_kd, .inl (cI, 7, .inl kd)), (a_hd, .inl (cI, 7, .inl hd)), (a_pl, .inl (cI, 7, .inl pl)), (a_st, .inl (cI, 7, .inl st)), (a_ho, .inl (cI, 6, .inl ho)), (a_be, .inl (cI, 42, .inl be))] (fun u => [(h4, .inr (4, [.ref a_tl, .int tn, .int u.1])), (a_tl, .inl (cC, 200, .inl tl)), (h0, .inr (0, [.ref a_kd, .ref a_hd, .ref a_pl, .ref a_st, .ref a_ho, .ref a_be, .int nc, .int u.2.2.2, .int dy])), (a_kd, .inl (cI, 7, .inl kd)), (a_hd, .inl (cI, 7, .inl hd)), (a_pl, .inl (cI, 7, .inl pl)), (a_st, .inl (cI, 7, .inl st)), (a_ho, .inl (cI, 6, .inl u.2.1)), (a_be, .inl (cI, 42, .inl u.2.2.1))]) (fun r u => (r = 0 ∨ r = 1) ∧ Q r u.1 u.2.1 u.2.2.1 u.2.2.2) := by
  refine Cz_mk (cc := cX4_readNews) (maxL := 6) (by decide) rfl (Nat.le_of_ble_eq_true rfl) ?_
  intro p e s m args below meth c A Z ls hx hb hml hown hts hK hA hP hD hret hl
  have hS : va_S A s.heap s.heap [] := va_S.rf
  have hin0 : ∀ w ∈ u_ws RX0 TX0 9, w ∈ wsX4_readNews := by decide +kernel
  have hl : lv_has ls 6 [(0, .ref h4), (1, .ref h0)] := hl
  have L32 : ∀ (n : Nat) {x3 : Int32} {x4 : Int32} {tc : Int32} {ho : Nat → Int32} {be : Nat → Int32} {nn : Int32} {H : Heap} {locs : List Loc} {ls : Array Slot}, wX4_readNews_L32 x3 tl tn ho nc nn Q n x4 tc be → va_P D vwCl [(h4, .inr (4, [.ref a_tl, .int tn, .int tc])), (a_tl, .inl (cC, 200, .inl tl)), (h0, .inr (0, [.ref a_kd, .ref a_hd, .ref a_pl, .ref a_st, .ref a_ho, .ref a_be, .int nc, .int nn, .int dy])), (a_kd, .inl (cI, 7, .inl kd)), (a_hd, .inl (cI, 7, .inl hd)), (a_pl, .inl (cI, 7, .inl pl)), (a_st, .inl (cI, 7, .inl st)), (a_ho, .inl (cI, 6, .inl ho)), (a_be, .inl (cI, 42, .inl be))] H → va_D A [(h4, .inr (4, [.ref a_tl, .int tn, .int tc])), (a_tl, .inl (cC, 200, .inl tl)), (h0, .inr (0, [.ref a_kd, .ref a_hd, .ref a_pl, .ref a_st, .ref a_ho, .ref a_be, .int nc, .int nn, .int dy])), (a_kd, .inl (cI, 7, .inl kd)), (a_hd, .inl (cI, 7, .inl hd)), (a_pl, .inl (cI, 7, .inl pl)), (a_st, .inl (cI, 7, .inl st)), (a_ho, .inl (cI, 6, .inl ho)), (a_be, .inl (cI, 42, .inl be))] → va_S A s.heap H locs → lv_has ls 6 [(0, .ref h4), (1, .ref h0), (3, .int x3), (4, .int x4)] → W p l e rmX4_readNews s m args below meth c H locs 0 0 Z (F0 m 32 ls []) := by
    intro n
    induction n with
    | zero =>
      intro x3 x4 tc ho be nn H locs ls h hP hD hS hl
      exact (show False from h).elim
    | succ n ih =>
      intro x3 x4 tc ho be nn H locs ls h hP hD hS hl
      refine lv_iload hx hb dX4_readNews_32 (lv_at hl 3 rfl) ?_
      refine lv_aload_n hx hb dX4_readNews_34 rfl (lv_at hl 1 rfl) ?_
      refine va_getN (D := D) (ci := 0) (v := .int nc) (C := RX0) (T := TX0) (N := 9) hx hb hts hin0 hown hK.1 hP 2 rfl rfl 6 (by decide) (va_Nw.use rfl (hK.2 _ (List.mem_of_getElem? (i := 29) rfl))) (fun _ h9 => h9) rfl dX4_readNews_35 ?_
      refine lv_icmp_ge (tgt := 71) hx hb dX4_readNews_38 (by decide) (fun c_20 => ?_) (fun c_20 => ?_)
      · have h := h.1 c_20
        refine lv_aload_n hx hb dX4_readNews_71 rfl (lv_at hl 0 rfl) ?_
        refine lv_bipush (v := 59) hx hb dX4_readNews_72 (by decide) ?_
        refine kV_i (wr := [(h0, .inr (0, [.ref a_kd, .ref a_hd, .ref a_pl, .ref a_st, .ref a_ho, .ref a_be, .int nc, .int nn, .int dy])), (a_kd, .inl (cI, 7, .inl kd)), (a_hd, .inl (cI, 7, .inl hd)), (a_pl, .inl (cI, 7, .inl pl)), (a_st, .inl (cI, 7, .inl st)), (a_ho, .inl (cI, 6, .inl ho)), (a_be, .inl (cI, 42, .inl be))]) (As := [.int (59 : Int32)]) (n := 1) ⟨hx, hb, hml, hown, hts⟩ hK hP hD hS hA (c_X4_takes l D cI cC cQ h4 a_tl tl tn tc (59 : Int32) _ h) gX4_readNews_X4_takes rfl rfl ⟨rfl, rfl⟩ yoX4_takes ⟨Nat.le_of_ble_eq_true rfl, Nat.le_of_ble_eq_true rfl⟩ (q0 := 0) (ci := 4) rfl rfl rfl rfl hl.1 rfl (Nat.le_of_ble_eq_true rfl) dX4_readNews_74 ⟨Nat.zero_le _, Nat.zero_le _⟩ [0, 1] [2, 3, 4, 5, 6, 7, 8] rfl (by decide) rfl (by decide) (by decide) (fun r_21 tc_22 H locs h hP hD hS => ?_)
        have hP : va_P D vwCl [(h0, .inr (0, [.ref a_kd, .ref a_hd, .ref a_pl, .ref a_st, .ref a_ho, .ref a_be, .int nc, .int nn, .int dy])), (a_kd, .inl (cI, 7, .inl kd)), (a_hd, .inl (cI, 7, .inl hd)), (a_pl, .inl (cI, 7, .inl pl)), (a_st, .inl (cI, 7, .inl st)), (a_ho, .inl (cI, 6, .inl ho)), (a_be, .inl (cI, 42, .inl be)), (h4, .inr (4, [.ref a_tl, .int tn, .int tc_22])), (a_tl, .inl (cC, 200, .inl tl))] H := hP
        have hD : va_D A [(h0, .inr (0, [.ref a_kd, .ref a_hd, .ref a_pl, .ref a_st, .ref a_ho, .ref a_be, .int nc, .int nn, .int dy])), (a_kd, .inl (cI, 7, .inl kd)), (a_hd, .inl (cI, 7, .inl hd)), (a_pl, .inl (cI, 7, .inl pl)), (a_st, .inl (cI, 7, .inl st)), (a_ho, .inl (cI, 6, .inl ho)), (a_be, .inl (cI, 42, .inl be)), (h4, .inr (4, [.ref a_tl, .int tn, .int tc_22])), (a_tl, .inl (cC, 200, .inl tl))] := hD
        obtain ⟨b_23, h⟩ := h
        have hP := hP.sub (ws' := [(h4, .inr (4, [.ref a_tl, .int tn, .int tc_22])), (a_tl, .inl (cC, 200, .inl tl)), (h0, .inr (0, [.ref a_kd, .ref a_hd, .ref a_pl, .ref a_st, .ref a_ho, .ref a_be, .int nc, .int nn, .int dy])), (a_kd, .inl (cI, 7, .inl kd)), (a_hd, .inl (cI, 7, .inl hd)), (a_pl, .inl (cI, 7, .inl pl)), (a_st, .inl (cI, 7, .inl st)), (a_ho, .inl (cI, 6, .inl ho)), (a_be, .inl (cI, 42, .inl be))]) [7, 8, 0, 1, 2, 3, 4, 5, 6] rfl
        have hD := hD.sub (ws' := [(h4, .inr (4, [.ref a_tl, .int tn, .int tc_22])), (a_tl, .inl (cC, 200, .inl tl)), (h0, .inr (0, [.ref a_kd, .ref a_hd, .ref a_pl, .ref a_st, .ref a_ho, .ref a_be, .int nc, .int nn, .int dy])), (a_kd, .inl (cI, 7, .inl kd)), (a_hd, .inl (cI, 7, .inl hd)), (a_pl, .inl (cI, 7, .inl pl)), (a_st, .inl (cI, 7, .inl st)), (a_ho, .inl (cI, 6, .inl ho)), (a_be, .inl (cI, 42, .inl be))]) [7, 8, 0, 1, 2, 3, 4, 5, 6] (by decide) rfl
        exact hret r_21 (tc_22, ho, be, nn) _ _ _ ls b_23 h hP hD hS dX4_readNews_77
      · have h := h.2 c_20
        refine lv_aload_n hx hb dX4_readNews_41 rfl (lv_at hl 0 rfl) ?_
        refine kV_i (wr := [(h0, .inr (0, [.ref a_kd, .ref a_hd, .ref a_pl, .ref a_st, .ref a_ho, .ref a_be, .int nc, .int nn, .int dy])), (a_kd, .inl (cI, 7, .inl kd)), (a_hd, .inl (cI, 7, .inl hd)), (a_pl, .inl (cI, 7, .inl pl)), (a_st, .inl (cI, 7, .inl st)), (a_ho, .inl (cI, 6, .inl ho)), (a_be, .inl (cI, 42, .inl be))]) (As := []) (n := 0) ⟨hx, hb, hml, hown, hts⟩ hK hP hD hS hA (c_X4_figure l D cI cC cQ h4 a_tl tl tn tc  _ h) gX4_readNews_X4_figure rfl rfl ⟨rfl, rfl⟩ yoX4_figure ⟨Nat.le_of_ble_eq_true rfl, Nat.le_of_ble_eq_true rfl⟩ (q0 := 0) (ci := 4) rfl rfl rfl rfl hl.1 rfl (Nat.le_of_ble_eq_true rfl) dX4_readNews_42 ⟨Nat.zero_le _, Nat.zero_le _⟩ [0, 1] [2, 3, 4, 5, 6, 7, 8] rfl (by decide) rfl (by decide) (by decide) (fun r_24 tc_25 H locs h hP hD hS => ?_)
        have hP : va_P D vwCl [(h0, .inr (0, [.ref a_kd, .ref a_hd, .ref a_pl, .ref a_st, .ref a_ho, .ref a_be, .int nc, .int nn, .int dy])), (a_kd, .inl (cI, 7, .inl kd)), (a_hd, .inl (cI, 7, .inl hd)), (a_pl, .inl (cI, 7, .inl pl)), (a_st, .inl (cI, 7, .inl st)), (a_ho, .inl (cI, 6, .inl ho)), (a_be, .inl (cI, 42, .inl be)), (h4, .inr (4, [.ref a_tl, .int tn, .int tc_25])), (a_tl, .inl (cC, 200, .inl tl))] H := hP
        have hD : va_D A [(h0, .inr (0, [.ref a_kd, .ref a_hd, .ref a_pl, .ref a_st, .ref a_ho, .ref a_be, .int nc, .int nn, .int dy])), (a_kd, .inl (cI, 7, .inl kd)), (a_hd, .inl (cI, 7, .inl hd)), (a_pl, .inl (cI, 7, .inl pl)), (a_st, .inl (cI, 7, .inl st)), (a_ho, .inl (cI, 6, .inl ho)), (a_be, .inl (cI, 42, .inl be)), (h4, .inr (4, [.ref a_tl, .int tn, .int tc_25])), (a_tl, .inl (cC, 200, .inl tl))] := hD
        refine lv_istore (lv' := [(5, .int r_24), (0, .ref h4), (1, .ref h0), (3, .int x3), (4, .int x4)]) hx hb dX4_readNews_45 hl (by decide) rfl (fun ls hl => ?_)
        refine lv_iload hx hb dX4_readNews_47 (lv_at hl 0 rfl) ?_
        refine lv_bipush (v := -4) hx hb dX4_readNews_49 (by decide) ?_
        refine lv_icmp_ne (tgt := 56) hx hb dX4_readNews_51 (by decide) (fun c_26 => ?_) (fun c_26 => ?_)
        · have h := h.2 c_26
          refine lv_aload_n hx hb dX4_readNews_56 rfl (lv_at hl 2 rfl) ?_
          refine lv_iload hx hb dX4_readNews_57 (lv_at hl 4 rfl) ?_
          refine lv_iload_n hx hb dX4_readNews_59 rfl (lv_at hl 3 rfl) ?_
          refine lv_iload hx hb dX4_readNews_60 (lv_at hl 0 rfl) ?_
          refine kV_v (wr := [(h4, .inr (4, [.ref a_tl, .int tn, .int tc_25])), (a_tl, .inl (cC, 200, .inl tl))]) (As := [.int x4, .int x3, .int r_24]) (n := 3) ⟨hx, hb, hml, hown, hts⟩ hK hP hD hS hA (c_X0_setBelief l D cI cC cQ h0 a_kd a_hd a_pl a_st a_ho a_be kd hd pl st ho be nc nn dy x4 x3 r_24 _ h) gX4_readNews_X0_setBelief rfl rfl ⟨rfl, rfl⟩ yoX0_setBelief ⟨Nat.le_of_ble_eq_true rfl, Nat.le_of_ble_eq_true rfl⟩ (q0 := 0) (ci := 0) rfl rfl rfl rfl hl.1 rfl (Nat.le_of_ble_eq_true rfl) dX4_readNews_62 ⟨Nat.zero_le _, Nat.zero_le _⟩ [0, 1, 2, 3, 4, 5, 6] [7, 8] rfl (by decide) rfl (by decide) (by decide) (fun be_27 H locs h hP hD hS => ?_)
          have hP : va_P D vwCl [(h4, .inr (4, [.ref a_tl, .int tn, .int tc_25])), (a_tl, .inl (cC, 200, .inl tl)), (h0, .inr (0, [.ref a_kd, .ref a_hd, .ref a_pl, .ref a_st, .ref a_ho, .ref a_be, .int nc, .int nn, .int dy])), (a_kd, .inl (cI, 7, .inl kd)), (a_hd, .inl (cI, 7, .inl hd)), (a_pl, .inl (cI, 7, .inl pl)), (a_st, .inl (cI, 7, .inl st)), (a_ho, .inl (cI, 6, .inl ho)), (a_be, .inl (cI, 42, .inl be_27))] H := hP
          have hD : va_D A [(h4, .inr (4, [.ref a_tl, .int tn, .int tc_25])), (a_tl, .inl (cC, 200, .inl tl)), (h0, .inr (0, [.ref a_kd, .ref a_hd, .ref a_pl, .ref a_st, .ref a_ho, .ref a_be, .int nc, .int nn, .int dy])), (a_kd, .inl (cI, 7, .inl kd)), (a_hd, .inl (cI, 7, .inl hd)), (a_pl, .inl (cI, 7, .inl pl)), (a_st, .inl (cI, 7, .inl st)), (a_ho, .inl (cI, 6, .inl ho)), (a_be, .inl (cI, 42, .inl be_27))] := hD
          refine lv_iinc (v := (x4 + (1 : Int32))) (lv' := [(4, .int (x4 + (1 : Int32))), (5, .int r_24), (0, .ref h4), (1, .ref h0), (3, .int x3)]) hx hb dX4_readNews_65 hl (k := 4) rfl rfl (by decide) rfl (fun ls hl => ?_)
          refine lv_goto (tgt := 32) hx hb dX4_readNews_68 (by decide) ?_
          exact ih h hP hD hS (lv_sub hl [2, 3, 4, 0] rfl)
        · have h := h.1 c_26
          refine lv_iconst (v := 0) hx hb dX4_readNews_54 (by decide) ?_
          have hP := hP.sub (ws' := [(h4, .inr (4, [.ref a_tl, .int tn, .int tc_25])), (a_tl, .inl (cC, 200, .inl tl)), (h0, .inr (0, [.ref a_kd, .ref a_hd, .ref a_pl, .ref a_st, .ref a_ho, .ref a_be, .int nc, .int nn, .int dy])), (a_kd, .inl (cI, 7, .inl kd)), (a_hd, .inl (cI, 7, .inl hd)), (a_pl, .inl (cI, 7, .inl pl)), (a_st, .inl (cI, 7, .inl st)), (a_ho, .inl (cI, 6, .inl ho)), (a_be, .inl (cI, 42, .inl be))]) [7, 8, 0, 1, 2, 3, 4, 5, 6] rfl
          have hD := hD.sub (ws' := [(h4, .inr (4, [.ref a_tl, .int tn, .int tc_25])), (a_tl, .inl (cC, 200, .inl tl)), (h0, .inr (0, [.ref a_kd, .ref a_hd, .ref a_pl, .ref a_st, .ref a_ho, .ref a_be, .int nc, .int nn, .int dy])), (a_kd, .inl (cI, 7, .inl kd)), (a_hd, .inl (cI, 7, .inl hd)), (a_pl, .inl (cI, 7, .inl pl)), (a_st, .inl (cI, 7, .inl st)), (a_ho, .inl (cI, 6, .inl ho)), (a_be, .inl (cI, 42, .inl be))]) [7, 8, 0, 1, 2, 3, 4, 5, 6] (by decide) rfl
          exact hret (0 : Int32) (tc_25, ho, be, nn) _ _ _ ls (by decide) h hP hD hS dX4_readNews_55
  refine lv_aload_n hx hb dX4_readNews_0 rfl (lv_at hl 0 rfl) ?_
  refine kV_i (wr := [(h0, .inr (0, [.ref a_kd, .ref a_hd, .ref a_pl, .ref a_st, .ref a_ho, .ref a_be, .int nc, .int nn, .int dy])), (a_kd, .inl (cI, 7, .inl kd)), (a_hd, .inl (cI, 7, .inl hd)), (a_pl, .inl (cI, 7, .inl pl)), (a_st, .inl (cI, 7, .inl st)), (a_ho, .inl (cI, 6, .inl ho)), (a_be, .inl (cI, 42, .inl be))]) (As := []) (n := 0) ⟨hx, hb, hml, hown, hts⟩ hK hP hD hS hA (c_X4_number l D cI cC cQ h4 a_tl tl tn tc  _ h) gX4_readNews_X4_number rfl rfl ⟨rfl, rfl⟩ yoX4_number ⟨Nat.le_of_ble_eq_true rfl, Nat.le_of_ble_eq_true rfl⟩ (q0 := 0) (ci := 4) rfl rfl rfl rfl hl.1 rfl (Nat.le_of_ble_eq_true rfl) dX4_readNews_1 ⟨Nat.zero_le _, Nat.zero_le _⟩ [0, 1] [2, 3, 4, 5, 6, 7, 8] rfl (by decide) rfl (by decide) (by decide) (fun r_1 tc_2 H locs h hP hD hS => ?_)
  have hP : va_P D vwCl [(h0, .inr (0, [.ref a_kd, .ref a_hd, .ref a_pl, .ref a_st, .ref a_ho, .ref a_be, .int nc, .int nn, .int dy])), (a_kd, .inl (cI, 7, .inl kd)), (a_hd, .inl (cI, 7, .inl hd)), (a_pl, .inl (cI, 7, .inl pl)), (a_st, .inl (cI, 7, .inl st)), (a_ho, .inl (cI, 6, .inl ho)), (a_be, .inl (cI, 42, .inl be)), (h4, .inr (4, [.ref a_tl, .int tn, .int tc_2])), (a_tl, .inl (cC, 200, .inl tl))] H := hP
  have hD : va_D A [(h0, .inr (0, [.ref a_kd, .ref a_hd, .ref a_pl, .ref a_st, .ref a_ho, .ref a_be, .int nc, .int nn, .int dy])), (a_kd, .inl (cI, 7, .inl kd)), (a_hd, .inl (cI, 7, .inl hd)), (a_pl, .inl (cI, 7, .inl pl)), (a_st, .inl (cI, 7, .inl st)), (a_ho, .inl (cI, 6, .inl ho)), (a_be, .inl (cI, 42, .inl be)), (h4, .inr (4, [.ref a_tl, .int tn, .int tc_2])), (a_tl, .inl (cC, 200, .inl tl))] := hD
  refine lv_istore_n (lv' := [(2, .int r_1), (0, .ref h4), (1, .ref h0)]) hx hb dX4_readNews_4 rfl hl (by decide) rfl (fun ls hl => ?_)
  refine lv_aload_n hx hb dX4_readNews_5 rfl (lv_at hl 2 rfl) ?_
  refine va_getN (D := D) (ci := 0) (v := .int nn) (C := RX0) (T := TX0) (N := 9) hx hb hts hin0 hown hK.1 hP 0 rfl rfl 7 (by decide) (va_Nw.use rfl (hK.2 _ (List.mem_of_getElem? (i := 28) rfl))) (fun _ h9 => h9) rfl dX4_readNews_6 ?_
  refine lv_istore_n (lv' := [(3, .int nn), (2, .int r_1), (0, .ref h4), (1, .ref h0)]) hx hb dX4_readNews_9 rfl hl (by decide) rfl (fun ls hl => ?_)
  refine lv_aload_n hx hb dX4_readNews_10 rfl (lv_at hl 2 rfl) ?_
  refine lv_bipush (v := 44) hx hb dX4_readNews_11 (by decide) ?_
  refine kV_i (wr := [(h0, .inr (0, [.ref a_kd, .ref a_hd, .ref a_pl, .ref a_st, .ref a_ho, .ref a_be, .int nc, .int nn, .int dy])), (a_kd, .inl (cI, 7, .inl kd)), (a_hd, .inl (cI, 7, .inl hd)), (a_pl, .inl (cI, 7, .inl pl)), (a_st, .inl (cI, 7, .inl st)), (a_ho, .inl (cI, 6, .inl ho)), (a_be, .inl (cI, 42, .inl be))]) (As := [.int (44 : Int32)]) (n := 1) ⟨hx, hb, hml, hown, hts⟩ hK hP hD hS hA (c_X4_takes l D cI cC cQ h4 a_tl tl tn tc_2 (44 : Int32) _ h) gX4_readNews_X4_takes rfl rfl ⟨rfl, rfl⟩ yoX4_takes ⟨Nat.le_of_ble_eq_true rfl, Nat.le_of_ble_eq_true rfl⟩ (q0 := 0) (ci := 4) rfl rfl rfl rfl hl.1 rfl (Nat.le_of_ble_eq_true rfl) dX4_readNews_13 ⟨Nat.zero_le _, Nat.zero_le _⟩ [7, 8] [0, 1, 2, 3, 4, 5, 6] rfl (by decide) rfl (by decide) (by decide) (fun r_3 tc_4 H locs h hP hD hS => ?_)
  have hP : va_P D vwCl [(h0, .inr (0, [.ref a_kd, .ref a_hd, .ref a_pl, .ref a_st, .ref a_ho, .ref a_be, .int nc, .int nn, .int dy])), (a_kd, .inl (cI, 7, .inl kd)), (a_hd, .inl (cI, 7, .inl hd)), (a_pl, .inl (cI, 7, .inl pl)), (a_st, .inl (cI, 7, .inl st)), (a_ho, .inl (cI, 6, .inl ho)), (a_be, .inl (cI, 42, .inl be)), (h4, .inr (4, [.ref a_tl, .int tn, .int tc_4])), (a_tl, .inl (cC, 200, .inl tl))] H := hP
  have hD : va_D A [(h0, .inr (0, [.ref a_kd, .ref a_hd, .ref a_pl, .ref a_st, .ref a_ho, .ref a_be, .int nc, .int nn, .int dy])), (a_kd, .inl (cI, 7, .inl kd)), (a_hd, .inl (cI, 7, .inl hd)), (a_pl, .inl (cI, 7, .inl pl)), (a_st, .inl (cI, 7, .inl st)), (a_ho, .inl (cI, 6, .inl ho)), (a_be, .inl (cI, 42, .inl be)), (h4, .inr (4, [.ref a_tl, .int tn, .int tc_4])), (a_tl, .inl (cC, 200, .inl tl))] := hD
  obtain ⟨b_5, h⟩ := h
  refine lv_if_eq (tgt := 27) hx hb dX4_readNews_16 (by decide) (fun c_6 => ?_) (fun c_6 => ?_)
  · have h := h.1 c_6
    refine lv_iconst (v := 0) hx hb dX4_readNews_27 (by decide) ?_
    have hP := hP.sub (ws' := [(h4, .inr (4, [.ref a_tl, .int tn, .int tc_4])), (a_tl, .inl (cC, 200, .inl tl)), (h0, .inr (0, [.ref a_kd, .ref a_hd, .ref a_pl, .ref a_st, .ref a_ho, .ref a_be, .int nc, .int nn, .int dy])), (a_kd, .inl (cI, 7, .inl kd)), (a_hd, .inl (cI, 7, .inl hd)), (a_pl, .inl (cI, 7, .inl pl)), (a_st, .inl (cI, 7, .inl st)), (a_ho, .inl (cI, 6, .inl ho)), (a_be, .inl (cI, 42, .inl be))]) [7, 8, 0, 1, 2, 3, 4, 5, 6] rfl
    have hD := hD.sub (ws' := [(h4, .inr (4, [.ref a_tl, .int tn, .int tc_4])), (a_tl, .inl (cC, 200, .inl tl)), (h0, .inr (0, [.ref a_kd, .ref a_hd, .ref a_pl, .ref a_st, .ref a_ho, .ref a_be, .int nc, .int nn, .int dy])), (a_kd, .inl (cI, 7, .inl kd)), (a_hd, .inl (cI, 7, .inl hd)), (a_pl, .inl (cI, 7, .inl pl)), (a_st, .inl (cI, 7, .inl st)), (a_ho, .inl (cI, 6, .inl ho)), (a_be, .inl (cI, 42, .inl be))]) [7, 8, 0, 1, 2, 3, 4, 5, 6] (by decide) rfl
    exact hret (0 : Int32) (tc_4, ho, be, nn) _ _ _ ls (by decide) h hP hD hS dX4_readNews_28
  · have h := h.2 c_6
    refine lv_aload_n hx hb dX4_readNews_19 rfl (lv_at hl 3 rfl) ?_
    refine lv_iload_n hx hb dX4_readNews_20 rfl (lv_at hl 1 rfl) ?_
    refine kV_i (wr := [(h4, .inr (4, [.ref a_tl, .int tn, .int tc_4])), (a_tl, .inl (cC, 200, .inl tl))]) (As := [.int r_1]) (n := 1) ⟨hx, hb, hml, hown, hts⟩ hK hP hD hS hA (c_X0_addNews l D cI cC cQ h0 a_kd a_hd a_pl a_st a_ho a_be kd hd pl st ho be nc nn dy r_1 _ h) gX4_readNews_X0_addNews rfl rfl ⟨rfl, rfl⟩ yoX0_addNews ⟨Nat.le_of_ble_eq_true rfl, Nat.le_of_ble_eq_true rfl⟩ (q0 := 0) (ci := 0) rfl rfl rfl rfl hl.1 rfl (Nat.le_of_ble_eq_true rfl) dX4_readNews_21 ⟨Nat.zero_le _, Nat.zero_le _⟩ [0, 1, 2, 3, 4, 5, 6] [7, 8] rfl (by decide) rfl (by decide) (by decide) (fun r_7 u H locs h hP hD hS => ?_)
    obtain ⟨ho_8, nn_9⟩ := u
    have hP : va_P D vwCl [(h4, .inr (4, [.ref a_tl, .int tn, .int tc_4])), (a_tl, .inl (cC, 200, .inl tl)), (h0, .inr (0, [.ref a_kd, .ref a_hd, .ref a_pl, .ref a_st, .ref a_ho, .ref a_be, .int nc, .int nn_9, .int dy])), (a_kd, .inl (cI, 7, .inl kd)), (a_hd, .inl (cI, 7, .inl hd)), (a_pl, .inl (cI, 7, .inl pl)), (a_st, .inl (cI, 7, .inl st)), (a_ho, .inl (cI, 6, .inl ho_8)), (a_be, .inl (cI, 42, .inl be))] H := hP
    have hD : va_D A [(h4, .inr (4, [.ref a_tl, .int tn, .int tc_4])), (a_tl, .inl (cC, 200, .inl tl)), (h0, .inr (0, [.ref a_kd, .ref a_hd, .ref a_pl, .ref a_st, .ref a_ho, .ref a_be, .int nc, .int nn_9, .int dy])), (a_kd, .inl (cI, 7, .inl kd)), (a_hd, .inl (cI, 7, .inl hd)), (a_pl, .inl (cI, 7, .inl pl)), (a_st, .inl (cI, 7, .inl st)), (a_ho, .inl (cI, 6, .inl ho_8)), (a_be, .inl (cI, 42, .inl be))] := hD
    obtain ⟨b_10, h⟩ := h
    refine lv_if_ne (tgt := 29) hx hb dX4_readNews_24 (by decide) (fun c_11 => ?_) (fun c_11 => ?_)
    · have h := h.2 c_11
      refine lv_iconst (v := 0) hx hb dX4_readNews_29 (by decide) ?_
      refine lv_istore (lv' := [(4, .int (0 : Int32)), (3, .int nn), (2, .int r_1), (0, .ref h4), (1, .ref h0)]) hx hb dX4_readNews_30 hl (by decide) rfl (fun ls hl => ?_)
      obtain ⟨n_28, h⟩ := h
      exact L32 n_28 h hP hD hS (lv_sub hl [3, 4, 1, 0] rfl)
    · have h := h.1 c_11
      refine lv_iconst (v := 0) hx hb dX4_readNews_27 (by decide) ?_
      exact hret (0 : Int32) (tc_4, ho_8, be, nn_9) _ _ _ ls (by decide) h hP hD hS dX4_readNews_28

/-! DoubtCourt$Text.readItem -/
abbrev rmX4_readItem : Room := { frames := 4, cells := 0, slots := 0, locals := 88 }
theorem yoX4_readItem : yX4_readItem.cls ≠ "java/lang/invoke/MethodHandle" ∧ yX4_readItem.cls ≠ "java/lang/invoke/VarHandle" ∧ (parseMethodDescriptor yX4_readItem.desc).map (fun d => d.parameters.length) = some 1 := by decide +kernel
set_option maxHeartbeats 4000000 in
set_option maxRecDepth 100000 in
theorem c_X4_readItem (l : Launch) (D : va_G) (cI cC cQ : ClassId) (h4 : Nat) (a_tl : Nat) (h0 : Nat) (a_kd : Nat) (a_hd : Nat) (a_pl : Nat) (a_st : Nat) (a_ho : Nat) (a_be : Nat) (tl : Nat → Int32) (tn : Int32) (tc : Int32) (kd : Nat → Int32) (hd : Nat → Int32) (pl : Nat → Int32) (st : Nat → Int32) (ho : Nat → Int32) (be : Nat → Int32) (nc : Int32) (nn : Int32) (dy : Int32) (Q : Int32 → Int32 → (Nat → Int32) → (Nat → Int32) → (Nat → Int32) → (Nat → Int32) → (Nat → Int32) → (Nat → Int32) → Int32 → Int32 → Prop) (h : wX4_readItem tl tn tc kd hd pl st ho be nc nn Q) : Ci (S := (Int32) × (Nat → Int32) × (Nat → Int32) × (Nat → Int32) × (Nat → Int32) × (Nat → Int32) × (Nat → Int32) × (Int32) × (Int32)) l D cI cC cQ yX4_readItem wsX4_readItem rmX4_readItem [.ref h4, .ref h0] [(h4, .inr (4, [.ref a_tl, .int tn, .int tc])), (a_tl, .inl (cC, 200, .inl tl)), (h0, .inr (0, [.ref a_kd, .ref a_hd, .ref a_pl, .ref a_st, .ref a_ho, .ref a_be, .int nc, .int nn, .int dy])), (a_kd, .inl (cI, 7, .inl kd)), (a_hd, .inl (cI, 7, .inl hd)), (a_pl, .inl (cI, 7, .inl pl)), (a_st, .inl (cI, 7, .inl st)), (a_ho, .inl (cI, 6, .inl ho)), (a_be, .inl (cI, 42, .inl be))] (fun u => [(h4, .inr (4, [.ref a_tl, .int tn, .int u.1])), (a_tl, .inl (cC, 200, .inl tl)), (h0, .inr (0, [.ref a_kd, .ref a_hd, .ref a_pl, .ref a_st, .ref a_ho, .ref a_be, .int u.2.2.2.2.2.2.2.1, .int u.2.2.2.2.2.2.2.2, .int dy])), (a_kd, .inl (cI, 7, .inl u.2.1)), (a_hd, .inl (cI, 7, .inl u.2.2.1)), (a_pl, .inl (cI, 7, .inl u.2.2.2.1)), (a_st, .inl (cI, 7, .inl u.2.2.2.2.1)), (a_ho, .inl (cI, 6, .inl u.2.2.2.2.2.1)), (a_be, .inl (cI, 42, .inl u.2.2.2.2.2.2.1))]) (fun r u => (r = 0 ∨ r = 1) ∧ Q r u.1 u.2.1 u.2.2.1 u.2.2.2.1 u.2.2.2.2.1 u.2.2.2.2.2.1 u.2.2.2.2.2.2.1 u.2.2.2.2.2.2.2.1 u.2.2.2.2.2.2.2.2) := by
  refine Cz_mk (cc := cX4_readItem) (maxL := 2) (by decide) rfl (Nat.le_of_ble_eq_true rfl) ?_
  intro p e s m args below meth c A Z ls hx hb hml hown hts hK hA hP hD hret hl
  have hS : va_S A s.heap s.heap [] := va_S.rf
  have hl : lv_has ls 2 [(0, .ref h4), (1, .ref h0)] := hl
  refine lv_aload_n hx hb dX4_readItem_0 rfl (lv_at hl 0 rfl) ?_
  refine lv_bipush (v := 99) hx hb dX4_readItem_1 (by decide) ?_
  refine kV_i (wr := [(h0, .inr (0, [.ref a_kd, .ref a_hd, .ref a_pl, .ref a_st, .ref a_ho, .ref a_be, .int nc, .int nn, .int dy])), (a_kd, .inl (cI, 7, .inl kd)), (a_hd, .inl (cI, 7, .inl hd)), (a_pl, .inl (cI, 7, .inl pl)), (a_st, .inl (cI, 7, .inl st)), (a_ho, .inl (cI, 6, .inl ho)), (a_be, .inl (cI, 42, .inl be))]) (As := [.int (99 : Int32)]) (n := 1) ⟨hx, hb, hml, hown, hts⟩ hK hP hD hS hA (c_X4_takes l D cI cC cQ h4 a_tl tl tn tc (99 : Int32) _ h) gX4_readItem_X4_takes rfl rfl ⟨rfl, rfl⟩ yoX4_takes ⟨Nat.le_of_ble_eq_true rfl, Nat.le_of_ble_eq_true rfl⟩ (q0 := 0) (ci := 4) rfl rfl rfl rfl hl.1 rfl (Nat.le_of_ble_eq_true rfl) dX4_readItem_3 ⟨Nat.zero_le _, Nat.zero_le _⟩ [0, 1] [2, 3, 4, 5, 6, 7, 8] rfl (by decide) rfl (by decide) (by decide) (fun r_1 tc_2 H locs h hP hD hS => ?_)
  have hP : va_P D vwCl [(h0, .inr (0, [.ref a_kd, .ref a_hd, .ref a_pl, .ref a_st, .ref a_ho, .ref a_be, .int nc, .int nn, .int dy])), (a_kd, .inl (cI, 7, .inl kd)), (a_hd, .inl (cI, 7, .inl hd)), (a_pl, .inl (cI, 7, .inl pl)), (a_st, .inl (cI, 7, .inl st)), (a_ho, .inl (cI, 6, .inl ho)), (a_be, .inl (cI, 42, .inl be)), (h4, .inr (4, [.ref a_tl, .int tn, .int tc_2])), (a_tl, .inl (cC, 200, .inl tl))] H := hP
  have hD : va_D A [(h0, .inr (0, [.ref a_kd, .ref a_hd, .ref a_pl, .ref a_st, .ref a_ho, .ref a_be, .int nc, .int nn, .int dy])), (a_kd, .inl (cI, 7, .inl kd)), (a_hd, .inl (cI, 7, .inl hd)), (a_pl, .inl (cI, 7, .inl pl)), (a_st, .inl (cI, 7, .inl st)), (a_ho, .inl (cI, 6, .inl ho)), (a_be, .inl (cI, 42, .inl be)), (h4, .inr (4, [.ref a_tl, .int tn, .int tc_2])), (a_tl, .inl (cC, 200, .inl tl))] := hD
  obtain ⟨b_3, h⟩ := h
  refine lv_if_eq (tgt := 15) hx hb dX4_readItem_6 (by decide) (fun c_4 => ?_) (fun c_4 => ?_)
  · have h := h.1 c_4
    refine lv_aload_n hx hb dX4_readItem_15 rfl (lv_at hl 0 rfl) ?_
    refine lv_bipush (v := 110) hx hb dX4_readItem_16 (by decide) ?_
    refine kV_i (wr := [(h0, .inr (0, [.ref a_kd, .ref a_hd, .ref a_pl, .ref a_st, .ref a_ho, .ref a_be, .int nc, .int nn, .int dy])), (a_kd, .inl (cI, 7, .inl kd)), (a_hd, .inl (cI, 7, .inl hd)), (a_pl, .inl (cI, 7, .inl pl)), (a_st, .inl (cI, 7, .inl st)), (a_ho, .inl (cI, 6, .inl ho)), (a_be, .inl (cI, 42, .inl be))]) (As := [.int (110 : Int32)]) (n := 1) ⟨hx, hb, hml, hown, hts⟩ hK hP hD hS hA (c_X4_takes l D cI cC cQ h4 a_tl tl tn tc_2 (110 : Int32) _ h) gX4_readItem_X4_takes rfl rfl ⟨rfl, rfl⟩ yoX4_takes ⟨Nat.le_of_ble_eq_true rfl, Nat.le_of_ble_eq_true rfl⟩ (q0 := 0) (ci := 4) rfl rfl rfl rfl hl.1 rfl (Nat.le_of_ble_eq_true rfl) dX4_readItem_18 ⟨Nat.zero_le _, Nat.zero_le _⟩ [7, 8] [0, 1, 2, 3, 4, 5, 6] rfl (by decide) rfl (by decide) (by decide) (fun r_5 tc_6 H locs h hP hD hS => ?_)
    have hP : va_P D vwCl [(h0, .inr (0, [.ref a_kd, .ref a_hd, .ref a_pl, .ref a_st, .ref a_ho, .ref a_be, .int nc, .int nn, .int dy])), (a_kd, .inl (cI, 7, .inl kd)), (a_hd, .inl (cI, 7, .inl hd)), (a_pl, .inl (cI, 7, .inl pl)), (a_st, .inl (cI, 7, .inl st)), (a_ho, .inl (cI, 6, .inl ho)), (a_be, .inl (cI, 42, .inl be)), (h4, .inr (4, [.ref a_tl, .int tn, .int tc_6])), (a_tl, .inl (cC, 200, .inl tl))] H := hP
    have hD : va_D A [(h0, .inr (0, [.ref a_kd, .ref a_hd, .ref a_pl, .ref a_st, .ref a_ho, .ref a_be, .int nc, .int nn, .int dy])), (a_kd, .inl (cI, 7, .inl kd)), (a_hd, .inl (cI, 7, .inl hd)), (a_pl, .inl (cI, 7, .inl pl)), (a_st, .inl (cI, 7, .inl st)), (a_ho, .inl (cI, 6, .inl ho)), (a_be, .inl (cI, 42, .inl be)), (h4, .inr (4, [.ref a_tl, .int tn, .int tc_6])), (a_tl, .inl (cC, 200, .inl tl))] := hD
    obtain ⟨b_7, h⟩ := h
    refine lv_if_eq (tgt := 36) hx hb dX4_readItem_21 (by decide) (fun c_8 => ?_) (fun c_8 => ?_)
    · have h := h.1 c_8
      refine lv_iconst (v := 0) hx hb dX4_readItem_36 (by decide) ?_
      have hP := hP.sub (ws' := [(h4, .inr (4, [.ref a_tl, .int tn, .int tc_6])), (a_tl, .inl (cC, 200, .inl tl)), (h0, .inr (0, [.ref a_kd, .ref a_hd, .ref a_pl, .ref a_st, .ref a_ho, .ref a_be, .int nc, .int nn, .int dy])), (a_kd, .inl (cI, 7, .inl kd)), (a_hd, .inl (cI, 7, .inl hd)), (a_pl, .inl (cI, 7, .inl pl)), (a_st, .inl (cI, 7, .inl st)), (a_ho, .inl (cI, 6, .inl ho)), (a_be, .inl (cI, 42, .inl be))]) [7, 8, 0, 1, 2, 3, 4, 5, 6] rfl
      have hD := hD.sub (ws' := [(h4, .inr (4, [.ref a_tl, .int tn, .int tc_6])), (a_tl, .inl (cC, 200, .inl tl)), (h0, .inr (0, [.ref a_kd, .ref a_hd, .ref a_pl, .ref a_st, .ref a_ho, .ref a_be, .int nc, .int nn, .int dy])), (a_kd, .inl (cI, 7, .inl kd)), (a_hd, .inl (cI, 7, .inl hd)), (a_pl, .inl (cI, 7, .inl pl)), (a_st, .inl (cI, 7, .inl st)), (a_ho, .inl (cI, 6, .inl ho)), (a_be, .inl (cI, 42, .inl be))]) [7, 8, 0, 1, 2, 3, 4, 5, 6] (by decide) rfl
      exact hret (0 : Int32) (tc_6, kd, hd, pl, st, ho, be, nc, nn) _ _ _ ls (by decide) h hP hD hS dX4_readItem_37
    · have h := h.2 c_8
      refine lv_aload_n hx hb dX4_readItem_24 rfl (lv_at hl 0 rfl) ?_
      refine lv_aload_n hx hb dX4_readItem_25 rfl (lv_at hl 1 rfl) ?_
      refine kV_i (wr := []) (As := [.ref h0]) (n := 1) ⟨hx, hb, hml, hown, hts⟩ hK hP hD hS hA (c_X4_readNews l D cI cC cQ h4 a_tl h0 a_kd a_hd a_pl a_st a_ho a_be tl tn tc_6 kd hd pl st ho be nc nn dy  _ h) gX4_readItem_X4_readNews rfl rfl ⟨rfl, rfl⟩ yoX4_readNews ⟨Nat.le_of_ble_eq_true rfl, Nat.le_of_ble_eq_true rfl⟩ (q0 := 0) (ci := 4) rfl rfl rfl rfl hl.1 rfl (Nat.le_of_ble_eq_true rfl) dX4_readItem_26 ⟨Nat.zero_le _, Nat.zero_le _⟩ [7, 8, 0, 1, 2, 3, 4, 5, 6] [] rfl (by decide) rfl (by decide) (by decide) (fun r_9 u H locs h hP hD hS => ?_)
      obtain ⟨tc_10, ho_11, be_12, nn_13⟩ := u
      have hP : va_P D vwCl [(h4, .inr (4, [.ref a_tl, .int tn, .int tc_10])), (a_tl, .inl (cC, 200, .inl tl)), (h0, .inr (0, [.ref a_kd, .ref a_hd, .ref a_pl, .ref a_st, .ref a_ho, .ref a_be, .int nc, .int nn_13, .int dy])), (a_kd, .inl (cI, 7, .inl kd)), (a_hd, .inl (cI, 7, .inl hd)), (a_pl, .inl (cI, 7, .inl pl)), (a_st, .inl (cI, 7, .inl st)), (a_ho, .inl (cI, 6, .inl ho_11)), (a_be, .inl (cI, 42, .inl be_12))] H := hP
      have hD : va_D A [(h4, .inr (4, [.ref a_tl, .int tn, .int tc_10])), (a_tl, .inl (cC, 200, .inl tl)), (h0, .inr (0, [.ref a_kd, .ref a_hd, .ref a_pl, .ref a_st, .ref a_ho, .ref a_be, .int nc, .int nn_13, .int dy])), (a_kd, .inl (cI, 7, .inl kd)), (a_hd, .inl (cI, 7, .inl hd)), (a_pl, .inl (cI, 7, .inl pl)), (a_st, .inl (cI, 7, .inl st)), (a_ho, .inl (cI, 6, .inl ho_11)), (a_be, .inl (cI, 42, .inl be_12))] := hD
      obtain ⟨b_14, h⟩ := h
      refine lv_if_eq (tgt := 36) hx hb dX4_readItem_29 (by decide) (fun c_15 => ?_) (fun c_15 => ?_)
      · have h := h.1 c_15
        refine lv_iconst (v := 0) hx hb dX4_readItem_36 (by decide) ?_
        exact hret (0 : Int32) (tc_10, kd, hd, pl, st, ho_11, be_12, nc, nn_13) _ _ _ ls (by decide) h hP hD hS dX4_readItem_37
      · have h := h.2 c_15
        refine lv_iconst (v := 1) hx hb dX4_readItem_32 (by decide) ?_
        refine lv_goto (tgt := 37) hx hb dX4_readItem_33 (by decide) ?_
        exact hret (1 : Int32) (tc_10, kd, hd, pl, st, ho_11, be_12, nc, nn_13) _ _ _ ls (by decide) h hP hD hS dX4_readItem_37
  · have h := h.2 c_4
    refine lv_aload_n hx hb dX4_readItem_9 rfl (lv_at hl 0 rfl) ?_
    refine lv_aload_n hx hb dX4_readItem_10 rfl (lv_at hl 1 rfl) ?_
    refine kV_i (wr := []) (As := [.ref h0]) (n := 1) ⟨hx, hb, hml, hown, hts⟩ hK hP hD hS hA (c_X4_readCourtier l D cI cC cQ h4 a_tl h0 a_kd a_hd a_pl a_st a_ho a_be tl tn tc_2 kd hd pl st ho be nc nn dy  _ h) gX4_readItem_X4_readCourtier rfl rfl ⟨rfl, rfl⟩ yoX4_readCourtier ⟨Nat.le_of_ble_eq_true rfl, Nat.le_of_ble_eq_true rfl⟩ (q0 := 0) (ci := 4) rfl rfl rfl rfl hl.1 rfl (Nat.le_of_ble_eq_true rfl) dX4_readItem_11 ⟨Nat.zero_le _, Nat.zero_le _⟩ [7, 8, 0, 1, 2, 3, 4, 5, 6] [] rfl (by decide) rfl (by decide) (by decide) (fun r_16 u H locs h hP hD hS => ?_)
    obtain ⟨tc_17, kd_18, hd_19, pl_20, st_21, nc_22⟩ := u
    have hP : va_P D vwCl [(h4, .inr (4, [.ref a_tl, .int tn, .int tc_17])), (a_tl, .inl (cC, 200, .inl tl)), (h0, .inr (0, [.ref a_kd, .ref a_hd, .ref a_pl, .ref a_st, .ref a_ho, .ref a_be, .int nc_22, .int nn, .int dy])), (a_kd, .inl (cI, 7, .inl kd_18)), (a_hd, .inl (cI, 7, .inl hd_19)), (a_pl, .inl (cI, 7, .inl pl_20)), (a_st, .inl (cI, 7, .inl st_21)), (a_ho, .inl (cI, 6, .inl ho)), (a_be, .inl (cI, 42, .inl be))] H := hP
    have hD : va_D A [(h4, .inr (4, [.ref a_tl, .int tn, .int tc_17])), (a_tl, .inl (cC, 200, .inl tl)), (h0, .inr (0, [.ref a_kd, .ref a_hd, .ref a_pl, .ref a_st, .ref a_ho, .ref a_be, .int nc_22, .int nn, .int dy])), (a_kd, .inl (cI, 7, .inl kd_18)), (a_hd, .inl (cI, 7, .inl hd_19)), (a_pl, .inl (cI, 7, .inl pl_20)), (a_st, .inl (cI, 7, .inl st_21)), (a_ho, .inl (cI, 6, .inl ho)), (a_be, .inl (cI, 42, .inl be))] := hD
    obtain ⟨b_23, h⟩ := h
    exact hret r_16 (tc_17, kd_18, hd_19, pl_20, st_21, ho, be, nc_22, nn) _ _ _ ls b_23 h hP hD hS dX4_readItem_14

/-! DoubtCourt$Text.readInto -/
abbrev rmX4_readInto : Room := { frames := 5, cells := 0, slots := 0, locals := 109 }
theorem yoX4_readInto : yX4_readInto.cls ≠ "java/lang/invoke/MethodHandle" ∧ yX4_readInto.cls ≠ "java/lang/invoke/VarHandle" ∧ (parseMethodDescriptor yX4_readInto.desc).map (fun d => d.parameters.length) = some 1 := by decide +kernel
set_option maxHeartbeats 4000000 in
set_option maxRecDepth 100000 in
theorem c_X4_readInto (l : Launch) (D : va_G) (cI cC cQ : ClassId) (h4 : Nat) (a_tl : Nat) (h0 : Nat) (a_kd : Nat) (a_hd : Nat) (a_pl : Nat) (a_st : Nat) (a_ho : Nat) (a_be : Nat) (tl : Nat → Int32) (tn : Int32) (tc : Int32) (kd : Nat → Int32) (hd : Nat → Int32) (pl : Nat → Int32) (st : Nat → Int32) (ho : Nat → Int32) (be : Nat → Int32) (nc : Int32) (nn : Int32) (dy : Int32) (Q : Int32 → Int32 → (Nat → Int32) → (Nat → Int32) → (Nat → Int32) → (Nat → Int32) → (Nat → Int32) → (Nat → Int32) → Int32 → Int32 → Int32 → Prop) (h : wX4_readInto tl tn kd hd pl st ho be Q) : Ci (S := (Int32) × (Nat → Int32) × (Nat → Int32) × (Nat → Int32) × (Nat → Int32) × (Nat → Int32) × (Nat → Int32) × (Int32) × (Int32) × (Int32)) l D cI cC cQ yX4_readInto wsX4_readInto rmX4_readInto [.ref h4, .ref h0] [(h4, .inr (4, [.ref a_tl, .int tn, .int tc])), (a_tl, .inl (cC, 200, .inl tl)), (h0, .inr (0, [.ref a_kd, .ref a_hd, .ref a_pl, .ref a_st, .ref a_ho, .ref a_be, .int nc, .int nn, .int dy])), (a_kd, .inl (cI, 7, .inl kd)), (a_hd, .inl (cI, 7, .inl hd)), (a_pl, .inl (cI, 7, .inl pl)), (a_st, .inl (cI, 7, .inl st)), (a_ho, .inl (cI, 6, .inl ho)), (a_be, .inl (cI, 42, .inl be))] (fun u => [(h4, .inr (4, [.ref a_tl, .int tn, .int u.1])), (a_tl, .inl (cC, 200, .inl tl)), (h0, .inr (0, [.ref a_kd, .ref a_hd, .ref a_pl, .ref a_st, .ref a_ho, .ref a_be, .int u.2.2.2.2.2.2.2.1, .int u.2.2.2.2.2.2.2.2.1, .int u.2.2.2.2.2.2.2.2.2])), (a_kd, .inl (cI, 7, .inl u.2.1)), (a_hd, .inl (cI, 7, .inl u.2.2.1)), (a_pl, .inl (cI, 7, .inl u.2.2.2.1)), (a_st, .inl (cI, 7, .inl u.2.2.2.2.1)), (a_ho, .inl (cI, 6, .inl u.2.2.2.2.2.1)), (a_be, .inl (cI, 42, .inl u.2.2.2.2.2.2.1))]) (fun r u => Q r u.1 u.2.1 u.2.2.1 u.2.2.2.1 u.2.2.2.2.1 u.2.2.2.2.2.1 u.2.2.2.2.2.2.1 u.2.2.2.2.2.2.2.1 u.2.2.2.2.2.2.2.2.1 u.2.2.2.2.2.2.2.2.2) := by
  refine Ci_mk (cc := cX4_readInto) (maxL := 4) (by decide) rfl (Nat.le_of_ble_eq_true rfl) ?_
  intro p e s m args below meth c A Z ls hx hb hml hown hts hK hA hP hD hret hl
  have hS : va_S A s.heap s.heap [] := va_S.rf
  have hin4 : ∀ w ∈ u_ws RX4 TX4 3, w ∈ wsX4_readInto := by decide +kernel
  have k_0 := hts (.fieldLink RX4 24 "DoubtCourt$Text" "cursor" "I") (by decide +kernel)
  have k_1 := hts (.fieldLink RX4 15 "DoubtCourt$Text" "length" "I") (by decide +kernel)
  have hl : lv_has ls 4 [(0, .ref h4), (1, .ref h0)] := hl
  have L11 : ∀ (n : Nat) {x2 : Int32} {tc : Int32} {kd : Nat → Int32} {hd : Nat → Int32} {pl : Nat → Int32} {st : Nat → Int32} {ho : Nat → Int32} {be : Nat → Int32} {nc : Int32} {nn : Int32} {dy : Int32} {H : Heap} {locs : List Loc} {ls : Array Slot}, wX4_readInto_L11 tl tn dy Q n x2 tc kd hd pl st ho be nc nn → va_P D vwCl [(h4, .inr (4, [.ref a_tl, .int tn, .int tc])), (a_tl, .inl (cC, 200, .inl tl)), (h0, .inr (0, [.ref a_kd, .ref a_hd, .ref a_pl, .ref a_st, .ref a_ho, .ref a_be, .int nc, .int nn, .int dy])), (a_kd, .inl (cI, 7, .inl kd)), (a_hd, .inl (cI, 7, .inl hd)), (a_pl, .inl (cI, 7, .inl pl)), (a_st, .inl (cI, 7, .inl st)), (a_ho, .inl (cI, 6, .inl ho)), (a_be, .inl (cI, 42, .inl be))] H → va_D A [(h4, .inr (4, [.ref a_tl, .int tn, .int tc])), (a_tl, .inl (cC, 200, .inl tl)), (h0, .inr (0, [.ref a_kd, .ref a_hd, .ref a_pl, .ref a_st, .ref a_ho, .ref a_be, .int nc, .int nn, .int dy])), (a_kd, .inl (cI, 7, .inl kd)), (a_hd, .inl (cI, 7, .inl hd)), (a_pl, .inl (cI, 7, .inl pl)), (a_st, .inl (cI, 7, .inl st)), (a_ho, .inl (cI, 6, .inl ho)), (a_be, .inl (cI, 42, .inl be))] → va_S A s.heap H locs → lv_has ls 4 [(0, .ref h4), (1, .ref h0), (2, .int x2)] → W p l e rmX4_readInto s m args below meth c H locs 0 0 Z (F0 m 11 ls []) := by
    intro n
    induction n with
    | zero =>
      intro x2 tc kd hd pl st ho be nc nn dy H locs ls h hP hD hS hl
      exact (show False from h).elim
    | succ n ih =>
      intro x2 tc kd hd pl st ho be nc nn dy H locs ls h hP hD hS hl
      refine lv_iload_n hx hb dX4_readInto_11 rfl (lv_at hl 2 rfl) ?_
      refine lv_sipush (v := 200) hx hb dX4_readInto_12 (by decide) ?_
      refine lv_icmp_ge (tgt := 50) hx hb dX4_readInto_15 (by decide) (fun c_21 => ?_) (fun c_21 => ?_)
      · have h := h.1 c_21
        refine lv_aload_n hx hb dX4_readInto_50 rfl (lv_at hl 1 rfl) ?_
        refine kV_v (wr := [(h4, .inr (4, [.ref a_tl, .int tn, .int tc])), (a_tl, .inl (cC, 200, .inl tl))]) (As := []) (n := 0) ⟨hx, hb, hml, hown, hts⟩ hK hP hD hS hA (c_X0_settleHeeds l D cI cC cQ h0 a_kd a_hd a_pl a_st a_ho a_be kd hd pl st ho be nc nn dy  _ h) gX4_readInto_X0_settleHeeds rfl rfl ⟨rfl, rfl⟩ yoX0_settleHeeds ⟨Nat.le_of_ble_eq_true rfl, Nat.le_of_ble_eq_true rfl⟩ (q0 := 0) (ci := 0) rfl rfl rfl rfl hl.1 rfl (Nat.le_of_ble_eq_true rfl) dX4_readInto_51 ⟨Nat.zero_le _, Nat.zero_le _⟩ [2, 3, 4, 5, 6, 7, 8] [0, 1] rfl (by decide) rfl (by decide) (by decide) (fun hd_22 H locs h hP hD hS => ?_)
        have hP : va_P D vwCl [(h4, .inr (4, [.ref a_tl, .int tn, .int tc])), (a_tl, .inl (cC, 200, .inl tl)), (h0, .inr (0, [.ref a_kd, .ref a_hd, .ref a_pl, .ref a_st, .ref a_ho, .ref a_be, .int nc, .int nn, .int dy])), (a_kd, .inl (cI, 7, .inl kd)), (a_hd, .inl (cI, 7, .inl hd_22)), (a_pl, .inl (cI, 7, .inl pl)), (a_st, .inl (cI, 7, .inl st)), (a_ho, .inl (cI, 6, .inl ho)), (a_be, .inl (cI, 42, .inl be))] H := hP
        have hD : va_D A [(h4, .inr (4, [.ref a_tl, .int tn, .int tc])), (a_tl, .inl (cC, 200, .inl tl)), (h0, .inr (0, [.ref a_kd, .ref a_hd, .ref a_pl, .ref a_st, .ref a_ho, .ref a_be, .int nc, .int nn, .int dy])), (a_kd, .inl (cI, 7, .inl kd)), (a_hd, .inl (cI, 7, .inl hd_22)), (a_pl, .inl (cI, 7, .inl pl)), (a_st, .inl (cI, 7, .inl st)), (a_ho, .inl (cI, 6, .inl ho)), (a_be, .inl (cI, 42, .inl be))] := hD
        refine lv_bipush (v := -4) hx hb dX4_readInto_54 (by decide) ?_
        exact hret (-4 : Int32) (tc, kd, hd_22, pl, st, ho, be, nc, nn, dy) _ _ _ ls h hP hD hS dX4_readInto_56
      · have h := h.2 c_21
        refine lv_aload_n hx hb dX4_readInto_18 rfl (lv_at hl 0 rfl) ?_
        refine va_get (D := D) (ci := 4) (v := .int tc) (C := RX4) (T := TX4) (N := 3) hx hb hts hin4 hown hK.1 hP 0 rfl rfl 2 (by decide) (k_0) (fun _ h9 => h9) rfl dX4_readInto_19 ?_
        refine lv_aload_n hx hb dX4_readInto_22 rfl (lv_at hl 0 rfl) ?_
        refine va_get (D := D) (ci := 4) (v := .int tn) (C := RX4) (T := TX4) (N := 3) hx hb hts hin4 hown hK.1 hP 0 rfl rfl 1 (by decide) (k_1) (fun _ h9 => h9) rfl dX4_readInto_23 ?_
        refine lv_icmp_ge (tgt := 50) hx hb dX4_readInto_26 (by decide) (fun c_23 => ?_) (fun c_23 => ?_)
        · have h := h.1 c_23
          refine lv_aload_n hx hb dX4_readInto_50 rfl (lv_at hl 1 rfl) ?_
          refine kV_v (wr := [(h4, .inr (4, [.ref a_tl, .int tn, .int tc])), (a_tl, .inl (cC, 200, .inl tl))]) (As := []) (n := 0) ⟨hx, hb, hml, hown, hts⟩ hK hP hD hS hA (c_X0_settleHeeds l D cI cC cQ h0 a_kd a_hd a_pl a_st a_ho a_be kd hd pl st ho be nc nn dy  _ h) gX4_readInto_X0_settleHeeds rfl rfl ⟨rfl, rfl⟩ yoX0_settleHeeds ⟨Nat.le_of_ble_eq_true rfl, Nat.le_of_ble_eq_true rfl⟩ (q0 := 0) (ci := 0) rfl rfl rfl rfl hl.1 rfl (Nat.le_of_ble_eq_true rfl) dX4_readInto_51 ⟨Nat.zero_le _, Nat.zero_le _⟩ [2, 3, 4, 5, 6, 7, 8] [0, 1] rfl (by decide) rfl (by decide) (by decide) (fun hd_24 H locs h hP hD hS => ?_)
          have hP : va_P D vwCl [(h4, .inr (4, [.ref a_tl, .int tn, .int tc])), (a_tl, .inl (cC, 200, .inl tl)), (h0, .inr (0, [.ref a_kd, .ref a_hd, .ref a_pl, .ref a_st, .ref a_ho, .ref a_be, .int nc, .int nn, .int dy])), (a_kd, .inl (cI, 7, .inl kd)), (a_hd, .inl (cI, 7, .inl hd_24)), (a_pl, .inl (cI, 7, .inl pl)), (a_st, .inl (cI, 7, .inl st)), (a_ho, .inl (cI, 6, .inl ho)), (a_be, .inl (cI, 42, .inl be))] H := hP
          have hD : va_D A [(h4, .inr (4, [.ref a_tl, .int tn, .int tc])), (a_tl, .inl (cC, 200, .inl tl)), (h0, .inr (0, [.ref a_kd, .ref a_hd, .ref a_pl, .ref a_st, .ref a_ho, .ref a_be, .int nc, .int nn, .int dy])), (a_kd, .inl (cI, 7, .inl kd)), (a_hd, .inl (cI, 7, .inl hd_24)), (a_pl, .inl (cI, 7, .inl pl)), (a_st, .inl (cI, 7, .inl st)), (a_ho, .inl (cI, 6, .inl ho)), (a_be, .inl (cI, 42, .inl be))] := hD
          refine lv_bipush (v := -4) hx hb dX4_readInto_54 (by decide) ?_
          exact hret (-4 : Int32) (tc, kd, hd_24, pl, st, ho, be, nc, nn, dy) _ _ _ ls h hP hD hS dX4_readInto_56
        · have h := h.2 c_23
          refine lv_aload_n hx hb dX4_readInto_29 rfl (lv_at hl 0 rfl) ?_
          refine va_get (D := D) (ci := 4) (v := .int tc) (C := RX4) (T := TX4) (N := 3) hx hb hts hin4 hown hK.1 hP 0 rfl rfl 2 (by decide) (k_0) (fun _ h9 => h9) rfl dX4_readInto_30 ?_
          refine lv_istore_n (lv' := [(3, .int tc), (0, .ref h4), (1, .ref h0), (2, .int x2)]) hx hb dX4_readInto_33 rfl hl (by decide) rfl (fun ls hl => ?_)
          refine lv_aload_n hx hb dX4_readInto_34 rfl (lv_at hl 1 rfl) ?_
          refine lv_aload_n hx hb dX4_readInto_35 rfl (lv_at hl 2 rfl) ?_
          refine k0V_i (As := [.ref h0]) (n := 1) ⟨hx, hb, hml, hown, hts⟩ hK hP hD hS hA (c_X4_readItem l D cI cC cQ h4 a_tl h0 a_kd a_hd a_pl a_st a_ho a_be tl tn tc kd hd pl st ho be nc nn dy  _ h) gX4_readInto_X4_readItem rfl rfl ⟨rfl, rfl⟩ yoX4_readItem ⟨Nat.le_of_ble_eq_true rfl, Nat.le_of_ble_eq_true rfl⟩ (q0 := 0) (ci := 4) rfl rfl rfl rfl hl.1 rfl (Nat.le_of_ble_eq_true rfl) dX4_readInto_36 ⟨Nat.zero_le _, Nat.zero_le _⟩ (fun r_25 u H locs h hP hD hS => ?_)
          obtain ⟨tc_26, kd_27, hd_28, pl_29, st_30, ho_31, be_32, nc_33, nn_34⟩ := u
          have hP : va_P D vwCl [(h4, .inr (4, [.ref a_tl, .int tn, .int tc_26])), (a_tl, .inl (cC, 200, .inl tl)), (h0, .inr (0, [.ref a_kd, .ref a_hd, .ref a_pl, .ref a_st, .ref a_ho, .ref a_be, .int nc_33, .int nn_34, .int dy])), (a_kd, .inl (cI, 7, .inl kd_27)), (a_hd, .inl (cI, 7, .inl hd_28)), (a_pl, .inl (cI, 7, .inl pl_29)), (a_st, .inl (cI, 7, .inl st_30)), (a_ho, .inl (cI, 6, .inl ho_31)), (a_be, .inl (cI, 42, .inl be_32))] H := hP
          have hD : va_D A [(h4, .inr (4, [.ref a_tl, .int tn, .int tc_26])), (a_tl, .inl (cC, 200, .inl tl)), (h0, .inr (0, [.ref a_kd, .ref a_hd, .ref a_pl, .ref a_st, .ref a_ho, .ref a_be, .int nc_33, .int nn_34, .int dy])), (a_kd, .inl (cI, 7, .inl kd_27)), (a_hd, .inl (cI, 7, .inl hd_28)), (a_pl, .inl (cI, 7, .inl pl_29)), (a_st, .inl (cI, 7, .inl st_30)), (a_ho, .inl (cI, 6, .inl ho_31)), (a_be, .inl (cI, 42, .inl be_32))] := hD
          obtain ⟨b_35, h⟩ := h
          refine lv_if_ne (tgt := 44) hx hb dX4_readInto_39 (by decide) (fun c_36 => ?_) (fun c_36 => ?_)
          · have h := h.2 c_36
            refine lv_iinc (v := (x2 + (1 : Int32))) (lv' := [(2, .int (x2 + (1 : Int32))), (3, .int tc), (0, .ref h4), (1, .ref h0)]) hx hb dX4_readInto_44 hl (k := 3) rfl rfl (by decide) rfl (fun ls hl => ?_)
            refine lv_goto (tgt := 11) hx hb dX4_readInto_47 (by decide) ?_
            exact ih h hP hD hS (lv_sub hl [2, 3, 0] rfl)
          · have h := h.1 c_36
            refine lv_iload_n hx hb dX4_readInto_42 rfl (lv_at hl 0 rfl) ?_
            exact hret tc (tc_26, kd_27, hd_28, pl_29, st_30, ho_31, be_32, nc_33, nn_34, dy) _ _ _ ls h hP hD hS dX4_readInto_43
  refine lv_aload_n hx hb dX4_readInto_0 rfl (lv_at hl 1 rfl) ?_
  refine kV_v (wr := [(h4, .inr (4, [.ref a_tl, .int tn, .int tc])), (a_tl, .inl (cC, 200, .inl tl))]) (As := []) (n := 0) ⟨hx, hb, hml, hown, hts⟩ hK hP hD hS hA (c_X0_clear l D cI cC cQ h0 a_kd a_hd a_pl a_st a_ho a_be kd hd pl st ho be nc nn dy  _ h) gX4_readInto_X0_clear rfl rfl ⟨rfl, rfl⟩ yoX0_clear ⟨Nat.le_of_ble_eq_true rfl, Nat.le_of_ble_eq_true rfl⟩ (q0 := 0) (ci := 0) rfl rfl rfl rfl hl.1 rfl (Nat.le_of_ble_eq_true rfl) dX4_readInto_1 ⟨Nat.zero_le _, Nat.zero_le _⟩ [2, 3, 4, 5, 6, 7, 8] [0, 1] rfl (by decide) rfl (by decide) (by decide) (fun u H locs h hP hD hS => ?_)
  obtain ⟨be_1, nc_2, nn_3, dy_4⟩ := u
  have hP : va_P D vwCl [(h4, .inr (4, [.ref a_tl, .int tn, .int tc])), (a_tl, .inl (cC, 200, .inl tl)), (h0, .inr (0, [.ref a_kd, .ref a_hd, .ref a_pl, .ref a_st, .ref a_ho, .ref a_be, .int nc_2, .int nn_3, .int dy_4])), (a_kd, .inl (cI, 7, .inl kd)), (a_hd, .inl (cI, 7, .inl hd)), (a_pl, .inl (cI, 7, .inl pl)), (a_st, .inl (cI, 7, .inl st)), (a_ho, .inl (cI, 6, .inl ho)), (a_be, .inl (cI, 42, .inl be_1))] H := hP
  have hD : va_D A [(h4, .inr (4, [.ref a_tl, .int tn, .int tc])), (a_tl, .inl (cC, 200, .inl tl)), (h0, .inr (0, [.ref a_kd, .ref a_hd, .ref a_pl, .ref a_st, .ref a_ho, .ref a_be, .int nc_2, .int nn_3, .int dy_4])), (a_kd, .inl (cI, 7, .inl kd)), (a_hd, .inl (cI, 7, .inl hd)), (a_pl, .inl (cI, 7, .inl pl)), (a_st, .inl (cI, 7, .inl st)), (a_ho, .inl (cI, 6, .inl ho)), (a_be, .inl (cI, 42, .inl be_1))] := hD
  refine lv_aload_n hx hb dX4_readInto_4 rfl (lv_at hl 0 rfl) ?_
  refine lv_iconst (v := 0) hx hb dX4_readInto_5 (by decide) ?_
  refine va_put (D := D) (ci := 4) (v := .int (0 : Int32)) (ty := .int) (C := RX4) (T := TX4) (N := 3) hx hb hts hin4 tyX4 tyX4_ok nmX4 hown hK.1 hP hD hS 0 rfl rfl 2 (by decide) (k_0) (fun _ h9 => h9) rfl (by decide +kernel) rfl rfl (Nat.le_of_ble_eq_true rfl) dX4_readInto_6 (fun H locs hP hD hS => ?_)
  have hP : va_P D vwCl [(h4, .inr (4, [.ref a_tl, .int tn, .int (0 : Int32)])), (a_tl, .inl (cC, 200, .inl tl)), (h0, .inr (0, [.ref a_kd, .ref a_hd, .ref a_pl, .ref a_st, .ref a_ho, .ref a_be, .int nc_2, .int nn_3, .int dy_4])), (a_kd, .inl (cI, 7, .inl kd)), (a_hd, .inl (cI, 7, .inl hd)), (a_pl, .inl (cI, 7, .inl pl)), (a_st, .inl (cI, 7, .inl st)), (a_ho, .inl (cI, 6, .inl ho)), (a_be, .inl (cI, 42, .inl be_1))] H := hP
  have hD : va_D A [(h4, .inr (4, [.ref a_tl, .int tn, .int (0 : Int32)])), (a_tl, .inl (cC, 200, .inl tl)), (h0, .inr (0, [.ref a_kd, .ref a_hd, .ref a_pl, .ref a_st, .ref a_ho, .ref a_be, .int nc_2, .int nn_3, .int dy_4])), (a_kd, .inl (cI, 7, .inl kd)), (a_hd, .inl (cI, 7, .inl hd)), (a_pl, .inl (cI, 7, .inl pl)), (a_st, .inl (cI, 7, .inl st)), (a_ho, .inl (cI, 6, .inl ho)), (a_be, .inl (cI, 42, .inl be_1))] := hD
  refine lv_iconst (v := 0) hx hb dX4_readInto_9 (by decide) ?_
  refine lv_istore_n (lv' := [(2, .int (0 : Int32)), (0, .ref h4), (1, .ref h0)]) hx hb dX4_readInto_10 rfl hl (by decide) rfl (fun ls hl => ?_)
  obtain ⟨n_37, h⟩ := h
  exact L11 n_37 h hP hD hS (lv_sub hl [1, 2, 0] rfl)

/-! DoubtCourt$Sightings.clear -/
abbrev rmX3_clear : Room := { frames := 0, cells := 0, slots := 0, locals := 0 }
theorem yoX3_clear : yX3_clear.cls ≠ "java/lang/invoke/MethodHandle" ∧ yX3_clear.cls ≠ "java/lang/invoke/VarHandle" ∧ (parseMethodDescriptor yX3_clear.desc).map (fun d => d.parameters.length) = some 0 := by decide +kernel
set_option maxHeartbeats 4000000 in
set_option maxRecDepth 100000 in
theorem c_X3_clear (l : Launch) (D : va_G) (cI cC cQ : ClassId) (h3 : Nat) (a_sw : Nat) (a_sn : Nat) (sw : Nat → Int32) (sn : Nat → Int32) (su : Int32) (Q : Int32 → Prop) (h : wX3_clear Q) : Cv (S := (Int32)) l D cI cC cQ yX3_clear wsX3_clear rmX3_clear [.ref h3] [(h3, .inr (3, [.ref a_sw, .ref a_sn, .int su])), (a_sw, .inl (cI, 6, .inl sw)), (a_sn, .inl (cI, 6, .inl sn))] (fun u => [(h3, .inr (3, [.ref a_sw, .ref a_sn, .int u])), (a_sw, .inl (cI, 6, .inl sw)), (a_sn, .inl (cI, 6, .inl sn))]) (fun u => Q u) := by
  refine Cv_mk (cc := cX3_clear) (maxL := 1) (by decide) rfl (Nat.le_of_ble_eq_true rfl) ?_
  intro p e s m args below meth c A Z ls hx hb hml hown hts hK hA hP hD hret hl
  have hS : va_S A s.heap s.heap [] := va_S.rf
  have hin3 : ∀ w ∈ u_ws RX3 TX3 3, w ∈ wsX3_clear := by decide +kernel
  have k_0 := hts (.fieldLink RX3 18 "DoubtCourt$Sightings" "used" "I") (by decide +kernel)
  have hl : lv_has ls 1 [(0, .ref h3)] := hl
  refine lv_aload_n hx hb dX3_clear_0 rfl (lv_at hl 0 rfl) ?_
  refine lv_iconst (v := 0) hx hb dX3_clear_1 (by decide) ?_
  refine va_put (D := D) (ci := 3) (v := .int (0 : Int32)) (ty := .int) (C := RX3) (T := TX3) (N := 3) hx hb hts hin3 tyX3 tyX3_ok nmX3 hown hK.1 hP hD hS 0 rfl rfl 2 (by decide) (k_0) (fun _ h9 => h9) rfl (by decide +kernel) rfl rfl (Nat.le_of_ble_eq_true rfl) dX3_clear_2 (fun H locs hP hD hS => ?_)
  have hP : va_P D vwCl [(h3, .inr (3, [.ref a_sw, .ref a_sn, .int (0 : Int32)])), (a_sw, .inl (cI, 6, .inl sw)), (a_sn, .inl (cI, 6, .inl sn))] H := hP
  have hD : va_D A [(h3, .inr (3, [.ref a_sw, .ref a_sn, .int (0 : Int32)])), (a_sw, .inl (cI, 6, .inl sw)), (a_sn, .inl (cI, 6, .inl sn))] := hD
  exact hret (0 : Int32) _ _ _ ls h hP hD hS dX3_clear_5

/-! DoubtCourt$Sightings.add -/
abbrev rmX3_add : Room := { frames := 1, cells := 0, slots := 0, locals := 22 }
theorem yoX3_add : yX3_add.cls ≠ "java/lang/invoke/MethodHandle" ∧ yX3_add.cls ≠ "java/lang/invoke/VarHandle" ∧ (parseMethodDescriptor yX3_add.desc).map (fun d => d.parameters.length) = some 2 := by decide +kernel
set_option maxHeartbeats 4000000 in
set_option maxRecDepth 100000 in
theorem c_X3_add (l : Launch) (D : va_G) (cI cC cQ : ClassId) (h3 : Nat) (a_sw : Nat) (a_sn : Nat) (sw : Nat → Int32) (sn : Nat → Int32) (su : Int32) (x1 : Int32) (x2 : Int32) (Q : (Nat → Int32) → (Nat → Int32) → Int32 → Prop) (h : wX3_add x1 x2 sw sn su Q) : Cv (S := (Nat → Int32) × (Nat → Int32) × (Int32)) l D cI cC cQ yX3_add wsX3_add rmX3_add [.ref h3, .int x1, .int x2] [(h3, .inr (3, [.ref a_sw, .ref a_sn, .int su])), (a_sw, .inl (cI, 6, .inl sw)), (a_sn, .inl (cI, 6, .inl sn))] (fun u => [(h3, .inr (3, [.ref a_sw, .ref a_sn, .int u.2.2])), (a_sw, .inl (cI, 6, .inl u.1)), (a_sn, .inl (cI, 6, .inl u.2.1))]) (fun u => Q u.1 u.2.1 u.2.2) := by
  refine Cv_mk (cc := cX3_add) (maxL := 3) (by decide) rfl (Nat.le_of_ble_eq_true rfl) ?_
  intro p e s m args below meth c A Z ls hx hb hml hown hts hK hA hP hD hret hl
  have hS : va_S A s.heap s.heap [] := va_S.rf
  have hin3 : ∀ w ∈ u_ws RX3 TX3 3, w ∈ wsX3_add := by decide +kernel
  have k_0 := hts (.fieldLink RX3 9 "DoubtCourt$Sightings" "who" "[I") (by decide +kernel)
  have k_1 := hts (.fieldLink RX3 18 "DoubtCourt$Sightings" "used" "I") (by decide +kernel)
  have k_2 := hts (.initialized RX5) (by decide +kernel)
  have k_3 := hts (.static yX5_put) (by decide +kernel)
  have k_4 := hts (.fieldLink RX3 15 "DoubtCourt$Sightings" "when" "[I") (by decide +kernel)
  have hl : lv_has ls 3 [(0, .ref h3), (1, .int x1), (2, .int x2)] := hl
  refine lv_aload_n hx hb dX3_add_0 rfl (lv_at hl 0 rfl) ?_
  refine va_get (D := D) (ci := 3) (v := .ref a_sw) (C := RX3) (T := TX3) (N := 3) hx hb hts hin3 hown hK.1 hP 0 rfl rfl 0 (by decide) (k_0) (fun _ h9 => h9) rfl dX3_add_1 ?_
  refine lv_aload_n hx hb dX3_add_4 rfl (lv_at hl 0 rfl) ?_
  refine va_get (D := D) (ci := 3) (v := .int su) (C := RX3) (T := TX3) (N := 3) hx hb hts hin3 hown hK.1 hP 0 rfl rfl 2 (by decide) (k_1) (fun _ h9 => h9) rfl dX3_add_5 ?_
  refine lv_iload_n hx hb dX3_add_8 rfl (lv_at hl 1 rfl) ?_
  refine kSN_v (wr := [(h3, .inr (3, [.ref a_sw, .ref a_sn, .int su])), (a_sn, .inl (cI, 6, .inl sn))]) (As := [.ref a_sw, .int su, .int x1]) (n := 3) ⟨hx, hb, hml, hown, hts⟩ hK hP hD hS hA (c_X5_put l D cI cC cQ a_sw sw 6 su x1 _ h) gX3_add_X5_put_n22 (hK.2 _ (List.mem_of_getElem? (i := 13) rfl)) (k_2) (k_3) rfl ⟨rfl, rfl⟩ yoX5_put ⟨Nat.le_of_ble_eq_true rfl, Nat.le_of_ble_eq_true rfl⟩ rfl hl.1 rfl (Nat.le_of_ble_eq_true rfl) dX3_add_9 ⟨Nat.zero_le _, Nat.zero_le _⟩ [1] [0, 2] rfl (by decide) rfl (by decide) (by decide) (fun sw_1 H locs h hP hD hS => ?_)
  have hP : va_P D vwCl [(h3, .inr (3, [.ref a_sw, .ref a_sn, .int su])), (a_sn, .inl (cI, 6, .inl sn)), (a_sw, .inl (cI, 6, .inl sw_1))] H := hP
  have hD : va_D A [(h3, .inr (3, [.ref a_sw, .ref a_sn, .int su])), (a_sn, .inl (cI, 6, .inl sn)), (a_sw, .inl (cI, 6, .inl sw_1))] := hD
  refine lv_aload_n hx hb dX3_add_12 rfl (lv_at hl 0 rfl) ?_
  refine va_get (D := D) (ci := 3) (v := .ref a_sn) (C := RX3) (T := TX3) (N := 3) hx hb hts hin3 hown hK.1 hP 0 rfl rfl 1 (by decide) (k_4) (fun _ h9 => h9) rfl dX3_add_13 ?_
  refine lv_aload_n hx hb dX3_add_16 rfl (lv_at hl 0 rfl) ?_
  refine va_get (D := D) (ci := 3) (v := .int su) (C := RX3) (T := TX3) (N := 3) hx hb hts hin3 hown hK.1 hP 0 rfl rfl 2 (by decide) (k_1) (fun _ h9 => h9) rfl dX3_add_17 ?_
  refine lv_iload_n hx hb dX3_add_20 rfl (lv_at hl 2 rfl) ?_
  refine kSN_v (wr := [(h3, .inr (3, [.ref a_sw, .ref a_sn, .int su])), (a_sw, .inl (cI, 6, .inl sw_1))]) (As := [.ref a_sn, .int su, .int x2]) (n := 3) ⟨hx, hb, hml, hown, hts⟩ hK hP hD hS hA (c_X5_put l D cI cC cQ a_sn sn 6 su x2 _ h) gX3_add_X5_put_n22 (hK.2 _ (List.mem_of_getElem? (i := 13) rfl)) (k_2) (k_3) rfl ⟨rfl, rfl⟩ yoX5_put ⟨Nat.le_of_ble_eq_true rfl, Nat.le_of_ble_eq_true rfl⟩ rfl hl.1 rfl (Nat.le_of_ble_eq_true rfl) dX3_add_21 ⟨Nat.zero_le _, Nat.zero_le _⟩ [1] [0, 2] rfl (by decide) rfl (by decide) (by decide) (fun sn_2 H locs h hP hD hS => ?_)
  have hP : va_P D vwCl [(h3, .inr (3, [.ref a_sw, .ref a_sn, .int su])), (a_sw, .inl (cI, 6, .inl sw_1)), (a_sn, .inl (cI, 6, .inl sn_2))] H := hP
  have hD : va_D A [(h3, .inr (3, [.ref a_sw, .ref a_sn, .int su])), (a_sw, .inl (cI, 6, .inl sw_1)), (a_sn, .inl (cI, 6, .inl sn_2))] := hD
  refine lv_aload_n hx hb dX3_add_24 rfl (lv_at hl 0 rfl) ?_
  refine lv_dup hx hb dX3_add_25 rfl ?_
  refine va_get (D := D) (ci := 3) (v := .int su) (C := RX3) (T := TX3) (N := 3) hx hb hts hin3 hown hK.1 hP 0 rfl rfl 2 (by decide) (k_1) (fun _ h9 => h9) rfl dX3_add_26 ?_
  refine lv_iconst (v := 1) hx hb dX3_add_29 (by decide) ?_
  refine lv_iadd hx hb dX3_add_30 ?_
  refine va_put (D := D) (ci := 3) (v := .int (su + (1 : Int32))) (ty := .int) (C := RX3) (T := TX3) (N := 3) hx hb hts hin3 tyX3 tyX3_ok nmX3 hown hK.1 hP hD hS 0 rfl rfl 2 (by decide) (k_1) (fun _ h9 => h9) rfl (by decide +kernel) rfl rfl (Nat.le_of_ble_eq_true rfl) dX3_add_31 (fun H locs hP hD hS => ?_)
  have hP : va_P D vwCl [(h3, .inr (3, [.ref a_sw, .ref a_sn, .int (su + (1 : Int32))])), (a_sw, .inl (cI, 6, .inl sw_1)), (a_sn, .inl (cI, 6, .inl sn_2))] H := hP
  have hD : va_D A [(h3, .inr (3, [.ref a_sw, .ref a_sn, .int (su + (1 : Int32))])), (a_sw, .inl (cI, 6, .inl sw_1)), (a_sn, .inl (cI, 6, .inl sn_2))] := hD
  exact hret (sw_1, sn_2, (su + (1 : Int32))) _ _ _ ls h hP hD hS dX3_add_34

/-! DoubtCourt$Sightings.agrees -/
abbrev rmX3_agrees : Room := { frames := 1, cells := 0, slots := 0, locals := 21 }
theorem yoX3_agrees : yX3_agrees.cls ≠ "java/lang/invoke/MethodHandle" ∧ yX3_agrees.cls ≠ "java/lang/invoke/VarHandle" ∧ (parseMethodDescriptor yX3_agrees.desc).map (fun d => d.parameters.length) = some 2 := by decide +kernel
set_option maxHeartbeats 4000000 in
set_option maxRecDepth 100000 in
theorem c_X3_agrees (l : Launch) (D : va_G) (cI cC cQ : ClassId) (h3 : Nat) (a_sw : Nat) (a_sn : Nat) (sw : Nat → Int32) (sn : Nat → Int32) (su : Int32) (x1 : Int32) (x2 : Int32) (Q : Int32 → Prop) (h : wX3_agrees x1 x2 sw sn su Q) : Ci (S := Unit) l D cI cC cQ yX3_agrees wsX3_agrees rmX3_agrees [.ref h3, .int x1, .int x2] [(h3, .inr (3, [.ref a_sw, .ref a_sn, .int su])), (a_sw, .inl (cI, 6, .inl sw)), (a_sn, .inl (cI, 6, .inl sn))] (fun _ => [(h3, .inr (3, [.ref a_sw, .ref a_sn, .int su])), (a_sw, .inl (cI, 6, .inl sw)), (a_sn, .inl (cI, 6, .inl sn))]) (fun r _ => (r = 0 ∨ r = 1) ∧ Q r) := by
  refine Cz_mk (cc := cX3_agrees) (maxL := 4) (by decide) rfl (Nat.le_of_ble_eq_true rfl) ?_
  intro p e s m args below meth c A Z ls hx hb hml hown hts hK hA hP hD hret hl
  have hS : va_S A s.heap s.heap [] := va_S.rf
  have hin3 : ∀ w ∈ u_ws RX3 TX3 3, w ∈ wsX3_agrees := by decide +kernel
  have k_0 := hts (.fieldLink RX3 18 "DoubtCourt$Sightings" "used" "I") (by decide +kernel)
  have k_1 := hts (.fieldLink RX3 15 "DoubtCourt$Sightings" "when" "[I") (by decide +kernel)
  have k_2 := hts (.initialized RX5) (by decide +kernel)
  have k_3 := hts (.static yX5_of) (by decide +kernel)
  have k_4 := hts (.fieldLink RX3 9 "DoubtCourt$Sightings" "who" "[I") (by decide +kernel)
  have hl : lv_has ls 4 [(0, .ref h3), (1, .int x1), (2, .int x2)] := hl
  have L2 : ∀ (n : Nat) {x1 : Int32} {x2 : Int32} {x3 : Int32} {H : Heap} {locs : List Loc} {ls : Array Slot}, wX3_agrees_L2 x1 x2 sw sn su Q n x3 → va_P D vwCl [(h3, .inr (3, [.ref a_sw, .ref a_sn, .int su])), (a_sw, .inl (cI, 6, .inl sw)), (a_sn, .inl (cI, 6, .inl sn))] H → va_D A [(h3, .inr (3, [.ref a_sw, .ref a_sn, .int su])), (a_sw, .inl (cI, 6, .inl sw)), (a_sn, .inl (cI, 6, .inl sn))] → va_S A s.heap H locs → lv_has ls 4 [(0, .ref h3), (1, .int x1), (2, .int x2), (3, .int x3)] → W p l e rmX3_agrees s m args below meth c H locs 0 0 Z (F0 m 2 ls []) := by
    intro n
    induction n with
    | zero =>
      intro x1 x2 x3 H locs ls h hP hD hS hl
      exact (show False from h).elim
    | succ n ih =>
      intro x1 x2 x3 H locs ls h hP hD hS hl
      refine lv_iload_n hx hb dX3_agrees_2 rfl (lv_at hl 3 rfl) ?_
      refine lv_aload_n hx hb dX3_agrees_3 rfl (lv_at hl 0 rfl) ?_
      refine va_get (D := D) (ci := 3) (v := .int su) (C := RX3) (T := TX3) (N := 3) hx hb hts hin3 hown hK.1 hP 0 rfl rfl 2 (by decide) (k_0) (fun _ h9 => h9) rfl dX3_agrees_4 ?_
      refine lv_icmp_ge (tgt := 42) hx hb dX3_agrees_7 (by decide) (fun c_6 => ?_) (fun c_6 => ?_)
      · have h := h.1 c_6
        refine lv_iconst (v := 1) hx hb dX3_agrees_42 (by decide) ?_
        exact hret (1 : Int32) () _ _ _ ls (by decide) h hP hD hS dX3_agrees_43
      · have h := h.2 c_6
        refine lv_aload_n hx hb dX3_agrees_10 rfl (lv_at hl 0 rfl) ?_
        refine va_get (D := D) (ci := 3) (v := .ref a_sn) (C := RX3) (T := TX3) (N := 3) hx hb hts hin3 hown hK.1 hP 0 rfl rfl 1 (by decide) (k_1) (fun _ h9 => h9) rfl dX3_agrees_11 ?_
        refine lv_iload_n hx hb dX3_agrees_14 rfl (lv_at hl 3 rfl) ?_
        refine kSN_i (wr := [(h3, .inr (3, [.ref a_sw, .ref a_sn, .int su])), (a_sw, .inl (cI, 6, .inl sw))]) (As := [.ref a_sn, .int x3]) (n := 2) ⟨hx, hb, hml, hown, hts⟩ hK hP hD hS hA (c_X5_of l D cI cC cQ a_sn sn 6 x3 _ h) gX3_agrees_X5_of_n31 (hK.2 _ (List.mem_of_getElem? (i := 14) rfl)) (k_2) (k_3) rfl ⟨rfl, rfl⟩ yoX5_of ⟨Nat.le_of_ble_eq_true rfl, Nat.le_of_ble_eq_true rfl⟩ rfl hl.1 rfl (Nat.le_of_ble_eq_true rfl) dX3_agrees_15 ⟨Nat.zero_le _, Nat.zero_le _⟩ [2] [0, 1] rfl (by decide) rfl (by decide) (by decide) (fun r_7 u H locs h hP hD hS => ?_)
        have hP : va_P D vwCl [(h3, .inr (3, [.ref a_sw, .ref a_sn, .int su])), (a_sw, .inl (cI, 6, .inl sw)), (a_sn, .inl (cI, 6, .inl sn))] H := hP
        have hD : va_D A [(h3, .inr (3, [.ref a_sw, .ref a_sn, .int su])), (a_sw, .inl (cI, 6, .inl sw)), (a_sn, .inl (cI, 6, .inl sn))] := hD
        refine lv_iload_n hx hb dX3_agrees_18 rfl (lv_at hl 1 rfl) ?_
        refine lv_icmp_ne (tgt := 36) hx hb dX3_agrees_19 (by decide) (fun c_8 => ?_) (fun c_8 => ?_)
        · have h := h.2 c_8
          refine lv_iinc (v := (x3 + (1 : Int32))) (lv' := [(3, .int (x3 + (1 : Int32))), (0, .ref h3), (1, .int x1), (2, .int x2)]) hx hb dX3_agrees_36 hl (k := 3) rfl rfl (by decide) rfl (fun ls hl => ?_)
          refine lv_goto (tgt := 2) hx hb dX3_agrees_39 (by decide) ?_
          exact ih h hP hD hS (lv_sub hl [1, 2, 3, 0] rfl)
        · have h := h.1 c_8
          refine lv_aload_n hx hb dX3_agrees_22 rfl (lv_at hl 0 rfl) ?_
          refine va_get (D := D) (ci := 3) (v := .ref a_sw) (C := RX3) (T := TX3) (N := 3) hx hb hts hin3 hown hK.1 hP 0 rfl rfl 0 (by decide) (k_4) (fun _ h9 => h9) rfl dX3_agrees_23 ?_
          refine lv_iload_n hx hb dX3_agrees_26 rfl (lv_at hl 3 rfl) ?_
          refine kSN_i (wr := [(h3, .inr (3, [.ref a_sw, .ref a_sn, .int su])), (a_sn, .inl (cI, 6, .inl sn))]) (As := [.ref a_sw, .int x3]) (n := 2) ⟨hx, hb, hml, hown, hts⟩ hK hP hD hS hA (c_X5_of l D cI cC cQ a_sw sw 6 x3 _ h) gX3_agrees_X5_of_n31 (hK.2 _ (List.mem_of_getElem? (i := 14) rfl)) (k_2) (k_3) rfl ⟨rfl, rfl⟩ yoX5_of ⟨Nat.le_of_ble_eq_true rfl, Nat.le_of_ble_eq_true rfl⟩ rfl hl.1 rfl (Nat.le_of_ble_eq_true rfl) dX3_agrees_27 ⟨Nat.zero_le _, Nat.zero_le _⟩ [1] [0, 2] rfl (by decide) rfl (by decide) (by decide) (fun r_9 u H locs h hP hD hS => ?_)
          have hP : va_P D vwCl [(h3, .inr (3, [.ref a_sw, .ref a_sn, .int su])), (a_sn, .inl (cI, 6, .inl sn)), (a_sw, .inl (cI, 6, .inl sw))] H := hP
          have hD : va_D A [(h3, .inr (3, [.ref a_sw, .ref a_sn, .int su])), (a_sn, .inl (cI, 6, .inl sn)), (a_sw, .inl (cI, 6, .inl sw))] := hD
          refine lv_iload_n hx hb dX3_agrees_30 rfl (lv_at hl 2 rfl) ?_
          refine lv_icmp_eq (tgt := 36) hx hb dX3_agrees_31 (by decide) (fun c_10 => ?_) (fun c_10 => ?_)
          · have h := h.1 c_10
            refine lv_iinc (v := (x3 + (1 : Int32))) (lv' := [(3, .int (x3 + (1 : Int32))), (0, .ref h3), (1, .int x1), (2, .int x2)]) hx hb dX3_agrees_36 hl (k := 3) rfl rfl (by decide) rfl (fun ls hl => ?_)
            refine lv_goto (tgt := 2) hx hb dX3_agrees_39 (by decide) ?_
            have hP := hP.sub (ws' := [(h3, .inr (3, [.ref a_sw, .ref a_sn, .int su])), (a_sw, .inl (cI, 6, .inl sw)), (a_sn, .inl (cI, 6, .inl sn))]) [0, 2, 1] rfl
            have hD := hD.sub (ws' := [(h3, .inr (3, [.ref a_sw, .ref a_sn, .int su])), (a_sw, .inl (cI, 6, .inl sw)), (a_sn, .inl (cI, 6, .inl sn))]) [0, 2, 1] (by decide) rfl
            exact ih h hP hD hS (lv_sub hl [1, 2, 3, 0] rfl)
          · have h := h.2 c_10
            refine lv_iconst (v := 0) hx hb dX3_agrees_34 (by decide) ?_
            have hP := hP.sub (ws' := [(h3, .inr (3, [.ref a_sw, .ref a_sn, .int su])), (a_sw, .inl (cI, 6, .inl sw)), (a_sn, .inl (cI, 6, .inl sn))]) [0, 2, 1] rfl
            have hD := hD.sub (ws' := [(h3, .inr (3, [.ref a_sw, .ref a_sn, .int su])), (a_sw, .inl (cI, 6, .inl sw)), (a_sn, .inl (cI, 6, .inl sn))]) [0, 2, 1] (by decide) rfl
            exact hret (0 : Int32) () _ _ _ ls (by decide) h hP hD hS dX3_agrees_35
  refine lv_iconst (v := 0) hx hb dX3_agrees_0 (by decide) ?_
  refine lv_istore_n (lv' := [(3, .int (0 : Int32)), (0, .ref h3), (1, .int x1), (2, .int x2)]) hx hb dX3_agrees_1 rfl hl (by decide) rfl (fun ls hl => ?_)
  obtain ⟨n_11, h⟩ := h
  exact L2 n_11 h hP hD hS (lv_sub hl [1, 2, 3, 0] rfl)

/-! DoubtCourt$Sightings.wouldBeSo -/
abbrev rmX3_wouldBeSo : Room := { frames := 4, cells := 0, slots := 0, locals := 94 }
theorem yoX3_wouldBeSo : yX3_wouldBeSo.cls ≠ "java/lang/invoke/MethodHandle" ∧ yX3_wouldBeSo.cls ≠ "java/lang/invoke/VarHandle" ∧ (parseMethodDescriptor yX3_wouldBeSo.desc).map (fun d => d.parameters.length) = some 2 := by decide +kernel
set_option maxHeartbeats 4000000 in
set_option maxRecDepth 100000 in
theorem c_X3_wouldBeSo (l : Launch) (D : va_G) (cI cC cQ : ClassId) (h3 : Nat) (a_sw : Nat) (a_sn : Nat) (h0 : Nat) (a_kd : Nat) (a_hd : Nat) (a_pl : Nat) (a_st : Nat) (a_ho : Nat) (a_be : Nat) (sw : Nat → Int32) (sn : Nat → Int32) (su : Int32) (kd : Nat → Int32) (hd : Nat → Int32) (pl : Nat → Int32) (st : Nat → Int32) (ho : Nat → Int32) (be : Nat → Int32) (nc : Int32) (nn : Int32) (dy : Int32) (x2 : Int32) (Q : Int32 → (Nat → Int32) → (Nat → Int32) → Prop) (h : wX3_wouldBeSo x2 sw sn su kd hd pl st ho be nc Q) : Ci (S := (Nat → Int32) × (Nat → Int32)) l D cI cC cQ yX3_wouldBeSo wsX3_wouldBeSo rmX3_wouldBeSo [.ref h3, .ref h0, .int x2] [(h3, .inr (3, [.ref a_sw, .ref a_sn, .int su])), (a_sw, .inl (cI, 6, .inl sw)), (a_sn, .inl (cI, 6, .inl sn)), (h0, .inr (0, [.ref a_kd, .ref a_hd, .ref a_pl, .ref a_st, .ref a_ho, .ref a_be, .int nc, .int nn, .int dy])), (a_kd, .inl (cI, 7, .inl kd)), (a_hd, .inl (cI, 7, .inl hd)), (a_pl, .inl (cI, 7, .inl pl)), (a_st, .inl (cI, 7, .inl st)), (a_ho, .inl (cI, 6, .inl ho)), (a_be, .inl (cI, 42, .inl be))] (fun u => [(h3, .inr (3, [.ref a_sw, .ref a_sn, .int su])), (a_sw, .inl (cI, 6, .inl sw)), (a_sn, .inl (cI, 6, .inl sn)), (h0, .inr (0, [.ref a_kd, .ref a_hd, .ref a_pl, .ref a_st, .ref a_ho, .ref a_be, .int nc, .int nn, .int dy])), (a_kd, .inl (cI, 7, .inl kd)), (a_hd, .inl (cI, 7, .inl hd)), (a_pl, .inl (cI, 7, .inl pl)), (a_st, .inl (cI, 7, .inl st)), (a_ho, .inl (cI, 6, .inl u.1)), (a_be, .inl (cI, 42, .inl u.2))]) (fun r u => (r = 0 ∨ r = 1) ∧ Q r u.1 u.2) := by
  refine Cz_mk (cc := cX3_wouldBeSo) (maxL := 4) (by decide) rfl (Nat.le_of_ble_eq_true rfl) ?_
  intro p e s m args below meth c A Z ls hx hb hml hown hts hK hA hP hD hret hl
  have hS : va_S A s.heap s.heap [] := va_S.rf
  have hin0 : ∀ w ∈ u_ws RX0 TX0 9, w ∈ wsX3_wouldBeSo := by decide +kernel
  have k_0 := hts (.initialized RX5) (by decide +kernel)
  have k_1 := hts (.static yX5_of) (by decide +kernel)
  have hl : lv_has ls 4 [(0, .ref h3), (1, .ref h0), (2, .int x2)] := hl
  have L2 : ∀ (n : Nat) {x2 : Int32} {x3 : Int32} {ho : Nat → Int32} {be : Nat → Int32} {H : Heap} {locs : List Loc} {ls : Array Slot}, wX3_wouldBeSo_L2 x2 sw sn su kd hd pl st nc Q n x3 ho be → va_P D vwCl [(h3, .inr (3, [.ref a_sw, .ref a_sn, .int su])), (a_sw, .inl (cI, 6, .inl sw)), (a_sn, .inl (cI, 6, .inl sn)), (h0, .inr (0, [.ref a_kd, .ref a_hd, .ref a_pl, .ref a_st, .ref a_ho, .ref a_be, .int nc, .int nn, .int dy])), (a_kd, .inl (cI, 7, .inl kd)), (a_hd, .inl (cI, 7, .inl hd)), (a_pl, .inl (cI, 7, .inl pl)), (a_st, .inl (cI, 7, .inl st)), (a_ho, .inl (cI, 6, .inl ho)), (a_be, .inl (cI, 42, .inl be))] H → va_D A [(h3, .inr (3, [.ref a_sw, .ref a_sn, .int su])), (a_sw, .inl (cI, 6, .inl sw)), (a_sn, .inl (cI, 6, .inl sn)), (h0, .inr (0, [.ref a_kd, .ref a_hd, .ref a_pl, .ref a_st, .ref a_ho, .ref a_be, .int nc, .int nn, .int dy])), (a_kd, .inl (cI, 7, .inl kd)), (a_hd, .inl (cI, 7, .inl hd)), (a_pl, .inl (cI, 7, .inl pl)), (a_st, .inl (cI, 7, .inl st)), (a_ho, .inl (cI, 6, .inl ho)), (a_be, .inl (cI, 42, .inl be))] → va_S A s.heap H locs → lv_has ls 4 [(0, .ref h3), (1, .ref h0), (2, .int x2), (3, .int x3)] → W p l e rmX3_wouldBeSo s m args below meth c H locs 0 0 Z (F0 m 2 ls []) := by
    intro n
    induction n with
    | zero =>
      intro x2 x3 ho be H locs ls h hP hD hS hl
      exact (show False from h).elim
    | succ n ih =>
      intro x2 x3 ho be H locs ls h hP hD hS hl
      refine lv_iload_n hx hb dX3_wouldBeSo_2 rfl (lv_at hl 3 rfl) ?_
      refine lv_bipush (v := 20) hx hb dX3_wouldBeSo_3 (by decide) ?_
      refine lv_icmp_gt (tgt := 38) hx hb dX3_wouldBeSo_5 (by decide) (fun c_8 => ?_) (fun c_8 => ?_)
      · have h := h.1 c_8
        refine lv_iconst (v := 1) hx hb dX3_wouldBeSo_38 (by decide) ?_
        exact hret (1 : Int32) (ho, be) _ _ _ ls (by decide) h hP hD hS dX3_wouldBeSo_39
      · have h := h.2 c_8
        refine lv_aload_n hx hb dX3_wouldBeSo_8 rfl (lv_at hl 0 rfl) ?_
        refine lv_iload_n hx hb dX3_wouldBeSo_9 rfl (lv_at hl 3 rfl) ?_
        refine lv_aload_n hx hb dX3_wouldBeSo_10 rfl (lv_at hl 1 rfl) ?_
        refine va_getN (D := D) (ci := 0) (v := .ref a_ho) (C := RX0) (T := TX0) (N := 9) hx hb hts hin0 hown hK.1 hP 3 rfl rfl 4 (by decide) (va_Nw.use rfl (hK.2 _ (List.mem_of_getElem? (i := 27) rfl))) (fun _ h9 => h9) rfl dX3_wouldBeSo_11 ?_
        refine lv_iload_n hx hb dX3_wouldBeSo_14 rfl (lv_at hl 2 rfl) ?_
        refine kSN_i (wr := [(h3, .inr (3, [.ref a_sw, .ref a_sn, .int su])), (a_sw, .inl (cI, 6, .inl sw)), (a_sn, .inl (cI, 6, .inl sn)), (h0, .inr (0, [.ref a_kd, .ref a_hd, .ref a_pl, .ref a_st, .ref a_ho, .ref a_be, .int nc, .int nn, .int dy])), (a_kd, .inl (cI, 7, .inl kd)), (a_hd, .inl (cI, 7, .inl hd)), (a_pl, .inl (cI, 7, .inl pl)), (a_st, .inl (cI, 7, .inl st)), (a_be, .inl (cI, 42, .inl be))]) (As := [.ref a_ho, .int x2]) (n := 2) ⟨hx, hb, hml, hown, hts⟩ hK hP hD hS hA (c_X5_of l D cI cC cQ a_ho ho 6 x2 _ h) gX3_wouldBeSo_X5_of_n31 (hK.2 _ (List.mem_of_getElem? (i := 14) rfl)) (k_0) (k_1) rfl ⟨rfl, rfl⟩ yoX5_of ⟨Nat.le_of_ble_eq_true rfl, Nat.le_of_ble_eq_true rfl⟩ rfl hl.1 rfl (Nat.le_of_ble_eq_true rfl) dX3_wouldBeSo_15 ⟨Nat.zero_le _, Nat.zero_le _⟩ [8] [0, 1, 2, 3, 4, 5, 6, 7, 9] rfl (by decide) rfl (by decide) (by decide) (fun r_9 u H locs h hP hD hS => ?_)
        have hP : va_P D vwCl [(h3, .inr (3, [.ref a_sw, .ref a_sn, .int su])), (a_sw, .inl (cI, 6, .inl sw)), (a_sn, .inl (cI, 6, .inl sn)), (h0, .inr (0, [.ref a_kd, .ref a_hd, .ref a_pl, .ref a_st, .ref a_ho, .ref a_be, .int nc, .int nn, .int dy])), (a_kd, .inl (cI, 7, .inl kd)), (a_hd, .inl (cI, 7, .inl hd)), (a_pl, .inl (cI, 7, .inl pl)), (a_st, .inl (cI, 7, .inl st)), (a_be, .inl (cI, 42, .inl be)), (a_ho, .inl (cI, 6, .inl ho))] H := hP
        have hD : va_D A [(h3, .inr (3, [.ref a_sw, .ref a_sn, .int su])), (a_sw, .inl (cI, 6, .inl sw)), (a_sn, .inl (cI, 6, .inl sn)), (h0, .inr (0, [.ref a_kd, .ref a_hd, .ref a_pl, .ref a_st, .ref a_ho, .ref a_be, .int nc, .int nn, .int dy])), (a_kd, .inl (cI, 7, .inl kd)), (a_hd, .inl (cI, 7, .inl hd)), (a_pl, .inl (cI, 7, .inl pl)), (a_st, .inl (cI, 7, .inl st)), (a_be, .inl (cI, 42, .inl be)), (a_ho, .inl (cI, 6, .inl ho))] := hD
        refine kV_i (wr := [(h0, .inr (0, [.ref a_kd, .ref a_hd, .ref a_pl, .ref a_st, .ref a_ho, .ref a_be, .int nc, .int nn, .int dy])), (a_kd, .inl (cI, 7, .inl kd)), (a_hd, .inl (cI, 7, .inl hd)), (a_pl, .inl (cI, 7, .inl pl)), (a_st, .inl (cI, 7, .inl st)), (a_be, .inl (cI, 42, .inl be)), (a_ho, .inl (cI, 6, .inl ho))]) (As := [.int x3, .int r_9]) (n := 2) ⟨hx, hb, hml, hown, hts⟩ hK hP hD hS hA (c_X3_agrees l D cI cC cQ h3 a_sw a_sn sw sn su x3 r_9 _ h) gX3_wouldBeSo_X3_agrees rfl rfl ⟨rfl, rfl⟩ yoX3_agrees ⟨Nat.le_of_ble_eq_true rfl, Nat.le_of_ble_eq_true rfl⟩ (q0 := 0) (ci := 3) rfl rfl rfl rfl hl.1 rfl (Nat.le_of_ble_eq_true rfl) dX3_wouldBeSo_18 ⟨Nat.zero_le _, Nat.zero_le _⟩ [0, 1, 2] [3, 4, 5, 6, 7, 8, 9] rfl (by decide) rfl (by decide) (by decide) (fun r_10 u H locs h hP hD hS => ?_)
        have hP : va_P D vwCl [(h0, .inr (0, [.ref a_kd, .ref a_hd, .ref a_pl, .ref a_st, .ref a_ho, .ref a_be, .int nc, .int nn, .int dy])), (a_kd, .inl (cI, 7, .inl kd)), (a_hd, .inl (cI, 7, .inl hd)), (a_pl, .inl (cI, 7, .inl pl)), (a_st, .inl (cI, 7, .inl st)), (a_be, .inl (cI, 42, .inl be)), (a_ho, .inl (cI, 6, .inl ho)), (h3, .inr (3, [.ref a_sw, .ref a_sn, .int su])), (a_sw, .inl (cI, 6, .inl sw)), (a_sn, .inl (cI, 6, .inl sn))] H := hP
        have hD : va_D A [(h0, .inr (0, [.ref a_kd, .ref a_hd, .ref a_pl, .ref a_st, .ref a_ho, .ref a_be, .int nc, .int nn, .int dy])), (a_kd, .inl (cI, 7, .inl kd)), (a_hd, .inl (cI, 7, .inl hd)), (a_pl, .inl (cI, 7, .inl pl)), (a_st, .inl (cI, 7, .inl st)), (a_be, .inl (cI, 42, .inl be)), (a_ho, .inl (cI, 6, .inl ho)), (h3, .inr (3, [.ref a_sw, .ref a_sn, .int su])), (a_sw, .inl (cI, 6, .inl sw)), (a_sn, .inl (cI, 6, .inl sn))] := hD
        obtain ⟨b_11, h⟩ := h
        refine lv_if_ne (tgt := 26) hx hb dX3_wouldBeSo_21 (by decide) (fun c_12 => ?_) (fun c_12 => ?_)
        · have h := h.2 c_12
          refine lv_aload_n hx hb dX3_wouldBeSo_26 rfl (lv_at hl 1 rfl) ?_
          refine lv_iload_n hx hb dX3_wouldBeSo_27 rfl (lv_at hl 2 rfl) ?_
          refine lv_iconst (v := 1) hx hb dX3_wouldBeSo_28 (by decide) ?_
          refine kV_v (wr := [(h3, .inr (3, [.ref a_sw, .ref a_sn, .int su])), (a_sw, .inl (cI, 6, .inl sw)), (a_sn, .inl (cI, 6, .inl sn))]) (As := [.int x2, .int (1 : Int32)]) (n := 2) ⟨hx, hb, hml, hown, hts⟩ hK hP hD hS hA (c_X0_liveFor l D cI cC cQ h0 a_kd a_hd a_pl a_st a_ho a_be kd hd pl st ho be nc nn dy x2 (1 : Int32) _ h) gX3_wouldBeSo_X0_liveFor rfl rfl ⟨rfl, rfl⟩ yoX0_liveFor ⟨Nat.le_of_ble_eq_true rfl, Nat.le_of_ble_eq_true rfl⟩ (q0 := 0) (ci := 0) rfl rfl rfl rfl hl.1 rfl (Nat.le_of_ble_eq_true rfl) dX3_wouldBeSo_29 ⟨Nat.zero_le _, Nat.zero_le _⟩ [0, 1, 2, 3, 4, 6, 5] [7, 8, 9] rfl (by decide) rfl (by decide) (by decide) (fun u H locs h hP hD hS => ?_)
          obtain ⟨ho_13, be_14⟩ := u
          have hP : va_P D vwCl [(h3, .inr (3, [.ref a_sw, .ref a_sn, .int su])), (a_sw, .inl (cI, 6, .inl sw)), (a_sn, .inl (cI, 6, .inl sn)), (h0, .inr (0, [.ref a_kd, .ref a_hd, .ref a_pl, .ref a_st, .ref a_ho, .ref a_be, .int nc, .int nn, .int dy])), (a_kd, .inl (cI, 7, .inl kd)), (a_hd, .inl (cI, 7, .inl hd)), (a_pl, .inl (cI, 7, .inl pl)), (a_st, .inl (cI, 7, .inl st)), (a_ho, .inl (cI, 6, .inl ho_13)), (a_be, .inl (cI, 42, .inl be_14))] H := hP
          have hD : va_D A [(h3, .inr (3, [.ref a_sw, .ref a_sn, .int su])), (a_sw, .inl (cI, 6, .inl sw)), (a_sn, .inl (cI, 6, .inl sn)), (h0, .inr (0, [.ref a_kd, .ref a_hd, .ref a_pl, .ref a_st, .ref a_ho, .ref a_be, .int nc, .int nn, .int dy])), (a_kd, .inl (cI, 7, .inl kd)), (a_hd, .inl (cI, 7, .inl hd)), (a_pl, .inl (cI, 7, .inl pl)), (a_st, .inl (cI, 7, .inl st)), (a_ho, .inl (cI, 6, .inl ho_13)), (a_be, .inl (cI, 42, .inl be_14))] := hD
          refine lv_iinc (v := (x3 + (1 : Int32))) (lv' := [(3, .int (x3 + (1 : Int32))), (0, .ref h3), (1, .ref h0), (2, .int x2)]) hx hb dX3_wouldBeSo_32 hl (k := 3) rfl rfl (by decide) rfl (fun ls hl => ?_)
          refine lv_goto (tgt := 2) hx hb dX3_wouldBeSo_35 (by decide) ?_
          exact ih h hP hD hS (lv_sub hl [1, 2, 3, 0] rfl)
        · have h := h.1 c_12
          refine lv_iconst (v := 0) hx hb dX3_wouldBeSo_24 (by decide) ?_
          have hP := hP.sub (ws' := [(h3, .inr (3, [.ref a_sw, .ref a_sn, .int su])), (a_sw, .inl (cI, 6, .inl sw)), (a_sn, .inl (cI, 6, .inl sn)), (h0, .inr (0, [.ref a_kd, .ref a_hd, .ref a_pl, .ref a_st, .ref a_ho, .ref a_be, .int nc, .int nn, .int dy])), (a_kd, .inl (cI, 7, .inl kd)), (a_hd, .inl (cI, 7, .inl hd)), (a_pl, .inl (cI, 7, .inl pl)), (a_st, .inl (cI, 7, .inl st)), (a_ho, .inl (cI, 6, .inl ho)), (a_be, .inl (cI, 42, .inl be))]) [7, 8, 9, 0, 1, 2, 3, 4, 6, 5] rfl
          have hD := hD.sub (ws' := [(h3, .inr (3, [.ref a_sw, .ref a_sn, .int su])), (a_sw, .inl (cI, 6, .inl sw)), (a_sn, .inl (cI, 6, .inl sn)), (h0, .inr (0, [.ref a_kd, .ref a_hd, .ref a_pl, .ref a_st, .ref a_ho, .ref a_be, .int nc, .int nn, .int dy])), (a_kd, .inl (cI, 7, .inl kd)), (a_hd, .inl (cI, 7, .inl hd)), (a_pl, .inl (cI, 7, .inl pl)), (a_st, .inl (cI, 7, .inl st)), (a_ho, .inl (cI, 6, .inl ho)), (a_be, .inl (cI, 42, .inl be))]) [7, 8, 9, 0, 1, 2, 3, 4, 6, 5] (by decide) rfl
          exact hret (0 : Int32) (ho, be) _ _ _ ls (by decide) h hP hD hS dX3_wouldBeSo_25
  refine lv_iconst (v := 0) hx hb dX3_wouldBeSo_0 (by decide) ?_
  refine lv_istore_n (lv' := [(3, .int (0 : Int32)), (0, .ref h3), (1, .ref h0), (2, .int x2)]) hx hb dX3_wouldBeSo_1 rfl hl (by decide) rfl (fun ls hl => ?_)
  obtain ⟨n_15, h⟩ := h
  exact L2 n_15 h hP hD hS (lv_sub hl [1, 2, 3, 0] rfl)

/-! DoubtCourt$Offices.mostFrom -/
abbrev rmX1_mostFrom : Room := { frames := 1, cells := 0, slots := 0, locals := 21 }
theorem yoX1_mostFrom : yX1_mostFrom.cls ≠ "java/lang/invoke/MethodHandle" ∧ yX1_mostFrom.cls ≠ "java/lang/invoke/VarHandle" ∧ (parseMethodDescriptor yX1_mostFrom.desc).map (fun d => d.parameters.length) = some 2 := by decide +kernel
set_option maxHeartbeats 4000000 in
set_option maxRecDepth 100000 in
theorem c_X1_mostFrom (l : Launch) (D : va_G) (cI cC cQ : ClassId) (h1 : Nat) (a_om : Nat) (om : Nat → Int32) (x1 : Int32) (x2 : Int32) (Q : Int32 → Prop) (h : wX1_mostFrom x1 x2 om Q) : Ci (S := Unit) l D cI cC cQ yX1_mostFrom wsX1_mostFrom rmX1_mostFrom [.ref h1, .int x1, .int x2] [(h1, .inr (1, [.ref a_om])), (a_om, .inl (cI, 896, .inl om))] (fun _ => [(h1, .inr (1, [.ref a_om])), (a_om, .inl (cI, 896, .inl om))]) (fun r _ => Q r) := by
  refine Ci_mk (cc := cX1_mostFrom) (maxL := 3) (by decide) rfl (Nat.le_of_ble_eq_true rfl) ?_
  intro p e s m args below meth c A Z ls hx hb hml hown hts hK hA hP hD hret hl
  have hS : va_S A s.heap s.heap [] := va_S.rf
  have hin1 : ∀ w ∈ u_ws RX1 TX1 1, w ∈ wsX1_mostFrom := by decide +kernel
  have k_0 := hts (.fieldLink RX1 9 "DoubtCourt$Offices" "most" "[I") (by decide +kernel)
  have k_1 := hts (.initialized RX5) (by decide +kernel)
  have k_2 := hts (.static yX5_of) (by decide +kernel)
  have hl : lv_has ls 3 [(0, .ref h1), (1, .int x1), (2, .int x2)] := hl
  refine lv_aload_n hx hb dX1_mostFrom_0 rfl (lv_at hl 0 rfl) ?_
  refine va_get (D := D) (ci := 1) (v := .ref a_om) (C := RX1) (T := TX1) (N := 1) hx hb hts hin1 hown hK.1 hP 0 rfl rfl 0 (by decide) (k_0) (fun _ h9 => h9) rfl dX1_mostFrom_1 ?_
  refine lv_iload_n hx hb dX1_mostFrom_4 rfl (lv_at hl 1 rfl) ?_
  refine lv_sipush (v := 128) hx hb dX1_mostFrom_5 (by decide) ?_
  refine lv_imul hx hb dX1_mostFrom_8 ?_
  refine lv_iload_n hx hb dX1_mostFrom_9 rfl (lv_at hl 2 rfl) ?_
  refine lv_iadd hx hb dX1_mostFrom_10 ?_
  refine kSN_i (wr := [(h1, .inr (1, [.ref a_om]))]) (As := [.ref a_om, .int ((x1 * (128 : Int32)) + x2)]) (n := 2) ⟨hx, hb, hml, hown, hts⟩ hK hP hD hS hA (c_X5_of l D cI cC cQ a_om om 896 ((x1 * (128 : Int32)) + x2) _ h) gX1_mostFrom_X5_of_n33 (hK.2 _ (List.mem_of_getElem? (i := 10) rfl)) (k_1) (k_2) rfl ⟨rfl, rfl⟩ yoX5_of ⟨Nat.le_of_ble_eq_true rfl, Nat.le_of_ble_eq_true rfl⟩ rfl hl.1 rfl (Nat.le_of_ble_eq_true rfl) dX1_mostFrom_11 ⟨Nat.zero_le _, Nat.zero_le _⟩ [1] [0] rfl (by decide) rfl (by decide) (by decide) (fun r_1 u H locs h hP hD hS => ?_)
  have hP : va_P D vwCl [(h1, .inr (1, [.ref a_om])), (a_om, .inl (cI, 896, .inl om))] H := hP
  have hD : va_D A [(h1, .inr (1, [.ref a_om])), (a_om, .inl (cI, 896, .inl om))] := hD
  exact hret r_1 () _ _ _ ls h hP hD hS dX1_mostFrom_14

/-! DoubtCourt$Offices.takers -/
abbrev rmX1_takers : Room := { frames := 3, cells := 0, slots := 0, locals := 66 }
theorem yoX1_takers : yX1_takers.cls ≠ "java/lang/invoke/MethodHandle" ∧ yX1_takers.cls ≠ "java/lang/invoke/VarHandle" ∧ (parseMethodDescriptor yX1_takers.desc).map (fun d => d.parameters.length) = some 2 := by decide +kernel
set_option maxHeartbeats 4000000 in
set_option maxRecDepth 100000 in
theorem c_X1_takers (l : Launch) (D : va_G) (cI cC cQ : ClassId) (h1 : Nat) (a_om : Nat) (h0 : Nat) (a_kd : Nat) (a_hd : Nat) (a_pl : Nat) (a_st : Nat) (a_ho : Nat) (a_be : Nat) (om : Nat → Int32) (kd : Nat → Int32) (hd : Nat → Int32) (pl : Nat → Int32) (st : Nat → Int32) (ho : Nat → Int32) (be : Nat → Int32) (nc : Int32) (nn : Int32) (dy : Int32) (x2 : Int32) (Q : Int32 → Prop) (h : wX1_takers x2 ho be nc Q) : Ci (S := Unit) l D cI cC cQ yX1_takers wsX1_takers rmX1_takers [.ref h1, .ref h0, .int x2] [(h1, .inr (1, [.ref a_om])), (a_om, .inl (cI, 896, .inl om)), (h0, .inr (0, [.ref a_kd, .ref a_hd, .ref a_pl, .ref a_st, .ref a_ho, .ref a_be, .int nc, .int nn, .int dy])), (a_kd, .inl (cI, 7, .inl kd)), (a_hd, .inl (cI, 7, .inl hd)), (a_pl, .inl (cI, 7, .inl pl)), (a_st, .inl (cI, 7, .inl st)), (a_ho, .inl (cI, 6, .inl ho)), (a_be, .inl (cI, 42, .inl be))] (fun _ => [(h1, .inr (1, [.ref a_om])), (a_om, .inl (cI, 896, .inl om)), (h0, .inr (0, [.ref a_kd, .ref a_hd, .ref a_pl, .ref a_st, .ref a_ho, .ref a_be, .int nc, .int nn, .int dy])), (a_kd, .inl (cI, 7, .inl kd)), (a_hd, .inl (cI, 7, .inl hd)), (a_pl, .inl (cI, 7, .inl pl)), (a_st, .inl (cI, 7, .inl st)), (a_ho, .inl (cI, 6, .inl ho)), (a_be, .inl (cI, 42, .inl be))]) (fun r _ => Q r) := by
  refine Ci_mk (cc := cX1_takers) (maxL := 3) (by decide) rfl (Nat.le_of_ble_eq_true rfl) ?_
  intro p e s m args below meth c A Z ls hx hb hml hown hts hK hA hP hD hret hl
  have hS : va_S A s.heap s.heap [] := va_S.rf
  have hl : lv_has ls 3 [(0, .ref h1), (1, .ref h0), (2, .int x2)] := hl
  refine lv_aload_n hx hb dX1_takers_0 rfl (lv_at hl 1 rfl) ?_
  refine lv_iload_n hx hb dX1_takers_1 rfl (lv_at hl 2 rfl) ?_
  refine kV_i (wr := [(h1, .inr (1, [.ref a_om])), (a_om, .inl (cI, 896, .inl om))]) (As := [.int x2]) (n := 1) ⟨hx, hb, hml, hown, hts⟩ hK hP hD hS hA (c_X0_isKnown l D cI cC cQ h0 a_kd a_hd a_pl a_st a_ho a_be kd hd pl st ho be nc nn dy x2 _ h) gX1_takers_X0_isKnown rfl rfl ⟨rfl, rfl⟩ yoX0_isKnown ⟨Nat.le_of_ble_eq_true rfl, Nat.le_of_ble_eq_true rfl⟩ (q0 := 0) (ci := 0) rfl rfl rfl rfl hl.1 rfl (Nat.le_of_ble_eq_true rfl) dX1_takers_2 ⟨Nat.zero_le _, Nat.zero_le _⟩ [2, 3, 4, 5, 6, 7, 8] [0, 1] rfl (by decide) rfl (by decide) (by decide) (fun r_1 u H locs h hP hD hS => ?_)
  have hP : va_P D vwCl [(h1, .inr (1, [.ref a_om])), (a_om, .inl (cI, 896, .inl om)), (h0, .inr (0, [.ref a_kd, .ref a_hd, .ref a_pl, .ref a_st, .ref a_ho, .ref a_be, .int nc, .int nn, .int dy])), (a_kd, .inl (cI, 7, .inl kd)), (a_hd, .inl (cI, 7, .inl hd)), (a_pl, .inl (cI, 7, .inl pl)), (a_st, .inl (cI, 7, .inl st)), (a_ho, .inl (cI, 6, .inl ho)), (a_be, .inl (cI, 42, .inl be))] H := hP
  have hD : va_D A [(h1, .inr (1, [.ref a_om])), (a_om, .inl (cI, 896, .inl om)), (h0, .inr (0, [.ref a_kd, .ref a_hd, .ref a_pl, .ref a_st, .ref a_ho, .ref a_be, .int nc, .int nn, .int dy])), (a_kd, .inl (cI, 7, .inl kd)), (a_hd, .inl (cI, 7, .inl hd)), (a_pl, .inl (cI, 7, .inl pl)), (a_st, .inl (cI, 7, .inl st)), (a_ho, .inl (cI, 6, .inl ho)), (a_be, .inl (cI, 42, .inl be))] := hD
  obtain ⟨b_2, h⟩ := h
  refine lv_if_eq (tgt := 12) hx hb dX1_takers_5 (by decide) (fun c_3 => ?_) (fun c_3 => ?_)
  · have h := h.1 c_3
    refine lv_aload_n hx hb dX1_takers_12 rfl (lv_at hl 1 rfl) ?_
    refine lv_iload_n hx hb dX1_takers_13 rfl (lv_at hl 2 rfl) ?_
    refine kV_i (wr := [(h1, .inr (1, [.ref a_om])), (a_om, .inl (cI, 896, .inl om))]) (As := [.int x2]) (n := 1) ⟨hx, hb, hml, hown, hts⟩ hK hP hD hS hA (c_X0_doubters l D cI cC cQ h0 a_kd a_hd a_pl a_st a_ho a_be kd hd pl st ho be nc nn dy x2 _ h) gX1_takers_X0_doubters rfl rfl ⟨rfl, rfl⟩ yoX0_doubters ⟨Nat.le_of_ble_eq_true rfl, Nat.le_of_ble_eq_true rfl⟩ (q0 := 0) (ci := 0) rfl rfl rfl rfl hl.1 rfl (Nat.le_of_ble_eq_true rfl) dX1_takers_14 ⟨Nat.zero_le _, Nat.zero_le _⟩ [2, 3, 4, 5, 6, 7, 8] [0, 1] rfl (by decide) rfl (by decide) (by decide) (fun r_4 u H locs h hP hD hS => ?_)
    have hP : va_P D vwCl [(h1, .inr (1, [.ref a_om])), (a_om, .inl (cI, 896, .inl om)), (h0, .inr (0, [.ref a_kd, .ref a_hd, .ref a_pl, .ref a_st, .ref a_ho, .ref a_be, .int nc, .int nn, .int dy])), (a_kd, .inl (cI, 7, .inl kd)), (a_hd, .inl (cI, 7, .inl hd)), (a_pl, .inl (cI, 7, .inl pl)), (a_st, .inl (cI, 7, .inl st)), (a_ho, .inl (cI, 6, .inl ho)), (a_be, .inl (cI, 42, .inl be))] H := hP
    have hD : va_D A [(h1, .inr (1, [.ref a_om])), (a_om, .inl (cI, 896, .inl om)), (h0, .inr (0, [.ref a_kd, .ref a_hd, .ref a_pl, .ref a_st, .ref a_ho, .ref a_be, .int nc, .int nn, .int dy])), (a_kd, .inl (cI, 7, .inl kd)), (a_hd, .inl (cI, 7, .inl hd)), (a_pl, .inl (cI, 7, .inl pl)), (a_st, .inl (cI, 7, .inl st)), (a_ho, .inl (cI, 6, .inl ho)), (a_be, .inl (cI, 42, .inl be))] := hD
    exact hret r_4 () _ _ _ ls h hP hD hS dX1_takers_17
  · have h := h.2 c_3
    refine lv_iconst (v := 0) hx hb dX1_takers_8 (by decide) ?_
    refine lv_goto (tgt := 17) hx hb dX1_takers_9 (by decide) ?_
    exact hret (0 : Int32) () _ _ _ ls h hP hD hS dX1_takers_17

/-! DoubtCourt$Offices.best -/
abbrev rmX1_best : Room := { frames := 2, cells := 0, slots := 0, locals := 43 }
theorem yoX1_best : yX1_best.cls ≠ "java/lang/invoke/MethodHandle" ∧ yX1_best.cls ≠ "java/lang/invoke/VarHandle" ∧ (parseMethodDescriptor yX1_best.desc).map (fun d => d.parameters.length) = some 3 := by decide +kernel
set_option maxHeartbeats 4000000 in
set_option maxRecDepth 100000 in
theorem c_X1_best (l : Launch) (D : va_G) (cI cC cQ : ClassId) (h1 : Nat) (a_om : Nat) (om : Nat → Int32) (x1 : Int32) (x2 : Int32) (x3 : Int32) (Q : Int32 → Prop) (h : wX1_best x1 x2 x3 om Q) : Ci (S := Unit) l D cI cC cQ yX1_best wsX1_best rmX1_best [.ref h1, .int x1, .int x2, .int x3] [(h1, .inr (1, [.ref a_om])), (a_om, .inl (cI, 896, .inl om))] (fun _ => [(h1, .inr (1, [.ref a_om])), (a_om, .inl (cI, 896, .inl om))]) (fun r _ => Q r) := by
  refine Ci_mk (cc := cX1_best) (maxL := 6) (by decide) rfl (Nat.le_of_ble_eq_true rfl) ?_
  intro p e s m args below meth c A Z ls hx hb hml hown hts hK hA hP hD hret hl
  have hS : va_S A s.heap s.heap [] := va_S.rf
  have k_0 := hts (.initialized RX5) (by decide +kernel)
  have k_1 := hts (.static yX5_hasBit) (by decide +kernel)
  have k_2 := hts (.methodLink RX1 56 Lib.Math.max.name) (by decide +kernel)
  have k_3 := hts (.static Lib.Math.max.name) (by decide +kernel)
  have k_4 := hts (.initialized "java/lang/Math") (by decide +kernel)
  have k_5 := hts (.code Lib.Math.max.name Lib.Math.max.code 2 (some .int)) (by decide +kernel)
  have hl : lv_has ls 6 [(0, .ref h1), (1, .int x1), (2, .int x2), (3, .int x3)] := hl
  have L13 : ∀ (n : Nat) {x1 : Int32} {x2 : Int32} {x3 : Int32} {x4 : Int32} {x5 : Int32} {H : Heap} {locs : List Loc} {ls : Array Slot}, wX1_best_L13 x1 x2 x3 om Q n x4 x5 → va_P D vwCl [(h1, .inr (1, [.ref a_om])), (a_om, .inl (cI, 896, .inl om))] H → va_D A [(h1, .inr (1, [.ref a_om])), (a_om, .inl (cI, 896, .inl om))] → va_S A s.heap H locs → lv_has ls 6 [(0, .ref h1), (1, .int x1), (2, .int x2), (3, .int x3), (4, .int x4), (5, .int x5)] → W p l e rmX1_best s m args below meth c H locs 0 0 Z (F0 m 13 ls []) := by
    intro n
    induction n with
    | zero =>
      intro x1 x2 x3 x4 x5 H locs ls h hP hD hS hl
      exact (show False from h).elim
    | succ n ih =>
      intro x1 x2 x3 x4 x5 H locs ls h hP hD hS hl
      refine lv_iload hx hb dX1_best_13 (lv_at hl 5 rfl) ?_
      refine lv_bipush (v := 7) hx hb dX1_best_15 (by decide) ?_
      refine lv_icmp_ge (tgt := 61) hx hb dX1_best_17 (by decide) (fun c_8 => ?_) (fun c_8 => ?_)
      · have h := h.1 c_8
        refine lv_iload hx hb dX1_best_61 (lv_at hl 4 rfl) ?_
        exact hret x4 () _ _ _ ls h hP hD hS dX1_best_63
      · have h := h.2 c_8
        refine lv_iload_n hx hb dX1_best_20 rfl (lv_at hl 3 rfl) ?_
        refine lv_iload_n hx hb dX1_best_21 rfl (lv_at hl 2 rfl) ?_
        refine lv_iconst (v := -1) hx hb dX1_best_22 (by decide) ?_
        refine lv_ixor hx hb dX1_best_23 ?_
        refine lv_iand hx hb dX1_best_24 ?_
        refine lv_iload hx hb dX1_best_25 (lv_at hl 5 rfl) ?_
        refine kSN_i (wr := [(h1, .inr (1, [.ref a_om])), (a_om, .inl (cI, 896, .inl om))]) (As := [.int (x3 &&& (x2 ^^^ (-1 : Int32))), .int x5]) (n := 2) ⟨hx, hb, hml, hown, hts⟩ hK hP hD hS hA (c_X5_hasBit l D cI cC cQ   (x3 &&& (x2 ^^^ (-1 : Int32))) x5 _ h) gX1_best_X5_hasBit_n52 (hK.2 _ (List.mem_of_getElem? (i := 11) rfl)) (k_0) (k_1) rfl ⟨rfl, rfl⟩ yoX5_hasBit ⟨Nat.le_of_ble_eq_true rfl, Nat.le_of_ble_eq_true rfl⟩ rfl hl.1 rfl (Nat.le_of_ble_eq_true rfl) dX1_best_27 ⟨Nat.zero_le _, Nat.zero_le _⟩ [] [0, 1] rfl (by decide) rfl (by decide) (by decide) (fun r_9 u H locs h hP hD hS => ?_)
        have hP : va_P D vwCl [(h1, .inr (1, [.ref a_om])), (a_om, .inl (cI, 896, .inl om))] H := hP
        have hD : va_D A [(h1, .inr (1, [.ref a_om])), (a_om, .inl (cI, 896, .inl om))] := hD
        obtain ⟨b_10, h⟩ := h
        refine lv_if_eq (tgt := 55) hx hb dX1_best_30 (by decide) (fun c_11 => ?_) (fun c_11 => ?_)
        · have h := h.1 c_11
          refine lv_iinc (v := (x5 + (1 : Int32))) (lv' := [(5, .int (x5 + (1 : Int32))), (0, .ref h1), (1, .int x1), (2, .int x2), (3, .int x3), (4, .int x4)]) hx hb dX1_best_55 hl (k := 5) rfl rfl (by decide) rfl (fun ls hl => ?_)
          refine lv_goto (tgt := 13) hx hb dX1_best_58 (by decide) ?_
          exact ih h hP hD hS (lv_sub hl [1, 2, 3, 4, 5, 0] rfl)
        · have h := h.2 c_11
          refine lv_iload hx hb dX1_best_33 (lv_at hl 4 rfl) ?_
          refine lv_iconst (v := 1) hx hb dX1_best_35 (by decide) ?_
          refine lv_aload_n hx hb dX1_best_36 rfl (lv_at hl 0 rfl) ?_
          refine lv_iload_n hx hb dX1_best_37 rfl (lv_at hl 1 rfl) ?_
          refine lv_iconst (v := 1) hx hb dX1_best_38 (by decide) ?_
          refine lv_iadd hx hb dX1_best_39 ?_
          refine lv_iload_n hx hb dX1_best_40 rfl (lv_at hl 2 rfl) ?_
          refine lv_iconst (v := 1) hx hb dX1_best_41 (by decide) ?_
          refine lv_iload hx hb dX1_best_42 (lv_at hl 5 rfl) ?_
          refine lv_ishl hx hb dX1_best_44 ?_
          refine lv_ior hx hb dX1_best_45 ?_
          refine k0V_i (As := [.int (x1 + (1 : Int32)), .int (x2 ||| ((1 : Int32) <<< (x5 &&& 31)))]) (n := 2) ⟨hx, hb, hml, hown, hts⟩ hK hP hD hS hA (c_X1_mostFrom l D cI cC cQ h1 a_om om (x1 + (1 : Int32)) (x2 ||| ((1 : Int32) <<< (x5 &&& 31))) _ h) gX1_best_X1_mostFrom rfl rfl ⟨rfl, rfl⟩ yoX1_mostFrom ⟨Nat.le_of_ble_eq_true rfl, Nat.le_of_ble_eq_true rfl⟩ (q0 := 0) (ci := 1) rfl rfl rfl rfl hl.1 rfl (Nat.le_of_ble_eq_true rfl) dX1_best_46 ⟨Nat.zero_le _, Nat.zero_le _⟩ (fun r_12 u H locs h hP hD hS => ?_)
          refine lv_iadd hx hb dX1_best_49 ?_
          refine va_mmax hx hb (hml.trans hl.1.symm) hown (k_2) (k_3) (k_4) (k_5) (Nat.le_of_ble_eq_true rfl) (Nat.le_of_ble_eq_true rfl) (Nat.zero_le _) (Nat.zero_le _) dX1_best_50 ?_
          refine lv_topi (fun v_13 ev_13 => ?_)
          have h := h v_13 ev_13
          refine lv_istore (lv' := [(4, .int v_13), (0, .ref h1), (1, .int x1), (2, .int x2), (3, .int x3), (5, .int x5)]) hx hb dX1_best_53 hl (by decide) rfl (fun ls hl => ?_)
          refine lv_iinc (v := (x5 + (1 : Int32))) (lv' := [(5, .int (x5 + (1 : Int32))), (4, .int v_13), (0, .ref h1), (1, .int x1), (2, .int x2), (3, .int x3)]) hx hb dX1_best_55 hl (k := 5) rfl rfl (by decide) rfl (fun ls hl => ?_)
          refine lv_goto (tgt := 13) hx hb dX1_best_58 (by decide) ?_
          exact ih h hP hD hS (lv_sub hl [2, 3, 4, 5, 1, 0] rfl)
  refine lv_aload_n hx hb dX1_best_0 rfl (lv_at hl 0 rfl) ?_
  refine lv_iload_n hx hb dX1_best_1 rfl (lv_at hl 1 rfl) ?_
  refine lv_iconst (v := 1) hx hb dX1_best_2 (by decide) ?_
  refine lv_iadd hx hb dX1_best_3 ?_
  refine lv_iload_n hx hb dX1_best_4 rfl (lv_at hl 2 rfl) ?_
  refine k0V_i (As := [.int (x1 + (1 : Int32)), .int x2]) (n := 2) ⟨hx, hb, hml, hown, hts⟩ hK hP hD hS hA (c_X1_mostFrom l D cI cC cQ h1 a_om om (x1 + (1 : Int32)) x2 _ h) gX1_best_X1_mostFrom rfl rfl ⟨rfl, rfl⟩ yoX1_mostFrom ⟨Nat.le_of_ble_eq_true rfl, Nat.le_of_ble_eq_true rfl⟩ (q0 := 0) (ci := 1) rfl rfl rfl rfl hl.1 rfl (Nat.le_of_ble_eq_true rfl) dX1_best_5 ⟨Nat.zero_le _, Nat.zero_le _⟩ (fun r_1 u H locs h hP hD hS => ?_)
  refine lv_istore (lv' := [(4, .int r_1), (0, .ref h1), (1, .int x1), (2, .int x2), (3, .int x3)]) hx hb dX1_best_8 hl (by decide) rfl (fun ls hl => ?_)
  refine lv_iconst (v := 0) hx hb dX1_best_10 (by decide) ?_
  refine lv_istore (lv' := [(5, .int (0 : Int32)), (4, .int r_1), (0, .ref h1), (1, .int x1), (2, .int x2), (3, .int x3)]) hx hb dX1_best_11 hl (by decide) rfl (fun ls hl => ?_)
  obtain ⟨n_14, h⟩ := h
  exact L13 n_14 h hP hD hS (lv_sub hl [2, 3, 4, 5, 1, 0] rfl)

/-! DoubtCourt$Offices.choice -/
abbrev rmX1_choice : Room := { frames := 2, cells := 0, slots := 0, locals := 43 }
theorem yoX1_choice : yX1_choice.cls ≠ "java/lang/invoke/MethodHandle" ∧ yX1_choice.cls ≠ "java/lang/invoke/VarHandle" ∧ (parseMethodDescriptor yX1_choice.desc).map (fun d => d.parameters.length) = some 3 := by decide +kernel
set_option maxHeartbeats 4000000 in
set_option maxRecDepth 100000 in
theorem c_X1_choice (l : Launch) (D : va_G) (cI cC cQ : ClassId) (h1 : Nat) (a_om : Nat) (om : Nat → Int32) (x1 : Int32) (x2 : Int32) (x3 : Int32) (Q : Int32 → Prop) (h : wX1_choice x1 x2 x3 om Q) : Ci (S := Unit) l D cI cC cQ yX1_choice wsX1_choice rmX1_choice [.ref h1, .int x1, .int x2, .int x3] [(h1, .inr (1, [.ref a_om])), (a_om, .inl (cI, 896, .inl om))] (fun _ => [(h1, .inr (1, [.ref a_om])), (a_om, .inl (cI, 896, .inl om))]) (fun r _ => Q r) := by
  refine Ci_mk (cc := cX1_choice) (maxL := 5) (by decide) rfl (Nat.le_of_ble_eq_true rfl) ?_
  intro p e s m args below meth c A Z ls hx hb hml hown hts hK hA hP hD hret hl
  have hS : va_S A s.heap s.heap [] := va_S.rf
  have k_0 := hts (.initialized RX5) (by decide +kernel)
  have k_1 := hts (.static yX5_hasBit) (by decide +kernel)
  have hl : lv_has ls 5 [(0, .ref h1), (1, .int x1), (2, .int x2), (3, .int x3)] := hl
  have L3 : ∀ (n : Nat) {x1 : Int32} {x2 : Int32} {x3 : Int32} {x4 : Int32} {H : Heap} {locs : List Loc} {ls : Array Slot}, wX1_choice_L3 x1 x2 x3 om Q n x4 → va_P D vwCl [(h1, .inr (1, [.ref a_om])), (a_om, .inl (cI, 896, .inl om))] H → va_D A [(h1, .inr (1, [.ref a_om])), (a_om, .inl (cI, 896, .inl om))] → va_S A s.heap H locs → lv_has ls 5 [(0, .ref h1), (1, .int x1), (2, .int x2), (3, .int x3), (4, .int x4)] → W p l e rmX1_choice s m args below meth c H locs 0 0 Z (F0 m 3 ls []) := by
    intro n
    induction n with
    | zero =>
      intro x1 x2 x3 x4 H locs ls h hP hD hS hl
      exact (show False from h).elim
    | succ n ih =>
      intro x1 x2 x3 x4 H locs ls h hP hD hS hl
      refine lv_iload hx hb dX1_choice_3 (lv_at hl 4 rfl) ?_
      refine lv_bipush (v := 7) hx hb dX1_choice_5 (by decide) ?_
      refine lv_icmp_ge (tgt := 56) hx hb dX1_choice_7 (by decide) (fun c_8 => ?_) (fun c_8 => ?_)
      · have h := h.1 c_8
        refine lv_bipush (v := -4) hx hb dX1_choice_56 (by decide) ?_
        exact hret (-4 : Int32) () _ _ _ ls h hP hD hS dX1_choice_58
      · have h := h.2 c_8
        refine lv_iload_n hx hb dX1_choice_10 rfl (lv_at hl 3 rfl) ?_
        refine lv_iload_n hx hb dX1_choice_11 rfl (lv_at hl 2 rfl) ?_
        refine lv_iconst (v := -1) hx hb dX1_choice_12 (by decide) ?_
        refine lv_ixor hx hb dX1_choice_13 ?_
        refine lv_iand hx hb dX1_choice_14 ?_
        refine lv_iload hx hb dX1_choice_15 (lv_at hl 4 rfl) ?_
        refine kSN_i (wr := [(h1, .inr (1, [.ref a_om])), (a_om, .inl (cI, 896, .inl om))]) (As := [.int (x3 &&& (x2 ^^^ (-1 : Int32))), .int x4]) (n := 2) ⟨hx, hb, hml, hown, hts⟩ hK hP hD hS hA (c_X5_hasBit l D cI cC cQ   (x3 &&& (x2 ^^^ (-1 : Int32))) x4 _ h) gX1_choice_X5_hasBit_n52 (hK.2 _ (List.mem_of_getElem? (i := 11) rfl)) (k_0) (k_1) rfl ⟨rfl, rfl⟩ yoX5_hasBit ⟨Nat.le_of_ble_eq_true rfl, Nat.le_of_ble_eq_true rfl⟩ rfl hl.1 rfl (Nat.le_of_ble_eq_true rfl) dX1_choice_17 ⟨Nat.zero_le _, Nat.zero_le _⟩ [] [0, 1] rfl (by decide) rfl (by decide) (by decide) (fun r_9 u H locs h hP hD hS => ?_)
        have hP : va_P D vwCl [(h1, .inr (1, [.ref a_om])), (a_om, .inl (cI, 896, .inl om))] H := hP
        have hD : va_D A [(h1, .inr (1, [.ref a_om])), (a_om, .inl (cI, 896, .inl om))] := hD
        obtain ⟨b_10, h⟩ := h
        refine lv_if_eq (tgt := 50) hx hb dX1_choice_20 (by decide) (fun c_11 => ?_) (fun c_11 => ?_)
        · have h := h.1 c_11
          refine lv_iinc (v := (x4 + (1 : Int32))) (lv' := [(4, .int (x4 + (1 : Int32))), (0, .ref h1), (1, .int x1), (2, .int x2), (3, .int x3)]) hx hb dX1_choice_50 hl (k := 4) rfl rfl (by decide) rfl (fun ls hl => ?_)
          refine lv_goto (tgt := 3) hx hb dX1_choice_53 (by decide) ?_
          exact ih h hP hD hS (lv_sub hl [1, 2, 3, 4, 0] rfl)
        · have h := h.2 c_11
          refine lv_iconst (v := 1) hx hb dX1_choice_23 (by decide) ?_
          refine lv_aload_n hx hb dX1_choice_24 rfl (lv_at hl 0 rfl) ?_
          refine lv_iload_n hx hb dX1_choice_25 rfl (lv_at hl 1 rfl) ?_
          refine lv_iconst (v := 1) hx hb dX1_choice_26 (by decide) ?_
          refine lv_iadd hx hb dX1_choice_27 ?_
          refine lv_iload_n hx hb dX1_choice_28 rfl (lv_at hl 2 rfl) ?_
          refine lv_iconst (v := 1) hx hb dX1_choice_29 (by decide) ?_
          refine lv_iload hx hb dX1_choice_30 (lv_at hl 4 rfl) ?_
          refine lv_ishl hx hb dX1_choice_32 ?_
          refine lv_ior hx hb dX1_choice_33 ?_
          refine k0V_i (As := [.int (x1 + (1 : Int32)), .int (x2 ||| ((1 : Int32) <<< (x4 &&& 31)))]) (n := 2) ⟨hx, hb, hml, hown, hts⟩ hK hP hD hS hA (c_X1_mostFrom l D cI cC cQ h1 a_om om (x1 + (1 : Int32)) (x2 ||| ((1 : Int32) <<< (x4 &&& 31))) _ h) gX1_choice_X1_mostFrom rfl rfl ⟨rfl, rfl⟩ yoX1_mostFrom ⟨Nat.le_of_ble_eq_true rfl, Nat.le_of_ble_eq_true rfl⟩ (q0 := 0) (ci := 1) rfl rfl rfl rfl hl.1 rfl (Nat.le_of_ble_eq_true rfl) dX1_choice_34 ⟨Nat.zero_le _, Nat.zero_le _⟩ (fun r_12 u H locs h hP hD hS => ?_)
          refine lv_iadd hx hb dX1_choice_37 ?_
          refine lv_aload_n hx hb dX1_choice_38 rfl (lv_at hl 0 rfl) ?_
          refine lv_iload_n hx hb dX1_choice_39 rfl (lv_at hl 1 rfl) ?_
          refine lv_iload_n hx hb dX1_choice_40 rfl (lv_at hl 2 rfl) ?_
          refine k0V_i (As := [.int x1, .int x2]) (n := 2) ⟨hx, hb, hml, hown, hts⟩ hK hP hD hS hA (c_X1_mostFrom l D cI cC cQ h1 a_om om x1 x2 _ h) gX1_choice_X1_mostFrom rfl rfl ⟨rfl, rfl⟩ yoX1_mostFrom ⟨Nat.le_of_ble_eq_true rfl, Nat.le_of_ble_eq_true rfl⟩ (q0 := 0) (ci := 1) rfl rfl rfl rfl hl.1 rfl (Nat.le_of_ble_eq_true rfl) dX1_choice_41 ⟨Nat.zero_le _, Nat.zero_le _⟩ (fun r_13 u H locs h hP hD hS => ?_)
          refine lv_icmp_ne (tgt := 50) hx hb dX1_choice_44 (by decide) (fun c_14 => ?_) (fun c_14 => ?_)
          · have h := h.2 c_14
            refine lv_iinc (v := (x4 + (1 : Int32))) (lv' := [(4, .int (x4 + (1 : Int32))), (0, .ref h1), (1, .int x1), (2, .int x2), (3, .int x3)]) hx hb dX1_choice_50 hl (k := 4) rfl rfl (by decide) rfl (fun ls hl => ?_)
            refine lv_goto (tgt := 3) hx hb dX1_choice_53 (by decide) ?_
            exact ih h hP hD hS (lv_sub hl [1, 2, 3, 4, 0] rfl)
          · have h := h.1 c_14
            refine lv_iload hx hb dX1_choice_47 (lv_at hl 4 rfl) ?_
            exact hret x4 () _ _ _ ls h hP hD hS dX1_choice_49
  refine lv_iconst (v := 0) hx hb dX1_choice_0 (by decide) ?_
  refine lv_istore (lv' := [(4, .int (0 : Int32)), (0, .ref h1), (1, .int x1), (2, .int x2), (3, .int x3)]) hx hb dX1_choice_1 hl (by decide) rfl (fun ls hl => ?_)
  obtain ⟨n_15, h⟩ := h
  exact L3 n_15 h hP hD hS (lv_sub hl [1, 2, 3, 4, 0] rfl)

/-! DoubtCourt$Offices.weigh -/
abbrev rmX1_weigh : Room := { frames := 4, cells := 0, slots := 0, locals := 88 }
theorem yoX1_weigh : yX1_weigh.cls ≠ "java/lang/invoke/MethodHandle" ∧ yX1_weigh.cls ≠ "java/lang/invoke/VarHandle" ∧ (parseMethodDescriptor yX1_weigh.desc).map (fun d => d.parameters.length) = some 1 := by decide +kernel
set_option maxHeartbeats 4000000 in
set_option maxRecDepth 100000 in
theorem c_X1_weigh (l : Launch) (D : va_G) (cI cC cQ : ClassId) (h1 : Nat) (a_om : Nat) (h0 : Nat) (a_kd : Nat) (a_hd : Nat) (a_pl : Nat) (a_st : Nat) (a_ho : Nat) (a_be : Nat) (om : Nat → Int32) (kd : Nat → Int32) (hd : Nat → Int32) (pl : Nat → Int32) (st : Nat → Int32) (ho : Nat → Int32) (be : Nat → Int32) (nc : Int32) (nn : Int32) (dy : Int32) (Q : (Nat → Int32) → Prop) (h : wX1_weigh om ho be nc nn Q) : Cv (S := (Nat → Int32)) l D cI cC cQ yX1_weigh wsX1_weigh rmX1_weigh [.ref h1, .ref h0] [(h1, .inr (1, [.ref a_om])), (a_om, .inl (cI, 896, .inl om)), (h0, .inr (0, [.ref a_kd, .ref a_hd, .ref a_pl, .ref a_st, .ref a_ho, .ref a_be, .int nc, .int nn, .int dy])), (a_kd, .inl (cI, 7, .inl kd)), (a_hd, .inl (cI, 7, .inl hd)), (a_pl, .inl (cI, 7, .inl pl)), (a_st, .inl (cI, 7, .inl st)), (a_ho, .inl (cI, 6, .inl ho)), (a_be, .inl (cI, 42, .inl be))] (fun u => [(h1, .inr (1, [.ref a_om])), (a_om, .inl (cI, 896, .inl u)), (h0, .inr (0, [.ref a_kd, .ref a_hd, .ref a_pl, .ref a_st, .ref a_ho, .ref a_be, .int nc, .int nn, .int dy])), (a_kd, .inl (cI, 7, .inl kd)), (a_hd, .inl (cI, 7, .inl hd)), (a_pl, .inl (cI, 7, .inl pl)), (a_st, .inl (cI, 7, .inl st)), (a_ho, .inl (cI, 6, .inl ho)), (a_be, .inl (cI, 42, .inl be))]) (fun u => Q u) := by
  refine Cv_mk (cc := cX1_weigh) (maxL := 5) (by decide) rfl (Nat.le_of_ble_eq_true rfl) ?_
  intro p e s m args below meth c A Z ls hx hb hml hown hts hK hA hP hD hret hl
  have hS : va_S A s.heap s.heap [] := va_S.rf
  have hin0 : ∀ w ∈ u_ws RX0 TX0 9, w ∈ wsX1_weigh := by decide +kernel
  have hin1 : ∀ w ∈ u_ws RX1 TX1 1, w ∈ wsX1_weigh := by decide +kernel
  have k_0 := hts (.fieldLink RX1 9 "DoubtCourt$Offices" "most" "[I") (by decide +kernel)
  have k_1 := hts (.initialized RX5) (by decide +kernel)
  have k_2 := hts (.static yX5_put) (by decide +kernel)
  have hl : lv_has ls 5 [(0, .ref h1), (1, .ref h0)] := hl
  have L2 : ∀ {K33 : (Nat → Int32) → Prop} (n : Nat) {x2 : Int32} {om : Nat → Int32} {H : Heap} {locs : List Loc} {ls : Array Slot}, wX1_weigh_L2 nn K33 n x2 om → va_P D vwCl [(h1, .inr (1, [.ref a_om])), (a_om, .inl (cI, 896, .inl om)), (h0, .inr (0, [.ref a_kd, .ref a_hd, .ref a_pl, .ref a_st, .ref a_ho, .ref a_be, .int nc, .int nn, .int dy])), (a_kd, .inl (cI, 7, .inl kd)), (a_hd, .inl (cI, 7, .inl hd)), (a_pl, .inl (cI, 7, .inl pl)), (a_st, .inl (cI, 7, .inl st)), (a_ho, .inl (cI, 6, .inl ho)), (a_be, .inl (cI, 42, .inl be))] H → va_D A [(h1, .inr (1, [.ref a_om])), (a_om, .inl (cI, 896, .inl om)), (h0, .inr (0, [.ref a_kd, .ref a_hd, .ref a_pl, .ref a_st, .ref a_ho, .ref a_be, .int nc, .int nn, .int dy])), (a_kd, .inl (cI, 7, .inl kd)), (a_hd, .inl (cI, 7, .inl hd)), (a_pl, .inl (cI, 7, .inl pl)), (a_st, .inl (cI, 7, .inl st)), (a_ho, .inl (cI, 6, .inl ho)), (a_be, .inl (cI, 42, .inl be))] → va_S A s.heap H locs → lv_has ls 5 [(0, .ref h1), (1, .ref h0), (2, .int x2)] → (∀ (om : Nat → Int32) (H : Heap) (locs : List Loc) (ls : Array Slot), K33 om → va_P D vwCl [(h1, .inr (1, [.ref a_om])), (a_om, .inl (cI, 896, .inl om)), (h0, .inr (0, [.ref a_kd, .ref a_hd, .ref a_pl, .ref a_st, .ref a_ho, .ref a_be, .int nc, .int nn, .int dy])), (a_kd, .inl (cI, 7, .inl kd)), (a_hd, .inl (cI, 7, .inl hd)), (a_pl, .inl (cI, 7, .inl pl)), (a_st, .inl (cI, 7, .inl st)), (a_ho, .inl (cI, 6, .inl ho)), (a_be, .inl (cI, 42, .inl be))] H → va_D A [(h1, .inr (1, [.ref a_om])), (a_om, .inl (cI, 896, .inl om)), (h0, .inr (0, [.ref a_kd, .ref a_hd, .ref a_pl, .ref a_st, .ref a_ho, .ref a_be, .int nc, .int nn, .int dy])), (a_kd, .inl (cI, 7, .inl kd)), (a_hd, .inl (cI, 7, .inl hd)), (a_pl, .inl (cI, 7, .inl pl)), (a_st, .inl (cI, 7, .inl st)), (a_ho, .inl (cI, 6, .inl ho)), (a_be, .inl (cI, 42, .inl be))] → va_S A s.heap H locs → lv_has ls 5 [(0, .ref h1), (1, .ref h0)] → W p l e rmX1_weigh s m args below meth c H locs 0 0 Z (F0 m 33 ls [])) → W p l e rmX1_weigh s m args below meth c H locs 0 0 Z (F0 m 2 ls []) := by
    intro K33
    intro n
    induction n with
    | zero =>
      intro x2 om H locs ls h hP hD hS hl hk33
      exact (show False from h).elim
    | succ n ih =>
      intro x2 om H locs ls h hP hD hS hl hk33
      refine lv_iload_n hx hb dX1_weigh_2 rfl (lv_at hl 2 rfl) ?_
      refine lv_sipush (v := 128) hx hb dX1_weigh_3 (by decide) ?_
      refine lv_icmp_ge (tgt := 33) hx hb dX1_weigh_6 (by decide) (fun c_3 => ?_) (fun c_3 => ?_)
      · have h := h.1 c_3
        exact hk33 om _ _ _ h hP hD hS (lv_sub hl [0, 1] rfl)
      · have h := h.2 c_3
        refine lv_aload_n hx hb dX1_weigh_9 rfl (lv_at hl 0 rfl) ?_
        refine va_get (D := D) (ci := 1) (v := .ref a_om) (C := RX1) (T := TX1) (N := 1) hx hb hts hin1 hown hK.1 hP 0 rfl rfl 0 (by decide) (k_0) (fun _ h9 => h9) rfl dX1_weigh_10 ?_
        refine lv_aload_n hx hb dX1_weigh_13 rfl (lv_at hl 1 rfl) ?_
        refine va_getN (D := D) (ci := 0) (v := .int nn) (C := RX0) (T := TX0) (N := 9) hx hb hts hin0 hown hK.1 hP 2 rfl rfl 7 (by decide) (va_Nw.use rfl (hK.2 _ (List.mem_of_getElem? (i := 26) rfl))) (fun _ h9 => h9) rfl dX1_weigh_14 ?_
        refine lv_sipush (v := 128) hx hb dX1_weigh_17 (by decide) ?_
        refine lv_imul hx hb dX1_weigh_20 ?_
        refine lv_iload_n hx hb dX1_weigh_21 rfl (lv_at hl 2 rfl) ?_
        refine lv_iadd hx hb dX1_weigh_22 ?_
        refine lv_iconst (v := 0) hx hb dX1_weigh_23 (by decide) ?_
        refine kSN_v (wr := [(h1, .inr (1, [.ref a_om])), (h0, .inr (0, [.ref a_kd, .ref a_hd, .ref a_pl, .ref a_st, .ref a_ho, .ref a_be, .int nc, .int nn, .int dy])), (a_kd, .inl (cI, 7, .inl kd)), (a_hd, .inl (cI, 7, .inl hd)), (a_pl, .inl (cI, 7, .inl pl)), (a_st, .inl (cI, 7, .inl st)), (a_ho, .inl (cI, 6, .inl ho)), (a_be, .inl (cI, 42, .inl be))]) (As := [.ref a_om, .int ((nn * (128 : Int32)) + x2), .int (0 : Int32)]) (n := 3) ⟨hx, hb, hml, hown, hts⟩ hK hP hD hS hA (c_X5_put l D cI cC cQ a_om om 896 ((nn * (128 : Int32)) + x2) (0 : Int32) _ h) gX1_weigh_X5_put_n21 (hK.2 _ (List.mem_of_getElem? (i := 9) rfl)) (k_1) (k_2) rfl ⟨rfl, rfl⟩ yoX5_put ⟨Nat.le_of_ble_eq_true rfl, Nat.le_of_ble_eq_true rfl⟩ rfl hl.1 rfl (Nat.le_of_ble_eq_true rfl) dX1_weigh_24 ⟨Nat.zero_le _, Nat.zero_le _⟩ [1] [0, 2, 3, 4, 5, 6, 7, 8] rfl (by decide) rfl (by decide) (by decide) (fun om_4 H locs h hP hD hS => ?_)
        have hP : va_P D vwCl [(h1, .inr (1, [.ref a_om])), (h0, .inr (0, [.ref a_kd, .ref a_hd, .ref a_pl, .ref a_st, .ref a_ho, .ref a_be, .int nc, .int nn, .int dy])), (a_kd, .inl (cI, 7, .inl kd)), (a_hd, .inl (cI, 7, .inl hd)), (a_pl, .inl (cI, 7, .inl pl)), (a_st, .inl (cI, 7, .inl st)), (a_ho, .inl (cI, 6, .inl ho)), (a_be, .inl (cI, 42, .inl be)), (a_om, .inl (cI, 896, .inl om_4))] H := hP
        have hD : va_D A [(h1, .inr (1, [.ref a_om])), (h0, .inr (0, [.ref a_kd, .ref a_hd, .ref a_pl, .ref a_st, .ref a_ho, .ref a_be, .int nc, .int nn, .int dy])), (a_kd, .inl (cI, 7, .inl kd)), (a_hd, .inl (cI, 7, .inl hd)), (a_pl, .inl (cI, 7, .inl pl)), (a_st, .inl (cI, 7, .inl st)), (a_ho, .inl (cI, 6, .inl ho)), (a_be, .inl (cI, 42, .inl be)), (a_om, .inl (cI, 896, .inl om_4))] := hD
        refine lv_iinc (v := (x2 + (1 : Int32))) (lv' := [(2, .int (x2 + (1 : Int32))), (0, .ref h1), (1, .ref h0)]) hx hb dX1_weigh_27 hl (k := 2) rfl rfl (by decide) rfl (fun ls hl => ?_)
        refine lv_goto (tgt := 2) hx hb dX1_weigh_30 (by decide) ?_
        have hP := hP.sub (ws' := [(h1, .inr (1, [.ref a_om])), (a_om, .inl (cI, 896, .inl om_4)), (h0, .inr (0, [.ref a_kd, .ref a_hd, .ref a_pl, .ref a_st, .ref a_ho, .ref a_be, .int nc, .int nn, .int dy])), (a_kd, .inl (cI, 7, .inl kd)), (a_hd, .inl (cI, 7, .inl hd)), (a_pl, .inl (cI, 7, .inl pl)), (a_st, .inl (cI, 7, .inl st)), (a_ho, .inl (cI, 6, .inl ho)), (a_be, .inl (cI, 42, .inl be))]) [0, 8, 1, 2, 3, 4, 5, 6, 7] rfl
        have hD := hD.sub (ws' := [(h1, .inr (1, [.ref a_om])), (a_om, .inl (cI, 896, .inl om_4)), (h0, .inr (0, [.ref a_kd, .ref a_hd, .ref a_pl, .ref a_st, .ref a_ho, .ref a_be, .int nc, .int nn, .int dy])), (a_kd, .inl (cI, 7, .inl kd)), (a_hd, .inl (cI, 7, .inl hd)), (a_pl, .inl (cI, 7, .inl pl)), (a_st, .inl (cI, 7, .inl st)), (a_ho, .inl (cI, 6, .inl ho)), (a_be, .inl (cI, 42, .inl be))]) [0, 8, 1, 2, 3, 4, 5, 6, 7] (by decide) rfl
        exact ih h hP hD hS (lv_sub hl [1, 2, 0] rfl) hk33
  have L54 : ∀ {K40 : Int32 → (Nat → Int32) → Prop} (n : Nat) {x2 : Int32} {x3 : Int32} {x4 : Int32} {om : Nat → Int32} {H : Heap} {locs : List Loc} {ls : Array Slot}, wX1_weigh_L54 x2 x3 K40 n x4 om → va_P D vwCl [(h1, .inr (1, [.ref a_om])), (a_om, .inl (cI, 896, .inl om)), (h0, .inr (0, [.ref a_kd, .ref a_hd, .ref a_pl, .ref a_st, .ref a_ho, .ref a_be, .int nc, .int nn, .int dy])), (a_kd, .inl (cI, 7, .inl kd)), (a_hd, .inl (cI, 7, .inl hd)), (a_pl, .inl (cI, 7, .inl pl)), (a_st, .inl (cI, 7, .inl st)), (a_ho, .inl (cI, 6, .inl ho)), (a_be, .inl (cI, 42, .inl be))] H → va_D A [(h1, .inr (1, [.ref a_om])), (a_om, .inl (cI, 896, .inl om)), (h0, .inr (0, [.ref a_kd, .ref a_hd, .ref a_pl, .ref a_st, .ref a_ho, .ref a_be, .int nc, .int nn, .int dy])), (a_kd, .inl (cI, 7, .inl kd)), (a_hd, .inl (cI, 7, .inl hd)), (a_pl, .inl (cI, 7, .inl pl)), (a_st, .inl (cI, 7, .inl st)), (a_ho, .inl (cI, 6, .inl ho)), (a_be, .inl (cI, 42, .inl be))] → va_S A s.heap H locs → lv_has ls 5 [(0, .ref h1), (1, .ref h0), (2, .int x2), (3, .int x3), (4, .int x4)] → (∀ (x2 : Int32) (om : Nat → Int32) (H : Heap) (locs : List Loc) (ls : Array Slot), K40 x2 om → va_P D vwCl [(h1, .inr (1, [.ref a_om])), (a_om, .inl (cI, 896, .inl om)), (h0, .inr (0, [.ref a_kd, .ref a_hd, .ref a_pl, .ref a_st, .ref a_ho, .ref a_be, .int nc, .int nn, .int dy])), (a_kd, .inl (cI, 7, .inl kd)), (a_hd, .inl (cI, 7, .inl hd)), (a_pl, .inl (cI, 7, .inl pl)), (a_st, .inl (cI, 7, .inl st)), (a_ho, .inl (cI, 6, .inl ho)), (a_be, .inl (cI, 42, .inl be))] H → va_D A [(h1, .inr (1, [.ref a_om])), (a_om, .inl (cI, 896, .inl om)), (h0, .inr (0, [.ref a_kd, .ref a_hd, .ref a_pl, .ref a_st, .ref a_ho, .ref a_be, .int nc, .int nn, .int dy])), (a_kd, .inl (cI, 7, .inl kd)), (a_hd, .inl (cI, 7, .inl hd)), (a_pl, .inl (cI, 7, .inl pl)), (a_st, .inl (cI, 7, .inl st)), (a_ho, .inl (cI, 6, .inl ho)), (a_be, .inl (cI, 42, .inl be))] → va_S A s.heap H locs → lv_has ls 5 [(0, .ref h1), (1, .ref h0), (2, .int x2)] → W p l e rmX1_weigh s m args below meth c H locs 0 0 Z (F0 m 40 ls [])) → W p l e rmX1_weigh s m args below meth c H locs 0 0 Z (F0 m 54 ls []) := by
    intro K40
    intro n
    induction n with
    | zero =>
      intro x2 x3 x4 om H locs ls h hP hD hS hl hk40
      exact (show False from h).elim
    | succ n ih =>
      intro x2 x3 x4 om H locs ls h hP hD hS hl hk40
      refine lv_iload hx hb dX1_weigh_54 (lv_at hl 4 rfl) ?_
      refine lv_sipush (v := 128) hx hb dX1_weigh_56 (by decide) ?_
      refine lv_icmp_ge (tgt := 91) hx hb dX1_weigh_59 (by decide) (fun c_23 => ?_) (fun c_23 => ?_)
      · have h := h.1 c_23
        refine lv_iinc (v := (x2 + (-1 : Int32))) (lv' := [(2, .int (x2 + (-1 : Int32))), (0, .ref h1), (1, .ref h0), (3, .int x3), (4, .int x4)]) hx hb dX1_weigh_91 hl (k := 2) rfl rfl (by decide) rfl (fun ls hl => ?_)
        refine lv_goto (tgt := 40) hx hb dX1_weigh_94 (by decide) ?_
        exact hk40 (x2 + (-1 : Int32)) om _ _ _ h hP hD hS (lv_sub hl [1, 2, 0] rfl)
      · have h := h.2 c_23
        refine lv_aload_n hx hb dX1_weigh_62 rfl (lv_at hl 0 rfl) ?_
        refine va_get (D := D) (ci := 1) (v := .ref a_om) (C := RX1) (T := TX1) (N := 1) hx hb hts hin1 hown hK.1 hP 0 rfl rfl 0 (by decide) (k_0) (fun _ h9 => h9) rfl dX1_weigh_63 ?_
        refine lv_iload_n hx hb dX1_weigh_66 rfl (lv_at hl 2 rfl) ?_
        refine lv_sipush (v := 128) hx hb dX1_weigh_67 (by decide) ?_
        refine lv_imul hx hb dX1_weigh_70 ?_
        refine lv_iload hx hb dX1_weigh_71 (lv_at hl 4 rfl) ?_
        refine lv_iadd hx hb dX1_weigh_73 ?_
        refine lv_aload_n hx hb dX1_weigh_74 rfl (lv_at hl 0 rfl) ?_
        refine lv_iload_n hx hb dX1_weigh_75 rfl (lv_at hl 2 rfl) ?_
        refine lv_iload hx hb dX1_weigh_76 (lv_at hl 4 rfl) ?_
        refine lv_iload_n hx hb dX1_weigh_78 rfl (lv_at hl 3 rfl) ?_
        refine kV_i (wr := [(h0, .inr (0, [.ref a_kd, .ref a_hd, .ref a_pl, .ref a_st, .ref a_ho, .ref a_be, .int nc, .int nn, .int dy])), (a_kd, .inl (cI, 7, .inl kd)), (a_hd, .inl (cI, 7, .inl hd)), (a_pl, .inl (cI, 7, .inl pl)), (a_st, .inl (cI, 7, .inl st)), (a_ho, .inl (cI, 6, .inl ho)), (a_be, .inl (cI, 42, .inl be))]) (As := [.int x2, .int x4, .int x3]) (n := 3) ⟨hx, hb, hml, hown, hts⟩ hK hP hD hS hA (c_X1_best l D cI cC cQ h1 a_om om x2 x4 x3 _ h) gX1_weigh_X1_best rfl rfl ⟨rfl, rfl⟩ yoX1_best ⟨Nat.le_of_ble_eq_true rfl, Nat.le_of_ble_eq_true rfl⟩ (q0 := 0) (ci := 1) rfl rfl rfl rfl hl.1 rfl (Nat.le_of_ble_eq_true rfl) dX1_weigh_79 ⟨Nat.zero_le _, Nat.zero_le _⟩ [0, 1] [2, 3, 4, 5, 6, 7, 8] rfl (by decide) rfl (by decide) (by decide) (fun r_24 u H locs h hP hD hS => ?_)
        have hP : va_P D vwCl [(h0, .inr (0, [.ref a_kd, .ref a_hd, .ref a_pl, .ref a_st, .ref a_ho, .ref a_be, .int nc, .int nn, .int dy])), (a_kd, .inl (cI, 7, .inl kd)), (a_hd, .inl (cI, 7, .inl hd)), (a_pl, .inl (cI, 7, .inl pl)), (a_st, .inl (cI, 7, .inl st)), (a_ho, .inl (cI, 6, .inl ho)), (a_be, .inl (cI, 42, .inl be)), (h1, .inr (1, [.ref a_om])), (a_om, .inl (cI, 896, .inl om))] H := hP
        have hD : va_D A [(h0, .inr (0, [.ref a_kd, .ref a_hd, .ref a_pl, .ref a_st, .ref a_ho, .ref a_be, .int nc, .int nn, .int dy])), (a_kd, .inl (cI, 7, .inl kd)), (a_hd, .inl (cI, 7, .inl hd)), (a_pl, .inl (cI, 7, .inl pl)), (a_st, .inl (cI, 7, .inl st)), (a_ho, .inl (cI, 6, .inl ho)), (a_be, .inl (cI, 42, .inl be)), (h1, .inr (1, [.ref a_om])), (a_om, .inl (cI, 896, .inl om))] := hD
        refine kSN_v (wr := [(h0, .inr (0, [.ref a_kd, .ref a_hd, .ref a_pl, .ref a_st, .ref a_ho, .ref a_be, .int nc, .int nn, .int dy])), (a_kd, .inl (cI, 7, .inl kd)), (a_hd, .inl (cI, 7, .inl hd)), (a_pl, .inl (cI, 7, .inl pl)), (a_st, .inl (cI, 7, .inl st)), (a_ho, .inl (cI, 6, .inl ho)), (a_be, .inl (cI, 42, .inl be)), (h1, .inr (1, [.ref a_om]))]) (As := [.ref a_om, .int ((x2 * (128 : Int32)) + x4), .int r_24]) (n := 3) ⟨hx, hb, hml, hown, hts⟩ hK hP hD hS hA (c_X5_put l D cI cC cQ a_om om 896 ((x2 * (128 : Int32)) + x4) r_24 _ h) gX1_weigh_X5_put_n21 (hK.2 _ (List.mem_of_getElem? (i := 9) rfl)) (k_1) (k_2) rfl ⟨rfl, rfl⟩ yoX5_put ⟨Nat.le_of_ble_eq_true rfl, Nat.le_of_ble_eq_true rfl⟩ rfl hl.1 rfl (Nat.le_of_ble_eq_true rfl) dX1_weigh_82 ⟨Nat.zero_le _, Nat.zero_le _⟩ [8] [0, 1, 2, 3, 4, 5, 6, 7] rfl (by decide) rfl (by decide) (by decide) (fun om_25 H locs h hP hD hS => ?_)
        have hP : va_P D vwCl [(h0, .inr (0, [.ref a_kd, .ref a_hd, .ref a_pl, .ref a_st, .ref a_ho, .ref a_be, .int nc, .int nn, .int dy])), (a_kd, .inl (cI, 7, .inl kd)), (a_hd, .inl (cI, 7, .inl hd)), (a_pl, .inl (cI, 7, .inl pl)), (a_st, .inl (cI, 7, .inl st)), (a_ho, .inl (cI, 6, .inl ho)), (a_be, .inl (cI, 42, .inl be)), (h1, .inr (1, [.ref a_om])), (a_om, .inl (cI, 896, .inl om_25))] H := hP
        have hD : va_D A [(h0, .inr (0, [.ref a_kd, .ref a_hd, .ref a_pl, .ref a_st, .ref a_ho, .ref a_be, .int nc, .int nn, .int dy])), (a_kd, .inl (cI, 7, .inl kd)), (a_hd, .inl (cI, 7, .inl hd)), (a_pl, .inl (cI, 7, .inl pl)), (a_st, .inl (cI, 7, .inl st)), (a_ho, .inl (cI, 6, .inl ho)), (a_be, .inl (cI, 42, .inl be)), (h1, .inr (1, [.ref a_om])), (a_om, .inl (cI, 896, .inl om_25))] := hD
        refine lv_iinc (v := (x4 + (1 : Int32))) (lv' := [(4, .int (x4 + (1 : Int32))), (0, .ref h1), (1, .ref h0), (2, .int x2), (3, .int x3)]) hx hb dX1_weigh_85 hl (k := 4) rfl rfl (by decide) rfl (fun ls hl => ?_)
        refine lv_goto (tgt := 54) hx hb dX1_weigh_88 (by decide) ?_
        have hP := hP.sub (ws' := [(h1, .inr (1, [.ref a_om])), (a_om, .inl (cI, 896, .inl om_25)), (h0, .inr (0, [.ref a_kd, .ref a_hd, .ref a_pl, .ref a_st, .ref a_ho, .ref a_be, .int nc, .int nn, .int dy])), (a_kd, .inl (cI, 7, .inl kd)), (a_hd, .inl (cI, 7, .inl hd)), (a_pl, .inl (cI, 7, .inl pl)), (a_st, .inl (cI, 7, .inl st)), (a_ho, .inl (cI, 6, .inl ho)), (a_be, .inl (cI, 42, .inl be))]) [7, 8, 0, 1, 2, 3, 4, 5, 6] rfl
        have hD := hD.sub (ws' := [(h1, .inr (1, [.ref a_om])), (a_om, .inl (cI, 896, .inl om_25)), (h0, .inr (0, [.ref a_kd, .ref a_hd, .ref a_pl, .ref a_st, .ref a_ho, .ref a_be, .int nc, .int nn, .int dy])), (a_kd, .inl (cI, 7, .inl kd)), (a_hd, .inl (cI, 7, .inl hd)), (a_pl, .inl (cI, 7, .inl pl)), (a_st, .inl (cI, 7, .inl st)), (a_ho, .inl (cI, 6, .inl ho)), (a_be, .inl (cI, 42, .inl be))]) [7, 8, 0, 1, 2, 3, 4, 5, 6] (by decide) rfl
        exact ih h hP hD hS (lv_sub hl [1, 2, 3, 4, 0] rfl) hk40
  have L40 : ∀ (n : Nat) {x2 : Int32} {om : Nat → Int32} {H : Heap} {locs : List Loc} {ls : Array Slot}, wX1_weigh_L40 ho be nc Q n x2 om → va_P D vwCl [(h1, .inr (1, [.ref a_om])), (a_om, .inl (cI, 896, .inl om)), (h0, .inr (0, [.ref a_kd, .ref a_hd, .ref a_pl, .ref a_st, .ref a_ho, .ref a_be, .int nc, .int nn, .int dy])), (a_kd, .inl (cI, 7, .inl kd)), (a_hd, .inl (cI, 7, .inl hd)), (a_pl, .inl (cI, 7, .inl pl)), (a_st, .inl (cI, 7, .inl st)), (a_ho, .inl (cI, 6, .inl ho)), (a_be, .inl (cI, 42, .inl be))] H → va_D A [(h1, .inr (1, [.ref a_om])), (a_om, .inl (cI, 896, .inl om)), (h0, .inr (0, [.ref a_kd, .ref a_hd, .ref a_pl, .ref a_st, .ref a_ho, .ref a_be, .int nc, .int nn, .int dy])), (a_kd, .inl (cI, 7, .inl kd)), (a_hd, .inl (cI, 7, .inl hd)), (a_pl, .inl (cI, 7, .inl pl)), (a_st, .inl (cI, 7, .inl st)), (a_ho, .inl (cI, 6, .inl ho)), (a_be, .inl (cI, 42, .inl be))] → va_S A s.heap H locs → lv_has ls 5 [(0, .ref h1), (1, .ref h0), (2, .int x2)] → W p l e rmX1_weigh s m args below meth c H locs 0 0 Z (F0 m 40 ls []) := by
    intro n
    induction n with
    | zero =>
      intro x2 om H locs ls h hP hD hS hl
      exact (show False from h).elim
    | succ n ih =>
      intro x2 om H locs ls h hP hD hS hl
      refine lv_iload_n hx hb dX1_weigh_40 rfl (lv_at hl 2 rfl) ?_
      refine lv_if_lt (tgt := 97) hx hb dX1_weigh_41 (by decide) (fun c_18 => ?_) (fun c_18 => ?_)
      · have h := h.1 c_18
        exact hret om _ _ _ ls h hP hD hS dX1_weigh_97
      · have h := h.2 c_18
        refine lv_aload_n hx hb dX1_weigh_44 rfl (lv_at hl 0 rfl) ?_
        refine lv_aload_n hx hb dX1_weigh_45 rfl (lv_at hl 1 rfl) ?_
        refine lv_iload_n hx hb dX1_weigh_46 rfl (lv_at hl 2 rfl) ?_
        refine k0V_i (As := [.ref h0, .int x2]) (n := 2) ⟨hx, hb, hml, hown, hts⟩ hK hP hD hS hA (c_X1_takers l D cI cC cQ h1 a_om h0 a_kd a_hd a_pl a_st a_ho a_be om kd hd pl st ho be nc nn dy x2 _ h) gX1_weigh_X1_takers rfl rfl ⟨rfl, rfl⟩ yoX1_takers ⟨Nat.le_of_ble_eq_true rfl, Nat.le_of_ble_eq_true rfl⟩ (q0 := 0) (ci := 1) rfl rfl rfl rfl hl.1 rfl (Nat.le_of_ble_eq_true rfl) dX1_weigh_47 ⟨Nat.zero_le _, Nat.zero_le _⟩ (fun r_19 u H locs h hP hD hS => ?_)
        refine lv_istore_n (lv' := [(3, .int r_19), (0, .ref h1), (1, .ref h0), (2, .int x2)]) hx hb dX1_weigh_50 rfl hl (by decide) rfl (fun ls hl => ?_)
        refine lv_iconst (v := 0) hx hb dX1_weigh_51 (by decide) ?_
        refine lv_istore (lv' := [(4, .int (0 : Int32)), (3, .int r_19), (0, .ref h1), (1, .ref h0), (2, .int x2)]) hx hb dX1_weigh_52 hl (by decide) rfl (fun ls hl => ?_)
        obtain ⟨n_28, h⟩ := h
        refine L54 n_28 h hP hD hS (lv_sub hl [2, 3, 4, 1, 0] rfl) (fun x2_26 om_27 H locs ls h hP hD hS hl => ?_)
        exact ih h hP hD hS (lv_sub hl [0, 1, 2] rfl)
  refine lv_iconst (v := 0) hx hb dX1_weigh_0 (by decide) ?_
  refine lv_istore_n (lv' := [(2, .int (0 : Int32)), (0, .ref h1), (1, .ref h0)]) hx hb dX1_weigh_1 rfl hl (by decide) rfl (fun ls hl => ?_)
  obtain ⟨n_30, h⟩ := h
  refine L2 n_30 h hP hD hS (lv_sub hl [1, 2, 0] rfl) (fun om_5 H locs ls h hP hD hS hl => ?_)
  refine lv_aload_n hx hb dX1_weigh_33 rfl (lv_at hl 1 rfl) ?_
  refine va_getN (D := D) (ci := 0) (v := .int nn) (C := RX0) (T := TX0) (N := 9) hx hb hts hin0 hown hK.1 hP 2 rfl rfl 7 (by decide) (va_Nw.use rfl (hK.2 _ (List.mem_of_getElem? (i := 26) rfl))) (fun _ h9 => h9) rfl dX1_weigh_34 ?_
  refine lv_iconst (v := 1) hx hb dX1_weigh_37 (by decide) ?_
  refine lv_isub hx hb dX1_weigh_38 ?_
  refine lv_topi (fun v_6 ev_6 => ?_)
  have h := h v_6 ev_6
  refine lv_istore_n (lv' := [(2, .int v_6), (0, .ref h1), (1, .ref h0)]) hx hb dX1_weigh_39 rfl hl (by decide) rfl (fun ls hl => ?_)
  obtain ⟨n_29, h⟩ := h
  exact L40 n_29 h hP hD hS (lv_sub hl [1, 2, 0] rfl)

/-! DoubtCourt$Offices.receiver -/
abbrev rmX1_receiver : Room := { frames := 4, cells := 0, slots := 0, locals := 88 }
theorem yoX1_receiver : yX1_receiver.cls ≠ "java/lang/invoke/MethodHandle" ∧ yX1_receiver.cls ≠ "java/lang/invoke/VarHandle" ∧ (parseMethodDescriptor yX1_receiver.desc).map (fun d => d.parameters.length) = some 2 := by decide +kernel
set_option maxHeartbeats 4000000 in
set_option maxRecDepth 100000 in
theorem c_X1_receiver (l : Launch) (D : va_G) (cI cC cQ : ClassId) (h1 : Nat) (a_om : Nat) (h0 : Nat) (a_kd : Nat) (a_hd : Nat) (a_pl : Nat) (a_st : Nat) (a_ho : Nat) (a_be : Nat) (om : Nat → Int32) (kd : Nat → Int32) (hd : Nat → Int32) (pl : Nat → Int32) (st : Nat → Int32) (ho : Nat → Int32) (be : Nat → Int32) (nc : Int32) (nn : Int32) (dy : Int32) (x2 : Int32) (Q : Int32 → Prop) (h : wX1_receiver x2 om ho be nc nn Q) : Ci (S := Unit) l D cI cC cQ yX1_receiver wsX1_receiver rmX1_receiver [.ref h1, .ref h0, .int x2] [(h1, .inr (1, [.ref a_om])), (a_om, .inl (cI, 896, .inl om)), (h0, .inr (0, [.ref a_kd, .ref a_hd, .ref a_pl, .ref a_st, .ref a_ho, .ref a_be, .int nc, .int nn, .int dy])), (a_kd, .inl (cI, 7, .inl kd)), (a_hd, .inl (cI, 7, .inl hd)), (a_pl, .inl (cI, 7, .inl pl)), (a_st, .inl (cI, 7, .inl st)), (a_ho, .inl (cI, 6, .inl ho)), (a_be, .inl (cI, 42, .inl be))] (fun _ => [(h1, .inr (1, [.ref a_om])), (a_om, .inl (cI, 896, .inl om)), (h0, .inr (0, [.ref a_kd, .ref a_hd, .ref a_pl, .ref a_st, .ref a_ho, .ref a_be, .int nc, .int nn, .int dy])), (a_kd, .inl (cI, 7, .inl kd)), (a_hd, .inl (cI, 7, .inl hd)), (a_pl, .inl (cI, 7, .inl pl)), (a_st, .inl (cI, 7, .inl st)), (a_ho, .inl (cI, 6, .inl ho)), (a_be, .inl (cI, 42, .inl be))]) (fun r _ => Q r) := by
  refine Ci_mk (cc := cX1_receiver) (maxL := 6) (by decide) rfl (Nat.le_of_ble_eq_true rfl) ?_
  intro p e s m args below meth c A Z ls hx hb hml hown hts hK hA hP hD hret hl
  have hS : va_S A s.heap s.heap [] := va_S.rf
  have hin0 : ∀ w ∈ u_ws RX0 TX0 9, w ∈ wsX1_receiver := by decide +kernel
  have hl : lv_has ls 6 [(0, .ref h1), (1, .ref h0), (2, .int x2)] := hl
  have L9 : ∀ (n : Nat) {x2 : Int32} {x3 : Int32} {x4 : Int32} {x5 : Int32} {H : Heap} {locs : List Loc} {ls : Array Slot}, wX1_receiver_L9 x2 om ho be nc nn Q n x3 x4 x5 → va_P D vwCl [(h1, .inr (1, [.ref a_om])), (a_om, .inl (cI, 896, .inl om)), (h0, .inr (0, [.ref a_kd, .ref a_hd, .ref a_pl, .ref a_st, .ref a_ho, .ref a_be, .int nc, .int nn, .int dy])), (a_kd, .inl (cI, 7, .inl kd)), (a_hd, .inl (cI, 7, .inl hd)), (a_pl, .inl (cI, 7, .inl pl)), (a_st, .inl (cI, 7, .inl st)), (a_ho, .inl (cI, 6, .inl ho)), (a_be, .inl (cI, 42, .inl be))] H → va_D A [(h1, .inr (1, [.ref a_om])), (a_om, .inl (cI, 896, .inl om)), (h0, .inr (0, [.ref a_kd, .ref a_hd, .ref a_pl, .ref a_st, .ref a_ho, .ref a_be, .int nc, .int nn, .int dy])), (a_kd, .inl (cI, 7, .inl kd)), (a_hd, .inl (cI, 7, .inl hd)), (a_pl, .inl (cI, 7, .inl pl)), (a_st, .inl (cI, 7, .inl st)), (a_ho, .inl (cI, 6, .inl ho)), (a_be, .inl (cI, 42, .inl be))] → va_S A s.heap H locs → lv_has ls 6 [(0, .ref h1), (1, .ref h0), (2, .int x2), (3, .int x3), (4, .int x4), (5, .int x5)] → W p l e rmX1_receiver s m args below meth c H locs 0 0 Z (F0 m 9 ls []) := by
    intro n
    induction n with
    | zero =>
      intro x2 x3 x4 x5 H locs ls h hP hD hS hl
      exact (show False from h).elim
    | succ n ih =>
      intro x2 x3 x4 x5 H locs ls h hP hD hS hl
      refine lv_iload hx hb dX1_receiver_9 (lv_at hl 5 rfl) ?_
      refine lv_iload_n hx hb dX1_receiver_11 rfl (lv_at hl 2 rfl) ?_
      refine lv_icmp_gt (tgt := 60) hx hb dX1_receiver_12 (by decide) (fun c_7 => ?_) (fun c_7 => ?_)
      · have h := h.1 c_7
        refine lv_iload hx hb dX1_receiver_60 (lv_at hl 4 rfl) ?_
        exact hret x4 () _ _ _ ls h hP hD hS dX1_receiver_62
      · have h := h.2 c_7
        refine lv_iload hx hb dX1_receiver_15 (lv_at hl 5 rfl) ?_
        refine lv_aload_n hx hb dX1_receiver_17 rfl (lv_at hl 1 rfl) ?_
        refine va_getN (D := D) (ci := 0) (v := .int nn) (C := RX0) (T := TX0) (N := 9) hx hb hts hin0 hown hK.1 hP 2 rfl rfl 7 (by decide) (va_Nw.use rfl (hK.2 _ (List.mem_of_getElem? (i := 26) rfl))) (fun _ h9 => h9) rfl dX1_receiver_18 ?_
        refine lv_icmp_ge (tgt := 60) hx hb dX1_receiver_21 (by decide) (fun c_8 => ?_) (fun c_8 => ?_)
        · have h := h.1 c_8
          refine lv_iload hx hb dX1_receiver_60 (lv_at hl 4 rfl) ?_
          exact hret x4 () _ _ _ ls h hP hD hS dX1_receiver_62
        · have h := h.2 c_8
          refine lv_aload_n hx hb dX1_receiver_24 rfl (lv_at hl 0 rfl) ?_
          refine lv_iload hx hb dX1_receiver_25 (lv_at hl 5 rfl) ?_
          refine lv_iload_n hx hb dX1_receiver_27 rfl (lv_at hl 3 rfl) ?_
          refine lv_aload_n hx hb dX1_receiver_28 rfl (lv_at hl 0 rfl) ?_
          refine lv_aload_n hx hb dX1_receiver_29 rfl (lv_at hl 1 rfl) ?_
          refine lv_iload hx hb dX1_receiver_30 (lv_at hl 5 rfl) ?_
          refine k0V_i (As := [.ref h0, .int x5]) (n := 2) ⟨hx, hb, hml, hown, hts⟩ hK hP hD hS hA (c_X1_takers l D cI cC cQ h1 a_om h0 a_kd a_hd a_pl a_st a_ho a_be om kd hd pl st ho be nc nn dy x5 _ h) gX1_receiver_X1_takers rfl rfl ⟨rfl, rfl⟩ yoX1_takers ⟨Nat.le_of_ble_eq_true rfl, Nat.le_of_ble_eq_true rfl⟩ (q0 := 0) (ci := 1) rfl rfl rfl rfl hl.1 rfl (Nat.le_of_ble_eq_true rfl) dX1_receiver_32 ⟨Nat.zero_le _, Nat.zero_le _⟩ (fun r_9 u H locs h hP hD hS => ?_)
          refine kV_i (wr := [(h0, .inr (0, [.ref a_kd, .ref a_hd, .ref a_pl, .ref a_st, .ref a_ho, .ref a_be, .int nc, .int nn, .int dy])), (a_kd, .inl (cI, 7, .inl kd)), (a_hd, .inl (cI, 7, .inl hd)), (a_pl, .inl (cI, 7, .inl pl)), (a_st, .inl (cI, 7, .inl st)), (a_ho, .inl (cI, 6, .inl ho)), (a_be, .inl (cI, 42, .inl be))]) (As := [.int x5, .int x3, .int r_9]) (n := 3) ⟨hx, hb, hml, hown, hts⟩ hK hP hD hS hA (c_X1_choice l D cI cC cQ h1 a_om om x5 x3 r_9 _ h) gX1_receiver_X1_choice rfl rfl ⟨rfl, rfl⟩ yoX1_choice ⟨Nat.le_of_ble_eq_true rfl, Nat.le_of_ble_eq_true rfl⟩ (q0 := 0) (ci := 1) rfl rfl rfl rfl hl.1 rfl (Nat.le_of_ble_eq_true rfl) dX1_receiver_35 ⟨Nat.zero_le _, Nat.zero_le _⟩ [0, 1] [2, 3, 4, 5, 6, 7, 8] rfl (by decide) rfl (by decide) (by decide) (fun r_10 u H locs h hP hD hS => ?_)
          have hP : va_P D vwCl [(h0, .inr (0, [.ref a_kd, .ref a_hd, .ref a_pl, .ref a_st, .ref a_ho, .ref a_be, .int nc, .int nn, .int dy])), (a_kd, .inl (cI, 7, .inl kd)), (a_hd, .inl (cI, 7, .inl hd)), (a_pl, .inl (cI, 7, .inl pl)), (a_st, .inl (cI, 7, .inl st)), (a_ho, .inl (cI, 6, .inl ho)), (a_be, .inl (cI, 42, .inl be)), (h1, .inr (1, [.ref a_om])), (a_om, .inl (cI, 896, .inl om))] H := hP
          have hD : va_D A [(h0, .inr (0, [.ref a_kd, .ref a_hd, .ref a_pl, .ref a_st, .ref a_ho, .ref a_be, .int nc, .int nn, .int dy])), (a_kd, .inl (cI, 7, .inl kd)), (a_hd, .inl (cI, 7, .inl hd)), (a_pl, .inl (cI, 7, .inl pl)), (a_st, .inl (cI, 7, .inl st)), (a_ho, .inl (cI, 6, .inl ho)), (a_be, .inl (cI, 42, .inl be)), (h1, .inr (1, [.ref a_om])), (a_om, .inl (cI, 896, .inl om))] := hD
          refine lv_istore (lv' := [(4, .int r_10), (0, .ref h1), (1, .ref h0), (2, .int x2), (3, .int x3), (5, .int x5)]) hx hb dX1_receiver_38 hl (by decide) rfl (fun ls hl => ?_)
          refine lv_iload hx hb dX1_receiver_40 (lv_at hl 0 rfl) ?_
          refine lv_bipush (v := -4) hx hb dX1_receiver_42 (by decide) ?_
          refine lv_icmp_eq (tgt := 54) hx hb dX1_receiver_44 (by decide) (fun c_11 => ?_) (fun c_11 => ?_)
          · have h := h.1 c_11
            refine lv_iinc (v := (x5 + (1 : Int32))) (lv' := [(5, .int (x5 + (1 : Int32))), (4, .int r_10), (0, .ref h1), (1, .ref h0), (2, .int x2), (3, .int x3)]) hx hb dX1_receiver_54 hl (k := 5) rfl rfl (by decide) rfl (fun ls hl => ?_)
            refine lv_goto (tgt := 9) hx hb dX1_receiver_57 (by decide) ?_
            have hP := hP.sub (ws' := [(h1, .inr (1, [.ref a_om])), (a_om, .inl (cI, 896, .inl om)), (h0, .inr (0, [.ref a_kd, .ref a_hd, .ref a_pl, .ref a_st, .ref a_ho, .ref a_be, .int nc, .int nn, .int dy])), (a_kd, .inl (cI, 7, .inl kd)), (a_hd, .inl (cI, 7, .inl hd)), (a_pl, .inl (cI, 7, .inl pl)), (a_st, .inl (cI, 7, .inl st)), (a_ho, .inl (cI, 6, .inl ho)), (a_be, .inl (cI, 42, .inl be))]) [7, 8, 0, 1, 2, 3, 4, 5, 6] rfl
            have hD := hD.sub (ws' := [(h1, .inr (1, [.ref a_om])), (a_om, .inl (cI, 896, .inl om)), (h0, .inr (0, [.ref a_kd, .ref a_hd, .ref a_pl, .ref a_st, .ref a_ho, .ref a_be, .int nc, .int nn, .int dy])), (a_kd, .inl (cI, 7, .inl kd)), (a_hd, .inl (cI, 7, .inl hd)), (a_pl, .inl (cI, 7, .inl pl)), (a_st, .inl (cI, 7, .inl st)), (a_ho, .inl (cI, 6, .inl ho)), (a_be, .inl (cI, 42, .inl be))]) [7, 8, 0, 1, 2, 3, 4, 5, 6] (by decide) rfl
            exact ih h hP hD hS (lv_sub hl [2, 3, 4, 5, 1, 0] rfl)
          · have h := h.2 c_11
            refine lv_iload_n hx hb dX1_receiver_47 rfl (lv_at hl 4 rfl) ?_
            refine lv_iconst (v := 1) hx hb dX1_receiver_48 (by decide) ?_
            refine lv_iload hx hb dX1_receiver_49 (lv_at hl 0 rfl) ?_
            refine lv_ishl hx hb dX1_receiver_51 ?_
            refine lv_ior hx hb dX1_receiver_52 ?_
            refine lv_topi (fun v_12 ev_12 => ?_)
            have h := h v_12 ev_12
            refine lv_istore_n (lv' := [(3, .int v_12), (4, .int r_10), (0, .ref h1), (1, .ref h0), (2, .int x2), (5, .int x5)]) hx hb dX1_receiver_53 rfl hl (by decide) rfl (fun ls hl => ?_)
            refine lv_iinc (v := (x5 + (1 : Int32))) (lv' := [(5, .int (x5 + (1 : Int32))), (3, .int v_12), (4, .int r_10), (0, .ref h1), (1, .ref h0), (2, .int x2)]) hx hb dX1_receiver_54 hl (k := 5) rfl rfl (by decide) rfl (fun ls hl => ?_)
            refine lv_goto (tgt := 9) hx hb dX1_receiver_57 (by decide) ?_
            have hP := hP.sub (ws' := [(h1, .inr (1, [.ref a_om])), (a_om, .inl (cI, 896, .inl om)), (h0, .inr (0, [.ref a_kd, .ref a_hd, .ref a_pl, .ref a_st, .ref a_ho, .ref a_be, .int nc, .int nn, .int dy])), (a_kd, .inl (cI, 7, .inl kd)), (a_hd, .inl (cI, 7, .inl hd)), (a_pl, .inl (cI, 7, .inl pl)), (a_st, .inl (cI, 7, .inl st)), (a_ho, .inl (cI, 6, .inl ho)), (a_be, .inl (cI, 42, .inl be))]) [7, 8, 0, 1, 2, 3, 4, 5, 6] rfl
            have hD := hD.sub (ws' := [(h1, .inr (1, [.ref a_om])), (a_om, .inl (cI, 896, .inl om)), (h0, .inr (0, [.ref a_kd, .ref a_hd, .ref a_pl, .ref a_st, .ref a_ho, .ref a_be, .int nc, .int nn, .int dy])), (a_kd, .inl (cI, 7, .inl kd)), (a_hd, .inl (cI, 7, .inl hd)), (a_pl, .inl (cI, 7, .inl pl)), (a_st, .inl (cI, 7, .inl st)), (a_ho, .inl (cI, 6, .inl ho)), (a_be, .inl (cI, 42, .inl be))]) [7, 8, 0, 1, 2, 3, 4, 5, 6] (by decide) rfl
            exact ih h hP hD hS (lv_sub hl [3, 4, 5, 1, 2, 0] rfl)
  refine lv_iconst (v := 0) hx hb dX1_receiver_0 (by decide) ?_
  refine lv_istore_n (lv' := [(3, .int (0 : Int32)), (0, .ref h1), (1, .ref h0), (2, .int x2)]) hx hb dX1_receiver_1 rfl hl (by decide) rfl (fun ls hl => ?_)
  refine lv_bipush (v := -4) hx hb dX1_receiver_2 (by decide) ?_
  refine lv_istore (lv' := [(4, .int (-4 : Int32)), (3, .int (0 : Int32)), (0, .ref h1), (1, .ref h0), (2, .int x2)]) hx hb dX1_receiver_4 hl (by decide) rfl (fun ls hl => ?_)
  refine lv_iconst (v := 0) hx hb dX1_receiver_6 (by decide) ?_
  refine lv_istore (lv' := [(5, .int (0 : Int32)), (4, .int (-4 : Int32)), (3, .int (0 : Int32)), (0, .ref h1), (1, .ref h0), (2, .int x2)]) hx hb dX1_receiver_7 hl (by decide) rfl (fun ls hl => ?_)
  obtain ⟨n_13, h⟩ := h
  exact L9 n_13 h hP hD hS (lv_sub hl [3, 4, 5, 2, 1, 0] rfl)

/-! DoubtCourt$Shelf.clear -/
abbrev rmX2_clear : Room := { frames := 0, cells := 0, slots := 0, locals := 0 }
theorem yoX2_clear : yX2_clear.cls ≠ "java/lang/invoke/MethodHandle" ∧ yX2_clear.cls ≠ "java/lang/invoke/VarHandle" ∧ (parseMethodDescriptor yX2_clear.desc).map (fun d => d.parameters.length) = some 0 := by decide +kernel
set_option maxHeartbeats 4000000 in
set_option maxRecDepth 100000 in
theorem c_X2_clear (l : Launch) (D : va_G) (cI cC cQ : ClassId) (h2 : Nat) (a_rw : Nat) (ru : Int32) (Q : Int32 → Prop) (h : wX2_clear Q) : Cv (S := (Int32)) l D cI cC cQ yX2_clear wsX2_clear rmX2_clear [.ref h2] [(h2, .inr (2, [.ref a_rw, .int ru]))] (fun u => [(h2, .inr (2, [.ref a_rw, .int u]))]) (fun u => Q u) := by
  refine Cv_mk (cc := cX2_clear) (maxL := 1) (by decide) rfl (Nat.le_of_ble_eq_true rfl) ?_
  intro p e s m args below meth c A Z ls hx hb hml hown hts hK hA hP hD hret hl
  have hS : va_S A s.heap s.heap [] := va_S.rf
  have hin2 : ∀ w ∈ u_ws RX2 TX2 2, w ∈ wsX2_clear := by decide +kernel
  have k_0 := hts (.fieldLink RX2 16 "DoubtCourt$Shelf" "used" "I") (by decide +kernel)
  have hl : lv_has ls 1 [(0, .ref h2)] := hl
  refine lv_aload_n hx hb dX2_clear_0 rfl (lv_at hl 0 rfl) ?_
  refine lv_iconst (v := 0) hx hb dX2_clear_1 (by decide) ?_
  refine va_put (D := D) (ci := 2) (v := .int (0 : Int32)) (ty := .int) (C := RX2) (T := TX2) (N := 2) hx hb hts hin2 tyX2 tyX2_ok nmX2 hown hK.1 hP hD hS 0 rfl rfl 1 (by decide) (k_0) (fun _ h9 => h9) rfl (by decide +kernel) rfl rfl (Nat.le_of_ble_eq_true rfl) dX2_clear_2 (fun H locs hP hD hS => ?_)
  have hP : va_P D vwCl [(h2, .inr (2, [.ref a_rw, .int (0 : Int32)]))] H := hP
  have hD : va_D A [(h2, .inr (2, [.ref a_rw, .int (0 : Int32)]))] := hD
  exact hret (0 : Int32) _ _ _ ls h hP hD hS dX2_clear_5

/-! DoubtCourt$Shelf.drop -/
abbrev rmX2_drop : Room := { frames := 1, cells := 0, slots := 0, locals := 21 }
theorem yoX2_drop : yX2_drop.cls ≠ "java/lang/invoke/MethodHandle" ∧ yX2_drop.cls ≠ "java/lang/invoke/VarHandle" ∧ (parseMethodDescriptor yX2_drop.desc).map (fun d => d.parameters.length) = some 0 := by decide +kernel
set_option maxHeartbeats 4000000 in
set_option maxRecDepth 100000 in
theorem c_X2_drop (l : Launch) (D : va_G) (cI cC cQ : ClassId) (h2 : Nat) (a_rw : Nat) (ru : Int32) (Q : Int32 → Prop) (h : wX2_drop ru Q) : Cv (S := (Int32)) l D cI cC cQ yX2_drop wsX2_drop rmX2_drop [.ref h2] [(h2, .inr (2, [.ref a_rw, .int ru]))] (fun u => [(h2, .inr (2, [.ref a_rw, .int u]))]) (fun u => Q u) := by
  refine Cv_mk (cc := cX2_drop) (maxL := 1) (by decide) rfl (Nat.le_of_ble_eq_true rfl) ?_
  intro p e s m args below meth c A Z ls hx hb hml hown hts hK hA hP hD hret hl
  have hS : va_S A s.heap s.heap [] := va_S.rf
  have hin2 : ∀ w ∈ u_ws RX2 TX2 2, w ∈ wsX2_drop := by decide +kernel
  have k_0 := hts (.fieldLink RX2 16 "DoubtCourt$Shelf" "used" "I") (by decide +kernel)
  have k_1 := hts (.methodLink RX2 31 Lib.Math.max.name) (by decide +kernel)
  have k_2 := hts (.static Lib.Math.max.name) (by decide +kernel)
  have k_3 := hts (.initialized "java/lang/Math") (by decide +kernel)
  have k_4 := hts (.code Lib.Math.max.name Lib.Math.max.code 2 (some .int)) (by decide +kernel)
  have hl : lv_has ls 1 [(0, .ref h2)] := hl
  refine lv_aload_n hx hb dX2_drop_0 rfl (lv_at hl 0 rfl) ?_
  refine lv_iconst (v := 0) hx hb dX2_drop_1 (by decide) ?_
  refine lv_aload_n hx hb dX2_drop_2 rfl (lv_at hl 0 rfl) ?_
  refine va_get (D := D) (ci := 2) (v := .int ru) (C := RX2) (T := TX2) (N := 2) hx hb hts hin2 hown hK.1 hP 0 rfl rfl 1 (by decide) (k_0) (fun _ h9 => h9) rfl dX2_drop_3 ?_
  refine lv_iconst (v := 1) hx hb dX2_drop_6 (by decide) ?_
  refine lv_isub hx hb dX2_drop_7 ?_
  refine va_mmax hx hb (hml.trans hl.1.symm) hown (k_1) (k_2) (k_3) (k_4) (Nat.le_of_ble_eq_true rfl) (Nat.le_of_ble_eq_true rfl) (Nat.zero_le _) (Nat.zero_le _) dX2_drop_8 ?_
  refine va_put (D := D) (ci := 2) (v := .int (if (0 : Int32) < (ru - (1 : Int32)) then (ru - (1 : Int32)) else (0 : Int32))) (ty := .int) (C := RX2) (T := TX2) (N := 2) hx hb hts hin2 tyX2 tyX2_ok nmX2 hown hK.1 hP hD hS 0 rfl rfl 1 (by decide) (k_0) (fun _ h9 => h9) rfl (by decide +kernel) rfl rfl (Nat.le_of_ble_eq_true rfl) dX2_drop_11 (fun H locs hP hD hS => ?_)
  have hP : va_P D vwCl [(h2, .inr (2, [.ref a_rw, .int (if (0 : Int32) < (ru - (1 : Int32)) then (ru - (1 : Int32)) else (0 : Int32))]))] H := hP
  have hD : va_D A [(h2, .inr (2, [.ref a_rw, .int (if (0 : Int32) < (ru - (1 : Int32)) then (ru - (1 : Int32)) else (0 : Int32))]))] := hD
  exact hret (if (0 : Int32) < (ru - (1 : Int32)) then (ru - (1 : Int32)) else (0 : Int32)) _ _ _ ls h hP hD hS dX2_drop_14
