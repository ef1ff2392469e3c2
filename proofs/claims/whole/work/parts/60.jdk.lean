/-! String.length, String.charAt of the class's text constant -/
section JD
variable (K V : Nat) (b : Nat → Int32) (l : Launch) (D : va_G) (cI cC cQ : ClassId)
theorem c_J3_checkIndex (i n : Nat) (o : Option Nat) (hi : i < n) (hn : n < 1000) : CJ K V b l D cI cC cQ yJ3_checkIndex_8e157 wsJ3_checkIndex_8e157 { frames := 0, cells := 0, slots := 0, locals := 0 } [.int (nI i), .int (nI n), va_rf o] (fun _ => True) := by
  rcases o with _ | a
  all_goals
    refine CJ_mk (cc := cJ3_checkIndex_8e157) (maxL := 3) (ty := .int) (by decide) rfl (Nat.le_of_ble_eq_true rfl) ?_
    intro p e s m args below meth c A Z ls hx hb hml hown hts hK hE hA hret hl
    have hl : lv_has ls 3 [(0, .int (nI i)), (1, .int (nI n)), (2, _)] := hl
    refine lv_iload_n hx hb dJ3_checkIndex_8e157_0 rfl (lv_at hl 0 rfl) ?_
    refine lv_if_lt (tgt := 9) hx hb dJ3_checkIndex_8e157_1 (by decide) (fun c1 => absurd ((nI_ltI (b := 0) (by omega) (by omega)).mp c1) (by omega)) (fun c1 => ?_)
    refine lv_iload_n hx hb dJ3_checkIndex_8e157_4 rfl (lv_at hl 0 rfl) ?_
    refine lv_iload_n hx hb dJ3_checkIndex_8e157_5 rfl (lv_at hl 1 rfl) ?_
    refine lv_icmp_lt (tgt := 16) hx hb dJ3_checkIndex_8e157_6 (by decide) (fun c2 => ?_) (fun c2 => absurd (nI_lt hi (by omega)) c2)
    refine lv_iload_n hx hb dJ3_checkIndex_8e157_16 rfl (lv_at hl 0 rfl) ?_
    exact hret _ _ _ _ ls rfl trivial va_S.rf dJ3_checkIndex_8e157_17
theorem c_J0_checkIndex (i n : Nat) (hi : i < n) (hn : n < 1000) : CJv K V b l D cI cC cQ yJ0_checkIndex_df160 wsJ0_checkIndex_df160 { frames := 1, cells := 0, slots := 0, locals := 22 } [.int (nI i), .int (nI n)] := by
  refine CJv_mk (cc := cJ0_checkIndex_df160) (maxL := 2) (by decide) rfl (Nat.le_of_ble_eq_true rfl) ?_
  intro p e s m args below meth c A Z ls hx hb hml hown hts hK hE hA hret hl
  have hl : lv_has ls 2 [(0, .int (nI i)), (1, .int (nI n))] := hl
  have hS : va_S A s.heap s.heap [] := va_S.rf
  have hP : va_P D vwCl [] s.heap := vaP_nil
  have k_0 := hts (.fieldLink RJ0 1053 "jdk/internal/util/Preconditions" "SIOOBE_FORMATTER" "Ljava/util/function/BiFunction;") (by decide +kernel)
  refine lv_iload_n hx hb dJ0_checkIndex_df160_0 rfl (lv_at hl 0 rfl) ?_
  refine lv_iload_n hx hb dJ0_checkIndex_df160_1 rfl (lv_at hl 1 rfl) ?_
  rcases hE.2.2.2.2.2.2.1 with hz | ⟨t, hz⟩
  · refine va_gets hx hb hz hS hown k_0 (fun _ h => h) dJ0_checkIndex_df160_2 ?_
    refine kJS (As := [.int (nI i), .int (nI n), .null]) (n := 3) ⟨hx, hb, hml, hown, hts⟩ hK hE hP hS hA (c_J3_checkIndex K V b l D cI cC cQ i n none hi hn) gJ0_checkIndex_df160_J3_checkIndex_8e157 rfl ⟨rfl, rfl⟩ (by decide +kernel) ⟨Nat.le_of_ble_eq_true rfl, Nat.le_of_ble_eq_true rfl⟩ rfl hl.1 rfl (Nat.le_of_ble_eq_true rfl) dJ0_checkIndex_df160_5 ⟨Nat.zero_le _, Nat.zero_le _⟩ (fun r H locs _ hP hS => ?_)
    refine lv_pop hx hb dJ0_checkIndex_df160_8 rfl ?_
    exact hret _ _ _ ls hS dJ0_checkIndex_df160_9
  · refine va_gets hx hb hz hS hown k_0 (fun _ h => h) dJ0_checkIndex_df160_2 ?_
    refine kJS (As := [.int (nI i), .int (nI n), .ref t]) (n := 3) ⟨hx, hb, hml, hown, hts⟩ hK hE hP hS hA (c_J3_checkIndex K V b l D cI cC cQ i n (some t) hi hn) gJ0_checkIndex_df160_J3_checkIndex_8e157 rfl ⟨rfl, rfl⟩ (by decide +kernel) ⟨Nat.le_of_ble_eq_true rfl, Nat.le_of_ble_eq_true rfl⟩ rfl hl.1 rfl (Nat.le_of_ble_eq_true rfl) dJ0_checkIndex_df160_5 ⟨Nat.zero_le _, Nat.zero_le _⟩ (fun r H locs _ hP hS => ?_)
    refine lv_pop hx hb dJ0_checkIndex_df160_8 rfl ?_
    exact hret _ _ _ ls hS dJ0_checkIndex_df160_9
theorem c127 : ∀ t, t < 128 → (((nI t) &&& (255 : Int32)).toUInt32 % 65536).toInt32 = nI t := by decide +kernel
theorem n127 : ∀ t, t < 128 → narrow .char (.int (nI t)) = .int (nI t) := by decide +kernel
theorem c_J1_charAt (i t : Nat) (hi : i < 70) (hbi : b i = nI t) (ht : t < 128) : CJ K V b l D cI cC cQ yJ1_charAt_3b067 wsJ1_charAt_3b067 { frames := 2, cells := 0, slots := 0, locals := 43 } [.ref V, .int (nI i)] (fun r => r = nI t) := by
  refine CJ_mk (cc := cJ1_charAt_3b067) (maxL := 2) (ty := .char) (by decide) rfl (Nat.le_of_ble_eq_true rfl) ?_
  intro p e s m args below meth c A Z ls hx hb hml hown hts hK hE hA hret hl
  have hl : lv_has ls 2 [(0, .ref V), (1, .int (nI i))] := hl
  have hS : va_S A s.heap s.heap [] := va_S.rf
  have hP : va_P D vwCl [] s.heap := vaP_nil
  refine lv_iload_n hx hb dJ1_charAt_3b067_0 rfl (lv_at hl 1 rfl) ?_
  refine lv_aload_n hx hb dJ1_charAt_3b067_1 rfl (lv_at hl 0 rfl) ?_
  refine va_tlen (v := nI 70) hx hb hE.2.2.2.2.1 hS rfl dJ1_charAt_3b067_2 ?_
  refine kJSv (As := [.int (nI i), .int (nI 70)]) (n := 2) ⟨hx, hb, hml, hown, hts⟩ hK hE hP hS hA (c_J0_checkIndex K V b l D cI cC cQ i 70 hi (by omega)) gJ1_charAt_3b067_J0_checkIndex_df160 rfl ⟨rfl, rfl⟩ (by decide +kernel) ⟨Nat.le_of_ble_eq_true rfl, Nat.le_of_ble_eq_true rfl⟩ rfl hl.1 rfl (Nat.le_of_ble_eq_true rfl) dJ1_charAt_3b067_3 ⟨Nat.zero_le _, Nat.zero_le _⟩ (fun H locs hP hS => ?_)
  refine lv_aload_n hx hb dJ1_charAt_3b067_6 rfl (lv_at hl 0 rfl) ?_
  refine lv_iload_n hx hb dJ1_charAt_3b067_7 rfl (lv_at hl 1 rfl) ?_
  refine va_tb (v := .int (nI t)) hx hb hE.2.2.2.2.1 hS (vp_in_nI hi (by omega)) (by show Value.int (b (nI i).toNatClampNeg) = _; rw [nI_clamp (by omega), hbi]) dJ1_charAt_3b067_8 ?_
  refine lv_sipush (v := 255) hx hb dJ1_charAt_3b067_9 (by decide) ?_
  refine lv_iand hx hb dJ1_charAt_3b067_12 ?_
  refine lv_i2c (v := nI t) hx hb dJ1_charAt_3b067_13 (c127 t ht) ?_
  exact hret _ _ _ _ ls (n127 t ht) rfl hS dJ1_charAt_3b067_14
theorem c_J0_isLatin1 : CJ K V b l D cI cC cQ yJ0_isLatin1_aae02 wsJ0_isLatin1_aae02 { frames := 0, cells := 0, slots := 0, locals := 0 } [.ref K] (fun r => r = 1) := by
  refine CJ_mk (cc := cJ0_isLatin1_aae02) (maxL := 1) (ty := .boolean) (by decide) rfl (Nat.le_of_ble_eq_true rfl) ?_
  intro p e s m args below meth c A Z ls hx hb hml hown hts hK hE hA hret hl
  have hl : lv_has ls 1 [(0, .ref K)] := hl
  have hS : va_S A s.heap s.heap [] := va_S.rf
  have k_0 := hts (.fieldLink RJ0 38 "java/lang/String" "COMPACT_STRINGS" "Z") (by decide +kernel)
  have k_1 := hts (.fieldLink RJ0 15 "java/lang/String" "coder" "B") (by decide +kernel)
  refine va_gets hx hb hE.2.2.2.2.2.1 hS hown k_0 (fun _ h => h) dJ0_isLatin1_aae02_0 ?_
  refine lv_if_eq (tgt := 17) hx hb dJ0_isLatin1_aae02_3 (by decide) (fun c1 => absurd c1 (by decide)) (fun c1 => ?_)
  refine lv_aload_n hx hb dJ0_isLatin1_aae02_6 rfl (lv_at hl 0 rfl) ?_
  refine vk_getf hx hb hE.2.2.1 hS hown k_1 (fun _ h => h) dJ0_isLatin1_aae02_7 ?_
  refine lv_if_ne (tgt := 17) hx hb dJ0_isLatin1_aae02_10 (by decide) (fun c1 => absurd rfl c1) (fun c1 => ?_)
  refine lv_iconst (v := 1) hx hb dJ0_isLatin1_aae02_13 (by decide) ?_
  refine lv_goto (tgt := 18) hx hb dJ0_isLatin1_aae02_14 (by decide) ?_
  exact hret _ _ _ _ ls rfl rfl hS dJ0_isLatin1_aae02_18
theorem c_J0_coder : CJ K V b l D cI cC cQ yJ0_coder_7d493 wsJ0_coder_7d493 { frames := 0, cells := 0, slots := 0, locals := 0 } [.ref K] (fun r => r = 0) := by
  refine CJ_mk (cc := cJ0_coder_7d493) (maxL := 1) (ty := .byte) (by decide) rfl (Nat.le_of_ble_eq_true rfl) ?_
  intro p e s m args below meth c A Z ls hx hb hml hown hts hK hE hA hret hl
  have hl : lv_has ls 1 [(0, .ref K)] := hl
  have hS : va_S A s.heap s.heap [] := va_S.rf
  have k_0 := hts (.fieldLink RJ0 38 "java/lang/String" "COMPACT_STRINGS" "Z") (by decide +kernel)
  have k_1 := hts (.fieldLink RJ0 15 "java/lang/String" "coder" "B") (by decide +kernel)
  refine va_gets hx hb hE.2.2.2.2.2.1 hS hown k_0 (fun _ h => h) dJ0_coder_7d493_0 ?_
  refine lv_if_eq (tgt := 13) hx hb dJ0_coder_7d493_3 (by decide) (fun c1 => absurd c1 (by decide)) (fun c1 => ?_)
  refine lv_aload_n hx hb dJ0_coder_7d493_6 rfl (lv_at hl 0 rfl) ?_
  refine vk_getf hx hb hE.2.2.1 hS hown k_1 (fun _ h => h) dJ0_coder_7d493_7 ?_
  refine lv_goto (tgt := 14) hx hb dJ0_coder_7d493_10 (by decide) ?_
  exact hret _ _ _ _ ls rfl rfl hS dJ0_coder_7d493_14
theorem c_J0_length : CJ K V b l D cI cC cQ yJ0_length_8abf5 wsJ0_length_8abf5 { frames := 1, cells := 0, slots := 0, locals := 20 } [.ref K] (fun r => r = nI 70) := by
  refine CJ_mk (cc := cJ0_length_8abf5) (maxL := 1) (ty := .int) (by decide) rfl (Nat.le_of_ble_eq_true rfl) ?_
  intro p e s m args below meth c A Z ls hx hb hml hown hts hK hE hA hret hl
  have hl : lv_has ls 1 [(0, .ref K)] := hl
  have hS : va_S A s.heap s.heap [] := va_S.rf
  have hP : va_P D vwCl [] s.heap := vaP_nil
  have k_0 := hts (.fieldLink RJ0 9 "java/lang/String" "value" "[B") (by decide +kernel)
  refine lv_aload_n hx hb dJ0_length_8abf5_0 rfl (lv_at hl 0 rfl) ?_
  refine vk_getf hx hb hE.2.2.2.1 hS hown k_0 (fun _ h => h) dJ0_length_8abf5_1 ?_
  refine va_tlen (v := nI 70) hx hb hE.2.2.2.2.1 hS rfl dJ0_length_8abf5_4 ?_
  refine lv_aload_n hx hb dJ0_length_8abf5_5 rfl (lv_at hl 0 rfl) ?_
  refine kJV (As := []) (n := 0) ⟨hx, hb, hml, hown, hts⟩ hK hE hP hS hA (c_J0_coder K V b l D cI cC cQ) gJ0_length_8abf5_J0_coder_7d493 rfl rfl ⟨rfl, rfl⟩ (by decide +kernel) ⟨Nat.le_of_ble_eq_true rfl, Nat.le_of_ble_eq_true rfl⟩ rfl hl.1 rfl (Nat.le_of_ble_eq_true rfl) dJ0_length_8abf5_6 ⟨Nat.zero_le _, Nat.zero_le _⟩ (fun r H locs hr hP hS => ?_)
  have hr : r = 0 := hr
  subst hr
  refine lv_ishr hx hb dJ0_length_8abf5_9 ?_
  exact hret _ _ _ _ ls rfl (by decide) hS dJ0_length_8abf5_10
theorem c_J0_charAt (i t : Nat) (hi : i < 70) (hbi : b i = nI t) (ht : t < 128) : CJ K V b l D cI cC cQ yJ0_charAt_5068e wsJ0_charAt_5068e { frames := 3, cells := 0, slots := 0, locals := 64 } [.ref K, .int (nI i)] (fun r => r = nI t) := by
  refine CJ_mk (cc := cJ0_charAt_5068e) (maxL := 2) (ty := .char) (by decide) rfl (Nat.le_of_ble_eq_true rfl) ?_
  intro p e s m args below meth c A Z ls hx hb hml hown hts hK hE hA hret hl
  have hl : lv_has ls 2 [(0, .ref K), (1, .int (nI i))] := hl
  have hS : va_S A s.heap s.heap [] := va_S.rf
  have hP : va_P D vwCl [] s.heap := vaP_nil
  have k_0 := hts (.fieldLink RJ0 9 "java/lang/String" "value" "[B") (by decide +kernel)
  refine lv_aload_n hx hb dJ0_charAt_5068e_0 rfl (lv_at hl 0 rfl) ?_
  refine kJV (As := []) (n := 0) ⟨hx, hb, hml, hown, hts⟩ hK hE hP hS hA (c_J0_isLatin1 K V b l D cI cC cQ) gJ0_charAt_5068e_J0_isLatin1_aae02 rfl rfl ⟨rfl, rfl⟩ (by decide +kernel) ⟨Nat.le_of_ble_eq_true rfl, Nat.le_of_ble_eq_true rfl⟩ rfl hl.1 rfl (Nat.le_of_ble_eq_true rfl) dJ0_charAt_5068e_1 ⟨Nat.zero_le _, Nat.zero_le _⟩ (fun r H locs hr hP hS => ?_)
  have hr : r = 1 := hr
  subst hr
  refine lv_if_eq (tgt := 16) hx hb dJ0_charAt_5068e_4 (by decide) (fun c1 => absurd c1 (by decide)) (fun c1 => ?_)
  refine lv_aload_n hx hb dJ0_charAt_5068e_7 rfl (lv_at hl 0 rfl) ?_
  refine vk_getf hx hb hE.2.2.2.1 hS hown k_0 (fun _ h => h) dJ0_charAt_5068e_8 ?_
  refine lv_iload_n hx hb dJ0_charAt_5068e_11 rfl (lv_at hl 1 rfl) ?_
  refine kJS (As := [.ref V, .int (nI i)]) (n := 2) ⟨hx, hb, hml, hown, hts⟩ hK hE hP hS hA (c_J1_charAt K V b l D cI cC cQ i t hi hbi ht) gJ0_charAt_5068e_J1_charAt_3b067 rfl ⟨rfl, rfl⟩ (by decide +kernel) ⟨Nat.le_of_ble_eq_true rfl, Nat.le_of_ble_eq_true rfl⟩ rfl hl.1 rfl (Nat.le_of_ble_eq_true rfl) dJ0_charAt_5068e_12 ⟨Nat.zero_le _, Nat.zero_le _⟩ (fun r H locs hr hP hS => ?_)
  have hr : r = nI t := hr
  subst hr
  exact hret _ _ _ _ ls (n127 t ht) rfl hS dJ0_charAt_5068e_15
end JD
