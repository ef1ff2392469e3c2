/-! DoubtCourt.chances, by hand -/
abbrev shW (cQ cI : ClassId) (h2 a_rw N k : Nat) (as : List CA) (vs : List CV) : va_W := [(h2, .inr (2, [.ref a_rw, .int (nI k)])), (a_rw, .inl (cQ, N, .inr (.inr (.inr (.inr (rwf as))))))] ++ pool cI as vs
abbrev rmCh (d : Nat) : Room := { frames := 10 + d, cells := 0, slots := 0, locals := 200 + 28 * d }
set_option maxHeartbeats 4000000 in
set_option maxRecDepth 100000 in
theorem c_X5_chances0 (l : Launch) (D : va_G) (cI cC cQ : ClassId) (h2 a_rw N k : Nat) (as : List CA) (vs : List CV) (a2 : CA) (v2 : CV) (n : Nat) (x : Int32) (Q : Int32 → List CV → Prop) (h0 : 0 < k) (hk : k ≤ N) (hN2 : N < 1000) (hla : as.length = N) (hlv : vs.length = N) (ha2 : as[k - 1]? = some a2) (hv2 : vs[k - 1]? = some v2) (hq : wX0_isKnown (nI n) v2.2.2.2.2.1 (fun r => Q r vs)) :
    Ci (S := List CV) l D cI cC cQ yX5_chances wsX5_chances (rmCh 0) [.ref h2, .int (nI n), .int (nI 0), .int x] (shW cQ cI h2 a_rw N k as vs) (fun u => shW cQ cI h2 a_rw N k as u) Q := by
  refine Ci_mk (cc := cX5_chances) (maxL := 9) (by decide) rfl (Nat.le_of_ble_eq_true rfl) ?_
  intro p e s m args below meth c A Z ls hx hb hml hown hts hK hA hP hD hret hl
  have hS : va_S A s.heap s.heap [] := va_S.rf
  have hl : lv_has ls 9 [(0, .ref h2), (1, .int (nI n)), (2, .int (nI 0)), (3, .int x)] := hl
  have ek : rwf as (k - 1) = some a2.1 := by simp [rwf, ha2]
  refine lv_aload_n hx hb dX5_chances_0 rfl (lv_at hl 0 rfl) ?_
  refine k0V_q (As := []) (n := 0) ⟨hx, hb, hml, hown, hts⟩ hK hP hD hS hA (frame_Cq (c_X2_last l D cI cC cQ h2 a_rw N (rwf as) k hN2 hk) (pool cI as vs)) gX5_chances_X2_last rfl rfl ⟨rfl, rfl⟩ yoX2_last ⟨Nat.le_of_ble_eq_true rfl, Nat.le_of_ble_eq_true rfl⟩ (q0 := 0) (ci := 2) rfl rfl rfl rfl hl.1 rfl (Nat.le_of_ble_eq_true rfl) dX5_chances_1 ⟨Nat.zero_le _, Nat.zero_le _⟩ (fun r u H locs h hP hD hS => ?_)
  have hr0 : r = some a2.1 := by
    rw [h, if_neg (by omega)]
    exact ek
  subst hr0
  refine lv_astore (x := a2.1) (lv' := [(4, .ref a2.1), (0, .ref h2), (1, .int (nI n)), (2, .int (nI 0)), (3, .int x)]) hx hb dX5_chances_4 hl (by decide) rfl (fun ls hl => ?_)
  refine lv_aload hx hb dX5_chances_6 (lv_at hl 0 rfl) ?_
  refine lv_ifnull hx hb dX5_chances_8 ?_
  refine lv_iload_n hx hb dX5_chances_11 rfl (lv_at hl 3 rfl) ?_
  refine lv_iconst (v := 1) hx hb dX5_chances_12 (by decide) ?_
  refine lv_icmp_lt (tgt := 22) hx hb dX5_chances_13 (by decide) (fun c1 => ?_) (fun c1 => absurd (by decide) c1)
  refine lv_aload hx hb dX5_chances_22 (lv_at hl 0 rfl) ?_
  refine lv_ifnull hx hb dX5_chances_24 ?_
  refine lv_aload hx hb dX5_chances_27 (lv_at hl 0 rfl) ?_
  refine lv_iload_n hx hb dX5_chances_29 rfl (lv_at hl 2 rfl) ?_
  have hp1 : List.Perm (α := Nat × va_E) (shW cQ cI h2 a_rw N k as vs) (cb cI a2 v2 ++ ([(h2, .inr (2, [.ref a_rw, .int (nI k)])), (a_rw, .inl (cQ, N, .inr (.inr (.inr (.inr (rwf as))))))] ++ pool cI (as.eraseIdx (k - 1)) (vs.eraseIdx (k - 1)))) := ((pool_perm cI (k - 1) as vs a2 v2 ha2 hv2).append_left _).trans (List.perm_append_comm_assoc _ _ _)
  have hP : va_P D vwCl (cb cI a2 v2 ++ ([(h2, .inr (2, [.ref a_rw, .int (nI k)])), (a_rw, .inl (cQ, N, .inr (.inr (.inr (.inr (rwf as))))))] ++ pool cI (as.eraseIdx (k - 1)) (vs.eraseIdx (k - 1)))) H := vaP_perm hp1 hP
  have hD : va_D A (cb cI a2 v2 ++ ([(h2, .inr (2, [.ref a_rw, .int (nI k)])), (a_rw, .inl (cQ, N, .inr (.inr (.inr (.inr (rwf as))))))] ++ pool cI (as.eraseIdx (k - 1)) (vs.eraseIdx (k - 1)))) := vaD_perm hp1 hD
  refine k0V_i (As := [.int (nI n)]) (n := 1) ⟨hx, hb, hml, hown, hts⟩ hK hP hD hS hA (frame_Ci (c_X0_isKnown l D cI cC cQ a2.1 a2.2.1 a2.2.2.1 a2.2.2.2.1 a2.2.2.2.2.1 a2.2.2.2.2.2.1 a2.2.2.2.2.2.2 v2.1 v2.2.1 v2.2.2.1 v2.2.2.2.1 v2.2.2.2.2.1 v2.2.2.2.2.2.1 v2.2.2.2.2.2.2.1 v2.2.2.2.2.2.2.2.1 v2.2.2.2.2.2.2.2.2 (nI n) _ hq) _) gX5_chances_X0_isKnown rfl rfl ⟨rfl, rfl⟩ yoX0_isKnown ⟨Nat.le_of_ble_eq_true rfl, Nat.le_of_ble_eq_true rfl⟩ (q0 := 0) (ci := 0) rfl rfl rfl rfl hl.1 rfl (Nat.le_of_ble_eq_true rfl) dX5_chances_30 ⟨Nat.zero_le _, Nat.zero_le _⟩ (fun r u H locs h hP hD hS => ?_)
  have hP : va_P D vwCl (shW cQ cI h2 a_rw N k as vs) H := vaP_perm hp1.symm hP
  have hD : va_D A (shW cQ cI h2 a_rw N k as vs) := vaD_perm hp1.symm hD
  obtain ⟨hb2, h⟩ := h
  refine lv_if_eq (tgt := 40) hx hb dX5_chances_33 (by decide) (fun c2 => ?_) (fun c2 => ?_)
  · refine lv_iconst (v := 0) hx hb dX5_chances_40 (by decide) ?_
    exact hret (0 : Int32) vs _ _ _ ls (by rw [← c2]; exact h) hP hD hS dX5_chances_41
  · refine lv_iconst (v := 1) hx hb dX5_chances_36 (by decide) ?_
    refine lv_goto (tgt := 41) hx hb dX5_chances_37 (by decide) ?_
    exact hret (1 : Int32) vs _ _ _ ls (by rw [← hb2.resolve_left c2]; exact h) hP hD hS dX5_chances_41
