theorem pool_two (cI : ClassId) (k : Nat) (as : List CA) (vs : List CV) (a a2 : CA) (v v2 : CV) (h0 : 0 < k) (h1 : as[k]? = some a) (h2 : vs[k]? = some v) (h3 : as[k - 1]? = some a2) (h4 : vs[k - 1]? = some v2) : (pool cI as vs).Perm ((cb cI a v ++ cb cI a2 v2) ++ pool cI ((as.eraseIdx k).eraseIdx (k - 1)) ((vs.eraseIdx k).eraseIdx (k - 1))) := by
  have e1 : (as.eraseIdx k)[k - 1]? = some a2 := by rw [List.getElem?_eraseIdx_of_lt (by omega)]; exact h3
  have e2 : (vs.eraseIdx k)[k - 1]? = some v2 := by rw [List.getElem?_eraseIdx_of_lt (by omega)]; exact h4
  have p1 := pool_perm cI k as vs a v h1 h2
  have p2 := (pool_perm cI (k - 1) (as.eraseIdx k) (vs.eraseIdx k) a2 v2 e1 e2).append_left (cb cI a v)
  exact (p1.trans p2).trans (by rw [List.append_assoc])
theorem pool_two_set (cI : ClassId) (k : Nat) (as : List CA) (vs : List CV) (a a2 : CA) (v v2 : CV) (h0 : 0 < k) (h1 : as[k]? = some a) (h2 : k < vs.length) (h3 : as[k - 1]? = some a2) (h4 : vs[k - 1]? = some v2) : ((cb cI a v ++ cb cI a2 v2) ++ pool cI ((as.eraseIdx k).eraseIdx (k - 1)) ((vs.eraseIdx k).eraseIdx (k - 1))).Perm (pool cI as (vs.set k v)) := by
  have h := pool_two cI k as (vs.set k v) a a2 v v2 h0 h1 (by rw [List.getElem?_set_self h2]) h3 (by rw [List.getElem?_set_ne (by omega)]; exact h4)
  rw [List.eraseIdx_set_eq] at h
  exact h.symm
set_option maxHeartbeats 4000000 in
set_option maxRecDepth 100000 in
/-- Shelf.push of the court on top: it lies there twice -/
theorem c_X2_pushOwn (l : Launch) (D : va_G) (cI cC cQ : ClassId) (h2 a_rw N : Nat) (k : Nat) (as : List CA) (vs : List CV) (a2 : CA) (v2 : CV) (h0 : 0 < k) (hk : k < N) (hN2 : N < 1000) (hla : as.length = N) (hlv : vs.length = N) (ha2 : as[k - 1]? = some a2) (hv2 : vs[k - 1]? = some v2) : Cv (S := Unit) l D cI cC cQ yX2_push wsX2_push rmX2_push [.ref h2, .ref a2.1] ([(h2, .inr (2, [.ref a_rw, .int (nI k)])), (a_rw, .inl (cQ, N, .inr (.inr (.inr (.inr (rwf as))))))] ++ pool cI as vs) (fun _ => [(h2, .inr (2, [.ref a_rw, .int (nI (k + 1))])), (a_rw, .inl (cQ, N, .inr (.inr (.inr (.inr (rwf as))))))] ++ pool cI as (vs.set k (cpyCV v2 (vs.getD k v2)))) (fun _ => True) := by
  refine Cv_mk (cc := cX2_push) (maxL := 3) (by decide) rfl (Nat.le_of_ble_eq_true rfl) ?_
  intro p e s m args below meth c A Z ls hx hb hml hown hts hK hA hP hD hret hl
  have hS : va_S A s.heap s.heap [] := va_S.rf
  have hin2 : ∀ w ∈ u_ws RX2 TX2 2, w ∈ wsX2_push := by decide +kernel
  have k_0 := hts (.fieldLink RX2 16 "DoubtCourt$Shelf" "used" "I") (by decide +kernel)
  have k_1 := hts (.fieldLink RX2 9 "DoubtCourt$Shelf" "rows" "[LDoubtCourt$Court;") (by decide +kernel)
  have hl : lv_has ls 3 [(0, .ref h2), (1, .ref a2.1)] := hl
  obtain ⟨a, ha⟩ : ∃ a, as[k]? = some a := ⟨_, List.getElem?_eq_getElem (by omega)⟩
  obtain ⟨v, hv⟩ : ∃ v, vs[k]? = some v := ⟨_, List.getElem?_eq_getElem (by omega)⟩
  have hgd : vs.getD k v2 = v := by rw [List.getD_eq_getElem?_getD, hv]; rfl
  have ek : rwf as k = some a.1 := by simp [rwf, ha]
  refine lv_aload_n hx hb dX2_push_0 rfl (lv_at hl 0 rfl) ?_
  refine va_get (D := D) (ci := 2) (v := .int (nI k)) (C := RX2) (T := TX2) (N := 2) hx hb hts hin2 hown hK.1 hP 0 rfl rfl 1 (by decide) k_0 (fun _ h9 => h9) rfl dX2_push_1 ?_
  refine lv_aload_n hx hb dX2_push_4 rfl (lv_at hl 0 rfl) ?_
  refine va_get (D := D) (ci := 2) (v := .ref a_rw) (C := RX2) (T := TX2) (N := 2) hx hb hts hin2 hown hK.1 hP 0 rfl rfl 0 (by decide) k_1 (fun _ h9 => h9) rfl dX2_push_5 ?_
  refine va_alen (v := nI N) hx hb hK.1 hP 1 2 rfl rfl rfl dX2_push_8 ?_
  refine lv_icmp_lt (tgt := 16) hx hb dX2_push_9 (by decide) (fun c1 => ?_) (fun c1 => absurd ((nI_ltI (by omega) (by omega)).mpr hk) c1)
  refine lv_aload_n hx hb dX2_push_16 rfl (lv_at hl 0 rfl) ?_
  refine lv_dup hx hb dX2_push_17 rfl ?_
  refine va_get (D := D) (ci := 2) (v := .int (nI k)) (C := RX2) (T := TX2) (N := 2) hx hb hts hin2 hown hK.1 hP 0 rfl rfl 1 (by decide) k_0 (fun _ h9 => h9) rfl dX2_push_18 ?_
  refine lv_iconst (v := 1) hx hb dX2_push_21 (by decide) ?_
  refine lv_iadd hx hb dX2_push_22 ?_
  rw [nI_1 k]
  refine va_put (D := D) (ci := 2) (v := .int (nI (k + 1))) (ty := .int) (C := RX2) (T := TX2) (N := 2) hx hb hts hin2 tyX2 tyX2_ok nmX2 hown hK.1 hP hD hS 0 rfl rfl 1 (by decide) k_0 (fun _ h9 => h9) rfl (by decide +kernel) rfl rfl (Nat.le_of_ble_eq_true rfl) dX2_push_23 (fun H locs hP hD hS => ?_)
  have hP : va_P D vwCl ([(h2, .inr (2, [.ref a_rw, .int (nI (k + 1))])), (a_rw, .inl (cQ, N, .inr (.inr (.inr (.inr (rwf as))))))] ++ pool cI as vs) H := hP
  have hD : va_D A ([(h2, .inr (2, [.ref a_rw, .int (nI (k + 1))])), (a_rw, .inl (cQ, N, .inr (.inr (.inr (.inr (rwf as))))))] ++ pool cI as vs) := hD
  refine lv_aload_n hx hb dX2_push_26 rfl (lv_at hl 0 rfl) ?_
  refine k0V_q (As := []) (n := 0) ⟨hx, hb, hml, hown, hts⟩ hK hP hD hS hA (frame_Cq (c_X2_last l D cI cC cQ h2 a_rw N (rwf as) (k + 1) hN2 (by omega)) (pool cI as vs)) gX2_push_X2_last rfl rfl ⟨rfl, rfl⟩ yoX2_last ⟨Nat.le_of_ble_eq_true rfl, Nat.le_of_ble_eq_true rfl⟩ (q0 := 0) (ci := 2) rfl rfl rfl rfl hl.1 rfl (Nat.le_of_ble_eq_true rfl) dX2_push_27 ⟨Nat.zero_le _, Nat.zero_le _⟩ (fun r u H locs h hP hD hS => ?_)
  have hr0 : r = some a.1 := by
    rw [h, if_neg (Nat.succ_ne_zero k)]
    exact ek
  subst hr0
  refine lv_astore_n (x := a.1) (lv' := [(2, .ref a.1), (0, .ref h2), (1, .ref a2.1)]) hx hb dX2_push_30 rfl hl (by decide) rfl (fun ls hl => ?_)
  refine lv_aload_n hx hb dX2_push_31 rfl (lv_at hl 0 rfl) ?_
  refine lv_ifnull hx hb dX2_push_32 ?_
  refine lv_aload_n hx hb dX2_push_35 rfl (lv_at hl 0 rfl) ?_
  refine lv_aload_n hx hb dX2_push_36 rfl (lv_at hl 2 rfl) ?_
  generalize hq : pool cI ((as.eraseIdx k).eraseIdx (k - 1)) ((vs.eraseIdx k).eraseIdx (k - 1)) = pl
  have hp1 : List.Perm (α := Nat × va_E) ([(h2, .inr (2, [.ref a_rw, .int (nI (k + 1))])), (a_rw, .inl (cQ, N, .inr (.inr (.inr (.inr (rwf as))))))] ++ pool cI as vs) ((cb cI a v ++ cb cI a2 v2) ++ ([(h2, .inr (2, [.ref a_rw, .int (nI (k + 1))])), (a_rw, .inl (cQ, N, .inr (.inr (.inr (.inr (rwf as))))))] ++ pl)) := ((pool_two cI k as vs a a2 v v2 h0 ha hv ha2 hv2).append_left _).trans (by rw [hq]; exact List.perm_append_comm_assoc _ _ _)
  have hP : va_P D vwCl ([(a.1, .inr (0, [.ref a.2.1, .ref a.2.2.1, .ref a.2.2.2.1, .ref a.2.2.2.2.1, .ref a.2.2.2.2.2.1, .ref a.2.2.2.2.2.2, .int v.2.2.2.2.2.2.1, .int v.2.2.2.2.2.2.2.1, .int v.2.2.2.2.2.2.2.2])), (a.2.1, .inl (cI, 7, .inl v.1)), (a.2.2.1, .inl (cI, 7, .inl v.2.1)), (a.2.2.2.1, .inl (cI, 7, .inl v.2.2.1)), (a.2.2.2.2.1, .inl (cI, 7, .inl v.2.2.2.1)), (a.2.2.2.2.2.1, .inl (cI, 6, .inl v.2.2.2.2.1)), (a.2.2.2.2.2.2, .inl (cI, 42, .inl v.2.2.2.2.2.1)), (a2.1, .inr (0, [.ref a2.2.1, .ref a2.2.2.1, .ref a2.2.2.2.1, .ref a2.2.2.2.2.1, .ref a2.2.2.2.2.2.1, .ref a2.2.2.2.2.2.2, .int v2.2.2.2.2.2.2.1, .int v2.2.2.2.2.2.2.2.1, .int v2.2.2.2.2.2.2.2.2])), (a2.2.1, .inl (cI, 7, .inl v2.1)), (a2.2.2.1, .inl (cI, 7, .inl v2.2.1)), (a2.2.2.2.1, .inl (cI, 7, .inl v2.2.2.1)), (a2.2.2.2.2.1, .inl (cI, 7, .inl v2.2.2.2.1)), (a2.2.2.2.2.2.1, .inl (cI, 6, .inl v2.2.2.2.2.1)), (a2.2.2.2.2.2.2, .inl (cI, 42, .inl v2.2.2.2.2.2.1))] ++ ([(h2, .inr (2, [.ref a_rw, .int (nI (k + 1))])), (a_rw, .inl (cQ, N, .inr (.inr (.inr (.inr (rwf as))))))] ++ pl)) H := vaP_perm hp1 hP
  have hD : va_D A ([(a.1, .inr (0, [.ref a.2.1, .ref a.2.2.1, .ref a.2.2.2.1, .ref a.2.2.2.2.1, .ref a.2.2.2.2.2.1, .ref a.2.2.2.2.2.2, .int v.2.2.2.2.2.2.1, .int v.2.2.2.2.2.2.2.1, .int v.2.2.2.2.2.2.2.2])), (a.2.1, .inl (cI, 7, .inl v.1)), (a.2.2.1, .inl (cI, 7, .inl v.2.1)), (a.2.2.2.1, .inl (cI, 7, .inl v.2.2.1)), (a.2.2.2.2.1, .inl (cI, 7, .inl v.2.2.2.1)), (a.2.2.2.2.2.1, .inl (cI, 6, .inl v.2.2.2.2.1)), (a.2.2.2.2.2.2, .inl (cI, 42, .inl v.2.2.2.2.2.1)), (a2.1, .inr (0, [.ref a2.2.1, .ref a2.2.2.1, .ref a2.2.2.2.1, .ref a2.2.2.2.2.1, .ref a2.2.2.2.2.2.1, .ref a2.2.2.2.2.2.2, .int v2.2.2.2.2.2.2.1, .int v2.2.2.2.2.2.2.2.1, .int v2.2.2.2.2.2.2.2.2])), (a2.2.1, .inl (cI, 7, .inl v2.1)), (a2.2.2.1, .inl (cI, 7, .inl v2.2.1)), (a2.2.2.2.1, .inl (cI, 7, .inl v2.2.2.1)), (a2.2.2.2.2.1, .inl (cI, 7, .inl v2.2.2.2.1)), (a2.2.2.2.2.2.1, .inl (cI, 6, .inl v2.2.2.2.2.1)), (a2.2.2.2.2.2.2, .inl (cI, 42, .inl v2.2.2.2.2.2.1))] ++ ([(h2, .inr (2, [.ref a_rw, .int (nI (k + 1))])), (a_rw, .inl (cQ, N, .inr (.inr (.inr (.inr (rwf as))))))] ++ pl)) := vaD_perm hp1 hD
  refine k0V_v (As := [.ref a2.1]) (n := 1) ⟨hx, hb, hml, hown, hts⟩ hK hP hD hS hA (frame_Cv (c_X0_copyFrom l D cI cC cQ a.1 a.2.1 a.2.2.1 a.2.2.2.1 a.2.2.2.2.1 a.2.2.2.2.2.1 a.2.2.2.2.2.2 a2.1 a2.2.1 a2.2.2.1 a2.2.2.2.1 a2.2.2.2.2.1 a2.2.2.2.2.2.1 a2.2.2.2.2.2.2 v.1 v.2.1 v.2.2.1 v.2.2.2.1 v.2.2.2.2.1 v.2.2.2.2.2.1 v.2.2.2.2.2.2.1 v.2.2.2.2.2.2.2.1 v.2.2.2.2.2.2.2.2 v2.1 v2.2.1 v2.2.2.1 v2.2.2.2.1 v2.2.2.2.2.1 v2.2.2.2.2.2.1 v2.2.2.2.2.2.2.1 v2.2.2.2.2.2.2.2.1 v2.2.2.2.2.2.2.2.2 (fun kd1 hd1 pl1 st1 ho1 be1 nc1 nn1 dy1 => (kd1, hd1, pl1, st1, ho1, be1, nc1, nn1, dy1) = cpyCV v2 v) rfl) _) gX2_push_X0_copyFrom rfl rfl ⟨rfl, rfl⟩ yoX0_copyFrom ⟨Nat.le_of_ble_eq_true rfl, Nat.le_of_ble_eq_true rfl⟩ (q0 := 0) (ci := 0) rfl rfl rfl rfl hl.1 rfl (Nat.le_of_ble_eq_true rfl) dX2_push_37 ⟨Nat.zero_le _, Nat.zero_le _⟩ (fun u H locs h hP hD hS => ?_)
  have hu : u = cpyCV v2 v := h
  subst hu
  have hp2 : List.Perm (α := Nat × va_E) ((cb cI a (cpyCV v2 v) ++ cb cI a2 v2) ++ ([(h2, .inr (2, [.ref a_rw, .int (nI (k + 1))])), (a_rw, .inl (cQ, N, .inr (.inr (.inr (.inr (rwf as))))))] ++ pl)) ([(h2, .inr (2, [.ref a_rw, .int (nI (k + 1))])), (a_rw, .inl (cQ, N, .inr (.inr (.inr (.inr (rwf as))))))] ++ pool cI as (vs.set k (cpyCV v2 v))) := (List.perm_append_comm_assoc _ _ _).trans ((by rw [← hq]; exact pool_two_set cI k as vs a a2 _ v2 h0 ha (by omega) ha2 hv2 : ((cb cI a (cpyCV v2 v) ++ cb cI a2 v2) ++ pl).Perm (pool cI as (vs.set k (cpyCV v2 v)))).append_left _)
  refine hret () H locs _ ls trivial ?_ ?_ hS dX2_push_40
  · rw [hgd]
    exact vaP_perm hp2 hP
  · rw [hgd]
    exact vaD_perm hp2 hD
