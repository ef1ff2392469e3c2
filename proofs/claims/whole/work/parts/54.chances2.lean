/-! DoubtCourt.chances, days left -/
theorem yoX5_chances : yX5_chances.cls ≠ "java/lang/invoke/MethodHandle" ∧ yX5_chances.cls ≠ "java/lang/invoke/VarHandle" ∧ (parseMethodDescriptor yX5_chances.desc).map (fun d => d.parameters.length) = some 4 := by decide +kernel
set_option maxHeartbeats 4000000 in
set_option maxRecDepth 100000 in
theorem c_X5_chances (l : Launch) (D : va_G) (cI cC cQ : ClassId) (h2 a_rw m0 kn n x : Nat) (K H0 : Nat → Nat) (as : List CA) (hx10 : x ≤ 10) (hn : n < kn) (hla : as.length = 9) : ∀ d, d ≤ 8 → ∀ (k : Nat) (vs : List CV) (a2 : CA) (v2 : CV) (E : Dy), okD m0 kn K H0 E → dd E + d < 4000 → ctV m0 kn K H0 E v2 → 0 < k → k + d ≤ 9 → vs.length = 9 → as[k - 1]? = some a2 → vs[k - 1]? = some v2 →
    Ci (S := List CV) l D cI cC cQ yX5_chances wsX5_chances (rmCh d) [.ref h2, .int (nI n), .int (nI d), .int (nI x)] (shW cQ cI h2 a_rw 9 k as vs) (fun u => shW cQ cI h2 a_rw 9 k as u) (fun r u => r = nI (chD m0 kn K H0 n x d E) ∧ u.length = 9 ∧ ∀ j, j < k → u[j]? = vs[j]?) := by
  intro d
  induction d with
  | zero =>
    intro hd8 k vs a2 v2 E ok hdd hv h0 hk hlv ha2 hv2
    have hk6 := ok.2.2.1
    have hN := hv.2.2.2.2 n hn
    exact c_X5_chances0 l D cI cC cQ h2 a_rw 9 k as vs a2 v2 n (nI x) (fun r u => r = nI (chD m0 kn K H0 n x 0 E) ∧ u.length = 9 ∧ ∀ j, j < k → u[j]? = vs[j]?) h0 (by omega) (by omega) hla hlv ha2 hv2 (by
      rw [e_isKnown (by omega) hN.1 (ok.A hn)]
      unfold chD kn1
      by_cases h9 : dA E n = 9
      · rw [if_pos h9, if_pos h9]; exact ⟨rfl, hlv, fun _ _ => rfl⟩
      · rw [if_neg h9, if_neg h9]; exact ⟨rfl, hlv, fun _ _ => rfl⟩)
  | succ d ih =>
    intro hd8 k vs a2 v2 E ok hdd hv h0 hk hlv ha2 hv2
    have hm7 := ok.1.2.1
    have hk6 := ok.2.2.1
    refine Ci_mk (cc := cX5_chances) (maxL := 9) (by decide) rfl (Nat.le_of_ble_eq_true rfl) ?_
    intro p e s m args below meth c A Z ls hx hb hml hown hts hK hA hP hD hret hl
    have hS : va_S A s.heap s.heap [] := va_S.rf
    have hl : lv_has ls 9 [(0, .ref h2), (1, .int (nI n)), (2, .int (nI (d + 1))), (3, .int (nI x))] := hl
    have ek : rwf as (k - 1) = some a2.1 := by simp [rwf, ha2]
    obtain ⟨a, ha⟩ : ∃ a, as[k]? = some a := ⟨_, List.getElem?_eq_getElem (by omega)⟩
    have ek2 : rwf as k = some a.1 := by simp [rwf, ha]
    refine lv_aload_n hx hb dX5_chances_0 rfl (lv_at hl 0 rfl) ?_
    refine k0V_q (As := []) (n := 0) ⟨hx, hb, hml, hown, hts⟩ hK hP hD hS hA (frame_Cq (c_X2_last l D cI cC cQ h2 a_rw 9 (rwf as) k (by omega) (by omega)) (pool cI as vs)) gX5_chances_X2_last rfl rfl ⟨rfl, rfl⟩ yoX2_last ⟨by show 0 + 1 ≤ 10 + (d + 1); omega, by show 8 + (_ + 11) + 0 ≤ 200 + 28 * (d + 1); omega⟩ (q0 := 0) (ci := 2) rfl rfl rfl rfl hl.1 rfl (Nat.le_of_ble_eq_true rfl) dX5_chances_1 ⟨Nat.zero_le _, Nat.zero_le _⟩ (fun r u H locs h hP hD hS => ?_)
    have hr0 : r = some a2.1 := by
      rw [h, if_neg (by omega)]
      exact ek
    subst hr0
    refine lv_astore (x := a2.1) (lv' := [(4, .ref a2.1), (0, .ref h2), (1, .int (nI n)), (2, .int (nI (d + 1))), (3, .int (nI x))]) hx hb dX5_chances_4 hl (by decide) rfl (fun ls hl => ?_)
    refine lv_aload hx hb dX5_chances_6 (lv_at hl 0 rfl) ?_
    refine lv_ifnull hx hb dX5_chances_8 ?_
    refine lv_iload_n hx hb dX5_chances_11 rfl (lv_at hl 3 rfl) ?_
    refine lv_iconst (v := 1) hx hb dX5_chances_12 (by decide) ?_
    refine lv_icmp_lt (tgt := 22) hx hb dX5_chances_13 (by decide) (fun c1 => absurd ((nI_ltI (b := 1) (by omega) (by omega)).mp c1) (by omega)) (fun c1 => ?_)
    refine lv_iload_n hx hb dX5_chances_16 rfl (lv_at hl 3 rfl) ?_
    refine lv_bipush (v := 8) hx hb dX5_chances_17 (by decide) ?_
    refine lv_icmp_le (tgt := 42) hx hb dX5_chances_19 (by decide) (fun c1 => ?_) (fun c1 => absurd ((nI_leI (b := 8) (by omega) (by omega)).mpr (by omega)) c1)
    refine lv_iconst (v := 0) hx hb dX5_chances_42 (by decide) ?_
    refine lv_istore (lv' := [(5, .int (nI 0)), (4, .ref a2.1), (0, .ref h2), (1, .int (nI n)), (2, .int (nI (d + 1))), (3, .int (nI x))]) hx hb dX5_chances_43 hl (by decide) rfl (fun ls hl => ?_)
    refine lv_iconst (v := 0) hx hb dX5_chances_45 (by decide) ?_
    refine lv_istore (lv' := [(6, .int (nI 0)), (5, .int (nI 0)), (4, .ref a2.1), (0, .ref h2), (1, .int (nI n)), (2, .int (nI (d + 1))), (3, .int (nI x))]) hx hb dX5_chances_46 hl (by decide) rfl (fun ls hl => ?_)
    have round : ∀ (sl : Nat), sl < 2 → ∀ (sum : Nat) (vs1 : List CV) (H1 : Heap) (locs1 : List Loc) (ls1 : Array Slot), vs1.length = 9 → (∀ j, j < k → vs1[j]? = vs[j]?) → va_P D vwCl (shW cQ cI h2 a_rw 9 k as vs1) H1 → va_D A (shW cQ cI h2 a_rw 9 k as vs1) → va_S A s.heap H1 locs1 → lv_has ls1 9 [(0, .ref h2), (1, .int (nI n)), (2, .int (nI (d + 1))), (3, .int (nI x)), (4, .ref a2.1), (5, .int (nI sum)), (6, .int (nI sl))] →
        (∀ (vs3 : List CV) (H3 : Heap) (locs3 : List Loc) (ls3 : Array Slot), vs3.length = 9 → (∀ j, j < k → vs3[j]? = vs[j]?) → va_P D vwCl (shW cQ cI h2 a_rw 9 k as vs3) H3 → va_D A (shW cQ cI h2 a_rw 9 k as vs3) → va_S A s.heap H3 locs3 → lv_has ls3 9 [(0, .ref h2), (1, .int (nI n)), (2, .int (nI (d + 1))), (3, .int (nI x)), (4, .ref a2.1), (5, .int (nI (sum + (if sl = 1 then x * chD m0 kn K H0 n x d (dyD m0 K H0 (slD kn E)) else (10 - x) * chD m0 kn K H0 n x d (dyD m0 K H0 E))))), (6, .int (nI (sl + 1)))] → W p l e (rmCh (d + 1)) s m args below meth c H3 locs3 0 0 Z (F0 m 48 ls3 [])) → W p l e (rmCh (d + 1)) s m args below meth c H1 locs1 0 0 Z (F0 m 48 ls1 []) := by
      intro sl hsl sum vs1 H1 locs1 ls1 hlv1 hsame hP hD hS hl kk
      obtain ⟨wt, hwt⟩ : ∃ wt, wt = if sl = 1 then x else 10 - x := ⟨_, rfl⟩
      obtain ⟨E4, hE4⟩ : ∃ E4, E4 = if sl = 1 then slD kn E else E := ⟨_, rfl⟩
      have hsum : (if sl = 1 then x * chD m0 kn K H0 n x d (dyD m0 K H0 (slD kn E)) else (10 - x) * chD m0 kn K H0 n x d (dyD m0 K H0 E)) = wt * chD m0 kn K H0 n x d (dyD m0 K H0 E4) := by
        rw [hwt, hE4]
        by_cases e1 : sl = 1
        · rw [if_pos e1, if_pos e1, if_pos e1]
        · rw [if_neg e1, if_neg e1, if_neg e1]
      rw [hsum] at kk
      have hv21 : vs1[k - 1]? = some v2 := by rw [hsame _ (by omega)]; exact hv2
      -- the end of a round
      have fin : ∀ (w : Nat) (vs4 : List CV) (H4 : Heap) (locs4 : List Loc) (ls4 : Array Slot), w = sum + wt * chD m0 kn K H0 n x d (dyD m0 K H0 E4) → vs4.length = 9 → (∀ j, j < k → vs4[j]? = vs[j]?) → va_P D vwCl (shW cQ cI h2 a_rw 9 (k + 1) as vs4) H4 → va_D A (shW cQ cI h2 a_rw 9 (k + 1) as vs4) → va_S A s.heap H4 locs4 → lv_has ls4 9 [(0, .ref h2), (1, .int (nI n)), (2, .int (nI (d + 1))), (3, .int (nI x)), (4, .ref a2.1), (5, .int (nI w)), (6, .int (nI sl))] → W p l e (rmCh (d + 1)) s m args below meth c H4 locs4 0 0 Z (F0 m 125 ls4 []) := by
        intro w vs4 H4 locs4 ls4 hw g1 g2 hP hD hS hl
        refine lv_aload_n hx hb dX5_chances_125 rfl (lv_at hl 0 rfl) ?_
        have hdr : wX2_drop (nI (k + 1)) (fun u => u = nI k) := by
          unfold wX2_drop
          have e : nI (k + 1) - (1 : Int32) = nI k := pk_sub (a := k + 1) (b := 1) (by omega)
          have hpos : (0 : Int32) < nI k := (nI_ltI (a := 0) (by omega) (by omega)).mpr h0
          rw [e]
          exact if_pos hpos
        refine k0V_v (As := []) (n := 0) ⟨hx, hb, hml, hown, hts⟩ hK hP hD hS hA (frame_Cv (c_X2_drop l D cI cC cQ h2 a_rw (nI (k + 1)) _ hdr) ((a_rw, .inl (cQ, 9, .inr (.inr (.inr (.inr (rwf as)))))) :: pool cI as vs4)) gX5_chances_X2_drop rfl rfl ⟨rfl, rfl⟩ yoX2_drop ⟨Nat.le_trans (Nat.le_of_ble_eq_true rfl) (Nat.le_add_right 10 (d + 1)), Nat.le_trans (Nat.le_of_ble_eq_true rfl) (Nat.le_add_right 200 (28 * (d + 1)))⟩ (q0 := 0) (ci := 2) rfl rfl rfl rfl hl.1 rfl (Nat.le_of_ble_eq_true rfl) dX5_chances_126 ⟨Nat.zero_le _, Nat.zero_le _⟩ (fun u H locs h hP hD hS => ?_)
        have h : u = nI k := h
        subst h
        refine lv_iinc (v := nI (sl + 1)) (lv' := [(6, .int (nI (sl + 1))), (0, .ref h2), (1, .int (nI n)), (2, .int (nI (d + 1))), (3, .int (nI x)), (4, .ref a2.1), (5, .int (nI w))]) hx hb dX5_chances_129 hl (k := 6) rfl (by rw [← nI_1]; rfl) (by decide) rfl (fun ls hl => ?_)
        refine lv_goto (tgt := 48) hx hb dX5_chances_132 (by decide) ?_
        subst hw
        exact kk vs4 _ _ _ g1 g2 hP hD hS (lv_sub hl [1, 2, 3, 4, 5, 6, 0] rfl)
      have wk : W p l e (rmCh (d + 1)) s m args below meth c H1 locs1 0 0 Z (F0 m 68 ls1 [.int (nI wt)]) → W p l e (rmCh (d + 1)) s m args below meth c H1 locs1 0 0 Z (F0 m 54 ls1 []) := by
        intro kk2
        refine lv_iload hx hb dX5_chances_54 (lv_at hl 6 rfl) ?_
        refine lv_iconst (v := 1) hx hb dX5_chances_56 (by decide) ?_
        by_cases e1 : sl = 1
        · rw [hwt, if_pos e1] at kk2
          refine lv_icmp_ne (tgt := 64) hx hb dX5_chances_57 (by decide) (fun c1 => absurd (by rw [e1]; rfl) c1) (fun c1 => ?_)
          refine lv_iload_n hx hb dX5_chances_60 rfl (lv_at hl 3 rfl) ?_
          exact lv_goto (tgt := 68) hx hb dX5_chances_61 (by decide) kk2
        · rw [hwt, if_neg e1] at kk2
          refine lv_icmp_ne (tgt := 64) hx hb dX5_chances_57 (by decide) (fun c1 => ?_) (fun c1 => absurd ((nI_eq (b := 1) (by omega) (by omega)).mp c1) e1)
          refine lv_bipush (v := 10) hx hb dX5_chances_64 (by decide) ?_
          refine lv_iload_n hx hb dX5_chances_66 rfl (lv_at hl 3 rfl) ?_
          refine lv_isub hx hb dX5_chances_67 ?_
          have e : (10 : Int32) - nI x = nI (10 - x) := pk_sub (a := 10) (b := x) hx10
          rw [e]
          exact kk2
      refine lv_iload hx hb dX5_chances_48 (lv_at hl 6 rfl) ?_
      refine lv_iconst (v := 1) hx hb dX5_chances_50 (by decide) ?_
      refine lv_icmp_gt (tgt := 135) hx hb dX5_chances_51 (by decide) (fun c1 => absurd ((nI_ltI (a := 1) (by omega) (by omega)).mp c1) (by omega)) (fun c1 => ?_)
      refine wk ?_
      refine lv_istore (lv' := [(7, .int (nI wt)), (0, .ref h2), (1, .int (nI n)), (2, .int (nI (d + 1))), (3, .int (nI x)), (4, .ref a2.1), (5, .int (nI sum)), (6, .int (nI sl))]) hx hb dX5_chances_68 hl (by decide) rfl (fun ls hl => ?_)
      refine lv_aload_n hx hb dX5_chances_70 rfl (lv_at hl 1 rfl) ?_
      refine lv_aload hx hb dX5_chances_71 (lv_at hl 5 rfl) ?_
      refine k0V_v (As := [.ref a2.1]) (n := 1) ⟨hx, hb, hml, hown, hts⟩ hK hP hD hS hA (c_X2_pushOwn l D cI cC cQ h2 a_rw 9 k as vs1 a2 v2 h0 (by omega) (by omega) hla hlv1 ha2 hv21) gX5_chances_X2_push rfl rfl ⟨rfl, rfl⟩ yoX2_push ⟨Nat.le_trans (Nat.le_of_ble_eq_true rfl) (Nat.le_add_right 10 (d + 1)), Nat.le_trans (Nat.le_of_ble_eq_true rfl) (Nat.le_add_right 200 (28 * (d + 1)))⟩ (q0 := 0) (ci := 2) rfl rfl rfl rfl hl.1 rfl (Nat.le_of_ble_eq_true rfl) dX5_chances_73 ⟨Nat.zero_le _, Nat.zero_le _⟩ (fun u H locs h hP hD hS => ?_)
      obtain ⟨vs2, hvs2⟩ : ∃ vs2, vs2 = vs1.set k (cpyCV v2 (vs1.getD k v2)) := ⟨_, rfl⟩
      have hP : va_P D vwCl (shW cQ cI h2 a_rw 9 (k + 1) as vs2) H := by rw [hvs2]; exact hP
      have hD : va_D A (shW cQ cI h2 a_rw 9 (k + 1) as vs2) := by rw [hvs2]; exact hD
      have hlv2 : vs2.length = 9 := by rw [hvs2, List.length_set]; exact hlv1
      have hsame2 : ∀ j, j < k → vs2[j]? = vs[j]? := fun j hj => by rw [hvs2, List.getElem?_set_ne (by omega)]; exact hsame j hj
      obtain ⟨v3, hv3⟩ : ∃ v3, v3 = cpyCV v2 (vs1.getD k v2) := ⟨_, rfl⟩
      have hv3k : vs2[k]? = some v3 := by rw [hvs2, hv3]; exact List.getElem?_set_self (by omega)
      have hct3 : ctV m0 kn K H0 E v3 := by rw [hv3]; exact ctV_cpy hm7 hk6 hv
      refine lv_aload_n hx hb dX5_chances_76 rfl (lv_at hl 1 rfl) ?_
      refine k0V_q (As := []) (n := 0) ⟨hx, hb, hml, hown, hts⟩ hK hP hD hS hA (frame_Cq (c_X2_last l D cI cC cQ h2 a_rw 9 (rwf as) (k + 1) (by omega) (by omega)) (pool cI as vs2)) gX5_chances_X2_last rfl rfl ⟨rfl, rfl⟩ yoX2_last ⟨Nat.le_trans (Nat.le_of_ble_eq_true rfl) (Nat.le_add_right 10 (d + 1)), Nat.le_trans (Nat.le_of_ble_eq_true rfl) (Nat.le_add_right 200 (28 * (d + 1)))⟩ (q0 := 0) (ci := 2) rfl rfl rfl rfl hl.1 rfl (Nat.le_of_ble_eq_true rfl) dX5_chances_77 ⟨Nat.zero_le _, Nat.zero_le _⟩ (fun r u H locs h hP hD hS => ?_)
      have hr0 : r = some a.1 := by
        rw [h, if_neg (by omega)]
        exact ek2
      subst hr0
      refine lv_astore (x := a.1) (lv' := [(8, .ref a.1), (7, .int (nI wt)), (0, .ref h2), (1, .int (nI n)), (2, .int (nI (d + 1))), (3, .int (nI x)), (4, .ref a2.1), (5, .int (nI sum)), (6, .int (nI sl))]) hx hb dX5_chances_80 hl (by decide) rfl (fun ls hl => ?_)
      refine lv_aload hx hb dX5_chances_82 (lv_at hl 0 rfl) ?_
      refine lv_ifnull hx hb dX5_chances_84 ?_
      refine lv_iload hx hb dX5_chances_87 (lv_at hl 1 rfl) ?_
      have hwt10 : wt ≤ 10 := by rw [hwt]; split <;> omega
      refine lv_if_le (tgt := 125) hx hb dX5_chances_89 (by decide) (fun c1 => ?_) (fun c1 => ?_)
      · have hw0 : wt = 0 := by have := (nI_leI (b := 0) (by omega) (by omega)).mp c1; omega
        exact fin sum vs2 _ _ _ (by rw [hw0, Nat.zero_mul, Nat.add_zero]) hlv2 hsame2 hP hD hS (lv_sub hl [2, 3, 4, 5, 6, 7, 8] rfl)
      · have hpool : ∀ v : CV, List.Perm (α := Nat × va_E) (shW cQ cI h2 a_rw 9 (k + 1) as (vs2.set k v)) (cb cI a v ++ ([(h2, .inr (2, [.ref a_rw, .int (nI (k + 1))])), (a_rw, .inl (cQ, 9, .inr (.inr (.inr (.inr (rwf as))))))] ++ pool cI (as.eraseIdx k) (vs2.eraseIdx k))) := fun v => ((pool_set cI k as vs2 a v ha (by omega)).append_left _).trans (List.perm_append_comm_assoc _ _ _)
        have hset : vs2.set k v3 = vs2 := by
          apply List.ext_getElem?
          intro j
          by_cases e : j = k
          · rw [e, List.getElem?_set_self (by omega)]; exact hv3k.symm
          · rw [List.getElem?_set_ne (by omega)]
        have hP : va_P D vwCl (cb cI a v3 ++ ([(h2, .inr (2, [.ref a_rw, .int (nI (k + 1))])), (a_rw, .inl (cQ, 9, .inr (.inr (.inr (.inr (rwf as))))))] ++ pool cI (as.eraseIdx k) (vs2.eraseIdx k))) H := vaP_perm (hpool v3) (by rw [hset]; exact hP)
        have hD : va_D A (cb cI a v3 ++ ([(h2, .inr (2, [.ref a_rw, .int (nI (k + 1))])), (a_rw, .inl (cQ, 9, .inr (.inr (.inr (.inr (rwf as))))))] ++ pool cI (as.eraseIdx k) (vs2.eraseIdx k))) := vaD_perm (hpool v3) (by rw [hset]; exact hD)
        have hdE4 : dd E4 = dd E := by
          rw [hE4]
          split
          · exact slD_dd
          · rfl
        have live : ∀ (v4 : CV) (H4 : Heap) (locs4 : List Loc), okD m0 kn K H0 E4 → ctV m0 kn K H0 E4 v4 → va_P D vwCl (cb cI a v4 ++ ([(h2, .inr (2, [.ref a_rw, .int (nI (k + 1))])), (a_rw, .inl (cQ, 9, .inr (.inr (.inr (.inr (rwf as))))))] ++ pool cI (as.eraseIdx k) (vs2.eraseIdx k))) H4 → va_D A (cb cI a v4 ++ ([(h2, .inr (2, [.ref a_rw, .int (nI (k + 1))])), (a_rw, .inl (cQ, 9, .inr (.inr (.inr (.inr (rwf as))))))] ++ pool cI (as.eraseIdx k) (vs2.eraseIdx k))) → va_S A s.heap H4 locs4 → W p l e (rmCh (d + 1)) s m args below meth c H4 locs4 0 0 Z (F0 m 103 ls []) := by
          intro v4 H4 locs4 ok4 hct4 hP hD hS
          refine lv_aload hx hb dX5_chances_103 (lv_at hl 0 rfl) ?_
          refine k0V_v (As := []) (n := 0) ⟨hx, hb, hml, hown, hts⟩ hK hP hD hS hA (frame_Cv (c_X0_live l D cI cC cQ a.1 a.2.1 a.2.2.1 a.2.2.2.1 a.2.2.2.2.1 a.2.2.2.2.2.1 a.2.2.2.2.2.2 v4.1 v4.2.1 v4.2.2.1 v4.2.2.2.1 v4.2.2.2.2.1 v4.2.2.2.2.2.1 v4.2.2.2.2.2.2.1 v4.2.2.2.2.2.2.2.1 v4.2.2.2.2.2.2.2.2 (fun ho be dy => ctC m0 kn K H0 (dyD m0 K H0 E4) v4.1 v4.2.1 v4.2.2.1 v4.2.2.2.1 ho be v4.2.2.2.2.2.2.1 v4.2.2.2.2.2.2.2.1 dy) (s_live ok4 hct4 (fun _ _ _ g => g))) _) gX5_chances_X0_live rfl rfl ⟨rfl, rfl⟩ yoX0_live ⟨Nat.le_trans (Nat.le_of_ble_eq_true rfl) (Nat.le_add_right 10 (d + 1)), Nat.le_trans (Nat.le_of_ble_eq_true rfl) (Nat.le_add_right 200 (28 * (d + 1)))⟩ (q0 := 0) (ci := 0) rfl rfl rfl rfl hl.1 rfl (Nat.le_of_ble_eq_true rfl) dX5_chances_105 ⟨Nat.zero_le _, Nat.zero_le _⟩ (fun u H locs h hP hD hS => ?_)
          obtain ⟨ho5, be5, dy5⟩ := u
          obtain ⟨v5, hv5⟩ : ∃ v5 : CV, v5 = (v4.1, v4.2.1, v4.2.2.1, v4.2.2.2.1, ho5, be5, v4.2.2.2.2.2.2.1, v4.2.2.2.2.2.2.2.1, dy5) := ⟨_, rfl⟩
          have hct5 : ctV m0 kn K H0 (dyD m0 K H0 E4) v5 := by rw [hv5]; exact h
          have hP : va_P D vwCl (shW cQ cI h2 a_rw 9 (k + 1) as (vs2.set k v5)) H := vaP_perm (hpool v5).symm (by rw [hv5]; exact hP)
          have hD : va_D A (shW cQ cI h2 a_rw 9 (k + 1) as (vs2.set k v5)) := vaD_perm (hpool v5).symm (by rw [hv5]; exact hD)
          refine lv_iload hx hb dX5_chances_108 (lv_at hl 7 rfl) ?_
          refine lv_iload hx hb dX5_chances_110 (lv_at hl 1 rfl) ?_
          refine lv_aload_n hx hb dX5_chances_112 rfl (lv_at hl 2 rfl) ?_
          refine lv_iload_n hx hb dX5_chances_113 rfl (lv_at hl 3 rfl) ?_
          refine lv_iload_n hx hb dX5_chances_114 rfl (lv_at hl 4 rfl) ?_
          refine lv_iconst (v := 1) hx hb dX5_chances_115 (by decide) ?_
          refine lv_isub hx hb dX5_chances_116 ?_
          have ed : nI (d + 1) - (1 : Int32) = nI d := pk_sub (a := d + 1) (b := 1) (by omega)
          rw [ed]
          refine lv_iload_n hx hb dX5_chances_117 rfl (lv_at hl 5 rfl) ?_
          refine k0S_i (As := [.ref h2, .int (nI n), .int (nI d), .int (nI x)]) (n := 4) ⟨hx, hb, hml, hown, hts⟩ hK hP hD hS hA (ih (by omega) (k + 1) (vs2.set k v5) a v5 (dyD m0 K H0 E4) (dyD_ok ok4 (by rw [hdE4]; omega)) (by show dd E4 + 1 + d < 4000; rw [hdE4]; omega) hct5 (by omega) (by omega) (by rw [List.length_set]; exact hlv2) ha (List.getElem?_set_self (by omega))) gX5_chances_X5_chances rfl ⟨rfl, rfl⟩ yoX5_chances ⟨by show 10 + d + 1 ≤ 10 + (d + 1); omega, by show 8 + (9 + 11) + (200 + 28 * d) ≤ 200 + 28 * (d + 1); omega⟩ rfl hl.1 rfl (Nat.le_of_ble_eq_true rfl) dX5_chances_118 ⟨Nat.zero_le _, Nat.zero_le _⟩ (fun r u H locs h hP hD hS => ?_)
          obtain ⟨hr, hu1, hu2⟩ := h
          subst hr
          refine lv_imul hx hb dX5_chances_121 ?_
          refine lv_iadd hx hb dX5_chances_122 ?_
          rw [pk_mul, nI_add]
          refine lv_istore (lv' := [(5, .int (nI (sum + wt * chD m0 kn K H0 n x d (dyD m0 K H0 E4)))), (8, .ref a.1), (7, .int (nI wt)), (0, .ref h2), (1, .int (nI n)), (2, .int (nI (d + 1))), (3, .int (nI x)), (4, .ref a2.1), (6, .int (nI sl))]) hx hb dX5_chances_123 hl (by decide) rfl (fun ls hl => ?_)
          refine fin _ u _ _ _ rfl hu1 (fun j hj => ?_) hP hD hS (lv_sub hl [3, 4, 5, 6, 7, 0, 8] rfl)
          rw [hu2 j (by omega), List.getElem?_set_ne (by omega)]
          exact hsame2 j hj
        refine lv_iload hx hb dX5_chances_92 (lv_at hl 8 rfl) ?_
        refine lv_iconst (v := 1) hx hb dX5_chances_94 (by decide) ?_
        by_cases e1 : sl = 1
        · rw [if_pos e1] at hE4
          refine lv_icmp_ne (tgt := 103) hx hb dX5_chances_95 (by decide) (fun c1 => absurd (by rw [e1]; rfl) c1) (fun c1 => ?_)
          refine lv_aload hx hb dX5_chances_98 (lv_at hl 0 rfl) ?_
          refine k0V_v (As := []) (n := 0) ⟨hx, hb, hml, hown, hts⟩ hK hP hD hS hA (frame_Cv (c_X0_slipLowest l D cI cC cQ a.1 a.2.1 a.2.2.1 a.2.2.2.1 a.2.2.2.2.1 a.2.2.2.2.2.1 a.2.2.2.2.2.2 v3.1 v3.2.1 v3.2.2.1 v3.2.2.2.1 v3.2.2.2.2.1 v3.2.2.2.2.2.1 v3.2.2.2.2.2.2.1 v3.2.2.2.2.2.2.2.1 v3.2.2.2.2.2.2.2.2 (fun ho => ctC m0 kn K H0 (slD kn E) v3.1 v3.2.1 v3.2.2.1 v3.2.2.2.1 ho v3.2.2.2.2.2.1 v3.2.2.2.2.2.2.1 v3.2.2.2.2.2.2.2.1 v3.2.2.2.2.2.2.2.2) (s_slip ok hct3 (fun _ g => g))) _) gX5_chances_X0_slipLowest rfl rfl ⟨rfl, rfl⟩ yoX0_slipLowest ⟨Nat.le_trans (Nat.le_of_ble_eq_true rfl) (Nat.le_add_right 10 (d + 1)), Nat.le_trans (Nat.le_of_ble_eq_true rfl) (Nat.le_add_right 200 (28 * (d + 1)))⟩ (q0 := 0) (ci := 0) rfl rfl rfl rfl hl.1 rfl (Nat.le_of_ble_eq_true rfl) dX5_chances_100 ⟨Nat.zero_le _, Nat.zero_le _⟩ (fun u H locs h hP hD hS => ?_)
          exact live (v3.1, v3.2.1, v3.2.2.1, v3.2.2.2.1, u, v3.2.2.2.2.2.1, v3.2.2.2.2.2.2.1, v3.2.2.2.2.2.2.2.1, v3.2.2.2.2.2.2.2.2) _ _ (by rw [hE4]; exact slD_ok ok) (by rw [hE4]; exact h) hP hD hS
        · rw [if_neg e1] at hE4
          refine lv_icmp_ne (tgt := 103) hx hb dX5_chances_95 (by decide) (fun c1 => ?_) (fun c1 => absurd ((nI_eq (b := 1) (by omega) (by omega)).mp c1) e1)
          exact live v3 _ _ (by rw [hE4]; exact ok) (by rw [hE4]; exact hct3) hP hD hS
    refine round 0 (by omega) 0 vs _ _ _ hlv (fun _ _ => rfl) hP hD hS (lv_sub hl [3, 4, 5, 6, 2, 1, 0] rfl) (fun vs3 H3 locs3 ls3 g1 g2 hP hD hS hl => ?_)
    refine round 1 (by omega) _ vs3 _ _ _ g1 g2 hP hD hS hl (fun vs4 H4 locs4 ls4 g3 g4 hP hD hS hl => ?_)
    refine lv_iload hx hb dX5_chances_48 (lv_at hl 6 rfl) ?_
    refine lv_iconst (v := 1) hx hb dX5_chances_50 (by decide) ?_
    refine lv_icmp_gt (tgt := 135) hx hb dX5_chances_51 (by decide) (fun c1 => ?_) (fun c1 => absurd (by decide) c1)
    refine lv_iload hx hb dX5_chances_135 (lv_at hl 5 rfl) ?_
    refine hret _ vs4 _ _ _ ls4 ⟨?_, g3, g4⟩ hP hD hS dX5_chances_137
    congr 1
    rw [if_neg (by decide), if_pos rfl, Nat.zero_add]
    rfl
