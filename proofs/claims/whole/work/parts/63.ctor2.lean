/-! the shelf's constructor -/
def zCV : CV := (fun _ => 0, fun _ => 0, fun _ => 0, fun _ => 0, fun _ => 0, fun _ => 0, 0, 0, 0)
abbrev rmSh (N : Nat) : Room := { frames := 2, cells := 1 + 7 * N, slots := N + 85 * N, locals := 32 }
theorem yoX2_init : yX2_init.cls ≠ "java/lang/invoke/MethodHandle" ∧ yX2_init.cls ≠ "java/lang/invoke/VarHandle" ∧ (parseMethodDescriptor yX2_init.desc).map (fun d => d.parameters.length) = some 1 := by decide +kernel
theorem rwf_nil : rwf [] = fun _ => none := by funext i; simp [rwf]
theorem rwf_snoc (as : List CA) (a : CA) : va_up (rwf as) as.length (some a.1) = rwf (as ++ [a]) := by
  funext j
  by_cases e : j = as.length
  · subst e
    rw [va_up_self]
    simp [rwf]
  · rw [va_up_ne _ _ e]
    by_cases h : j < as.length
    · simp [rwf, List.getElem?_append_left h]
    · simp [rwf, List.getElem?_eq_none (show as.length ≤ j by omega), List.getElem?_eq_none (show (as ++ [a]).length ≤ j by rw [List.length_append, List.length_singleton]; omega)]
theorem pool_snoc (cI : ClassId) (as : List CA) (vs : List CV) (a : CA) (v : CV) (h : as.length = vs.length) : pool cI as vs ++ cb cI a v = pool cI (as ++ [a]) (vs ++ [v]) := by
  rw [pool_append cI as [a] vs [v] h]
  congr 1
theorem perm9 {α : Type} (b c p : List α) : ((c ++ p) ++ b).Perm (b ++ (c ++ p)) := List.perm_append_comm
theorem perm9b {α : Type} (b c p : List α) : (b ++ (c ++ p)).Perm (c ++ (p ++ b)) := by
  rw [← List.append_assoc c p b]
  exact List.perm_append_comm
theorem permA {α : Type} (E P S Q : List α) : ((E ++ P) ++ (S ++ Q)).Perm ((E ++ S) ++ (P ++ Q)) := by
  simp only [List.append_assoc]
  exact (List.perm_append_comm_assoc P S Q).append_left E
set_option maxHeartbeats 4000000 in
set_option maxRecDepth 100000 in
theorem c_X2_init (K V : Nat) (b : Nat → Int32) (l : Launch) (D : va_G) (cI cC cQ : ClassId) (h2 N : Nat) (hN9 : N ≤ 9) : Ck (S := Nat × ShA N) K V b l D cI cC cQ yX2_init wsX2_init (rmSh N) [.ref h2, .int (nI N)] [(h2, .inr (2, [.null, .int 0]))] (fun u => [(h2, .inr (2, [.ref u.1, .int 0])), (u.1, .inl (cQ, N, .inr (.inr (.inr (.inr (rwf u.2.1))))))] ++ pool cI u.2.1 (List.replicate N zCV)) (fun _ => True) := by
  refine Ck_mk (cc := cX2_init) (maxL := 3) (by decide) rfl (Nat.le_of_ble_eq_true rfl) rfl ?_
  intro p e s m args below meth c A Z ls hx hb hml hown hts hK hE hA hP hD hin hret hl
  have hS : va_S A s.heap s.heap [] := va_S.rf
  have hin2 : ∀ w ∈ u_ws RX2 TX2 2, w ∈ wsX2_init := by decide +kernel
  have hin0 : ∀ w ∈ u_ws RX0 TX0 9, w ∈ wsX2_init := by decide +kernel
  have k_c := hts (.classLink RX2 7 RX0) (by decide +kernel)
  have k_f := hts (.fieldLink RX2 9 "DoubtCourt$Shelf" "rows" "[LDoubtCourt$Court;") (by decide +kernel)
  have k_i := hts (.instantiable RX0 9) (by decide +kernel)
  have k_n := hts (.initialized RX0) (by decide +kernel)
  have k_m := hts (.instanceMethod yX0_init) (by decide +kernel)
  have hl : lv_has ls 3 [(0, .ref h2), (1, .int (nI N))] := hl
  refine lv_aload_n hx hb dX2_init_0 rfl (lv_at hl 0 rfl) ?_
  refine W.objInit hx hb hown (hts (.methodLink RX2 1 objectInit) (by decide +kernel)) (hts (.instanceMethod objectInit) (by decide +kernel)) (hts (.code objectInit ⟨#[0xb1]⟩ 1 none) (by decide +kernel)) rfl (by rw [hml]; exact hl.1) rfl dX2_init_1 (Nat.le_of_ble_eq_true rfl) (Nat.le_of_ble_eq_true rfl) ?_
  refine W.eq (g2 := F0 m 4 ls []) rfl ?_
  refine lv_aload_n hx hb dX2_init_4 rfl (lv_at hl 0 rfl) ?_
  refine lv_iload_n hx hb dX2_init_5 rfl (lv_at hl 1 rfl) ?_
  refine lv_if_ge (tgt := 13) hx hb dX2_init_6 (by decide) (fun c1 => ?_) (fun c1 => absurd ((nI_leI (a := 0) (by omega) (by omega)).mpr (Nat.zero_le _)) c1)
  refine lv_iload_n hx hb dX2_init_13 rfl (lv_at hl 1 rfl) ?_
  refine z_newq (N := N) hx hb hown k_c hE.1 hK.1 hP hD hS hA (nI_pos (by omega)) (nI_clamp (by omega)) (by omega) (by show 0 + 1 ≤ 1 + 7 * N; omega) (by show 0 + N ≤ N + 85 * N; omega) dX2_init_14 (fun q H hP hD hS => ?_)
  refine va_putF (D := D) (ci := 2) (v := .ref q) (ty := .array (.object "DoubtCourt$Court")) (C := RX2) (T := TX2) (N := 2) hx hb hts hin2 tyX2 tyX2_ok nmX2 hown hK.1 hP hD hS 0 rfl rfl 0 (by decide) k_f (fun _ h9 => h9) rfl hin rfl (by decide +kernel) rfl rfl (Nat.le_of_ble_eq_true rfl) dX2_init_17 (fun H locs hP hD hS => ?_)
  have hP : va_P D vwCl ([(h2, .inr (2, [.ref q, .int 0])), (q, .inl (cQ, N, .inr (.inr (.inr (.inr (rwf []))))))] ++ pool cI [] (List.replicate 0 zCV)) H := by rw [rwf_nil]; exact hP
  have hD : va_D A ([(h2, .inr (2, [.ref q, .int 0])), (q, .inl (cQ, N, .inr (.inr (.inr (.inr (rwf []))))))] ++ pool cI [] (List.replicate 0 zCV)) := by rw [rwf_nil]; exact hD
  refine lv_iconst (v := 0) hx hb dX2_init_20 (by decide) ?_
  refine lv_istore_n (lv' := [(2, .int 0), (0, .ref h2), (1, .int (nI N))]) hx hb dX2_init_21 rfl hl (by decide) rfl (fun ls hl => ?_)
  have loop : ∀ (r i : Nat) (as : List CA) (H : Heap) (locs : List Loc) (ls : Array Slot), i + r = N → as.length = i → va_P D vwCl ([(h2, .inr (2, [.ref q, .int 0])), (q, .inl (cQ, N, .inr (.inr (.inr (.inr (rwf as))))))] ++ pool cI as (List.replicate i zCV)) H → va_D A ([(h2, .inr (2, [.ref q, .int 0])), (q, .inl (cQ, N, .inr (.inr (.inr (.inr (rwf as))))))] ++ pool cI as (List.replicate i zCV)) → va_S A s.heap H locs → lv_has ls 3 [(0, .ref h2), (1, .int (nI N)), (2, .int (nI i))] → W p l e (rmSh N) s m args below meth c H locs (1 + 7 * i) (N + 85 * i) Z (F0 m 22 ls []) := by
    intro r
    induction r with
    | zero =>
      intro i as H locs ls hi has hP hD hS hl
      have hi : i = N := by omega
      subst hi
      refine lv_iload_n hx hb dX2_init_22 rfl (lv_at hl 2 rfl) ?_
      refine lv_aload_n hx hb dX2_init_23 rfl (lv_at hl 0 rfl) ?_
      refine va_get (D := D) (ci := 2) (v := .ref q) (C := RX2) (T := TX2) (N := 2) hx hb hts hin2 hown hK.1 hP 0 rfl rfl 0 (by decide) k_f (fun _ h9 => h9) rfl dX2_init_24 ?_
      refine va_alen (v := nI i) hx hb hK.1 hP 1 2 rfl rfl rfl dX2_init_27 ?_
      refine lv_icmp_ge (tgt := 50) hx hb dX2_init_28 (by decide) (fun c1 => ?_) (fun c1 => absurd (Int32.le_refl _) c1)
      exact hret (q, ⟨as, has⟩) _ _ _ ls trivial hP hD hS dX2_init_50
    | succ r ih =>
      intro i as H locs ls hi has hP hD hS hl
      refine lv_iload_n hx hb dX2_init_22 rfl (lv_at hl 2 rfl) ?_
      refine lv_aload_n hx hb dX2_init_23 rfl (lv_at hl 0 rfl) ?_
      refine va_get (D := D) (ci := 2) (v := .ref q) (C := RX2) (T := TX2) (N := 2) hx hb hts hin2 hown hK.1 hP 0 rfl rfl 0 (by decide) k_f (fun _ h9 => h9) rfl dX2_init_24 ?_
      refine va_alen (v := nI N) hx hb hK.1 hP 1 2 rfl rfl rfl dX2_init_27 ?_
      refine lv_icmp_ge (tgt := 50) hx hb dX2_init_28 (by decide) (fun c1 => absurd ((nI_leI (by omega) (by omega)).mp c1) (by omega)) (fun c1 => ?_)
      refine lv_aload_n hx hb dX2_init_31 rfl (lv_at hl 0 rfl) ?_
      refine va_get (D := D) (ci := 2) (v := .ref q) (C := RX2) (T := TX2) (N := 2) hx hb hts hin2 hown hK.1 hP 0 rfl rfl 0 (by decide) k_f (fun _ h9 => h9) rfl dX2_init_32 ?_
      refine lv_iload_n hx hb dX2_init_35 rfl (lv_at hl 2 rfl) ?_
      refine va_new (ci := 0) (fs := [.null, .null, .null, .null, .null, .null, .int 0, .int 0, .int 0]) (C := RX0) (T := TX0) (N := 9) hx hb hts hin0 tyX0 tyX0_ok hown k_c k_i k_n hK.1 hP hD hS hA rfl (fun j hj => by rcases (show j = 0 ∨ j = 1 ∨ j = 2 ∨ j = 3 ∨ j = 4 ∨ j = 5 ∨ j = 6 ∨ j = 7 ∨ j = 8 by omega) with rfl | rfl | rfl | rfl | rfl | rfl | rfl | rfl | rfl <;> rfl) (by show 1 + 7 * i + 1 ≤ 1 + 7 * N; omega) (by show N + 85 * i + 9 ≤ N + 85 * N; omega) dX2_init_36 (fun q0 H hP hD hS => ?_)
      refine lv_dup hx hb dX2_init_39 rfl ?_
      refine kIN (wc := [(q0, .inr (0, [.null, .null, .null, .null, .null, .null, .int 0, .int 0, .int 0]))]) (As := []) (n := 0) (rest := [.ref q0, .int (nI i), .ref q]) ⟨hx, hb, hml, hown, hts⟩ hK hE hP hD hS hA (c_X0_init K V b l D cI cC cQ q0) gX2_init_X0_init_n15 rfl k_n (hK.2 _ (List.mem_of_getElem? (i := 12) rfl)) k_m rfl yoX0_init ⟨Nat.le_of_ble_eq_true rfl, Nat.le_of_ble_eq_true rfl⟩ rfl hl.1 rfl (Nat.le_of_ble_eq_true rfl) dX2_init_40 ⟨by show 1 + 7 * i + 1 + 6 ≤ 1 + 7 * N; omega, by show N + 85 * i + 9 + 76 ≤ N + 85 * N; omega⟩ (fun u H locs _ hP hD hS => ?_)
      refine W.widen (k := 1 + 7 * (i + 1)) (n := N + 85 * (i + 1)) (by show 1 + 7 * i + 1 + 6 ≤ 1 + 7 * (i + 1); omega) (by show N + 85 * i + 9 + 76 ≤ N + 85 * (i + 1); omega) ?_
      obtain ⟨a, ha⟩ : ∃ a : CA, a = (q0, u.1, u.2.1, u.2.2.1, u.2.2.2.1, u.2.2.2.2.1, u.2.2.2.2.2) := ⟨_, rfl⟩
      have ha1 : a.1 = q0 := by rw [ha]
      have hP : va_P D vwCl (([(h2, .inr (2, [.ref q, .int 0])), (q, .inl (cQ, N, .inr (.inr (.inr (.inr (rwf as))))))] ++ pool cI as (List.replicate i zCV)) ++ cb cI a zCV) H := by rw [ha]; exact hP
      have hD : va_D A (([(h2, .inr (2, [.ref q, .int 0])), (q, .inl (cQ, N, .inr (.inr (.inr (.inr (rwf as))))))] ++ pool cI as (List.replicate i zCV)) ++ cb cI a zCV) := by rw [ha]; exact hD
      have hP := vaP_perm (perm9 (α := Nat × va_E) _ _ _) hP
      have hD := vaD_perm (perm9 (α := Nat × va_E) _ _ _) hD
      rw [← ha1]
      refine va_astq hx hb hK.1 hP hD hS 8 2 0 0 rfl rfl rfl rfl (vp_in_nI (show i < N by omega) (by omega)) dX2_init_43 (fun H locs hP hD hS => ?_)
      have eup : va_up (rwf as) (nI i).toNatClampNeg (some a.1) = rwf (as ++ [a]) := by
        rw [nI_clamp (by omega), ← has]
        exact rwf_snoc as a
      have hP : va_P D vwCl (cb cI a zCV ++ ([(h2, .inr (2, [.ref q, .int 0])), (q, .inl (cQ, N, .inr (.inr (.inr (.inr (rwf (as ++ [a])))))))] ++ pool cI as (List.replicate i zCV))) H := by rw [← eup]; exact hP
      have hD : va_D A (cb cI a zCV ++ ([(h2, .inr (2, [.ref q, .int 0])), (q, .inl (cQ, N, .inr (.inr (.inr (.inr (rwf (as ++ [a])))))))] ++ pool cI as (List.replicate i zCV))) := by rw [← eup]; exact hD
      have hP := vaP_perm (perm9b (α := Nat × va_E) _ _ _) hP
      have hD := vaD_perm (perm9b (α := Nat × va_E) _ _ _) hD
      have ep : pool cI as (List.replicate i zCV) ++ cb cI a zCV = pool cI (as ++ [a]) (List.replicate (i + 1) zCV) := by
        rw [List.replicate_succ']
        exact pool_snoc cI as _ a zCV (by rw [List.length_replicate]; exact has)
      rw [ep] at hP hD
      refine lv_iinc (v := nI (i + 1)) (lv' := [(2, .int (nI (i + 1))), (0, .ref h2), (1, .int (nI N))]) hx hb dX2_init_44 hl (k := 2) rfl (nI_1 i) (by decide) rfl (fun ls hl => ?_)
      refine lv_goto (tgt := 22) hx hb dX2_init_47 (by decide) ?_
      exact ih (i + 1) (as ++ [a]) _ _ _ (by omega) (by rw [List.length_append, has]; rfl) hP hD hS (lv_sub hl [1, 2, 0] rfl)
  refine W.widen (k := 1 + 7 * 0) (n := N + 85 * 0) (by omega) (by omega) ?_
  exact loop N 0 [] _ _ _ (by omega) rfl hP hD hS (lv_sub hl [1, 2, 0] rfl)
