section ZQ
variable {p : Program} {l : Launch} {e : Env} {R : Room} {s : State} {m : MethodId} {args : Array Value} {below : List Frame} {meth : Method} {c : Code} {H : Heap} {locs : List Loc} {cells slots : Nat} {Q : State → Prop}
variable {cc : ByteArray} {pc : Nat} {ls : Array Slot} {rest : List Value} {D : va_G} {A : Nat → Prop} {a : Nat} {cI cC cQ : ClassId} {ws : va_W} {H0 : Heap} {n k v : Nat} {f : Nat → Option Nat} {i : Int32}
theorem z_aald (hexec : p.tables.exec = Jvm.exec) (hb : c.code = cc) (hK : va_K D vwCl (tyz cI cC cQ) s) (hP : va_P D vwCl ws H) (q0 : Nat) (ha : ws[q0]? = some (a, .inl (cQ, n, .inr (.inr (.inr (.inr f)))))) (hk : i.toNatClampNeg = k) (hin : vp_in i n) (hv : f k = some v) (hdg : decode cc pc = .ok (.aaload, 1))
    (kk : W p l e R s m args below meth c H locs cells slots Q (F0 m (pc + 1) ls (.ref v :: rest))) : W p l e R s m args below meth c H locs cells slots Q (F0 m pc ls (.int i :: .ref a :: rest)) := by
  subst hk
  refine va_aldq hexec hb hK hP q0 2 ha rfl hin hdg ?_
  rw [hv]
  exact kk
theorem z_aast {fs : List Value} (hexec : p.tables.exec = Jvm.exec) (hb : c.code = cc) (hK : va_K D vwCl (tyz cI cC cQ) s) (hP : va_P D vwCl ws H) (hD : va_D A ws) (hS : va_S A H0 H locs) (q0 : Nat) (ha : ws[q0]? = some (a, .inl (cQ, n, .inr (.inr (.inr (.inr f)))))) (hv : (v, (.inr (0, fs) : va_E)) ∈ ws) (hk : i.toNatClampNeg = k) (hin : vp_in i n) (hdg : decode cc pc = .ok (.aastore, 1))
    (kk : ∀ (H1 : Heap) (locs1 : List Loc), va_P D vwCl (ws.set q0 (a, .inl (cQ, n, .inr (.inr (.inr (.inr (va_up f k (some v)))))))) H1 → va_D A (ws.set q0 (a, .inl (cQ, n, .inr (.inr (.inr (.inr (va_up f k (some v)))))))) → va_S A H0 H1 locs1 → W p l e R s m args below meth c H1 locs1 cells slots Q (F0 m (pc + 1) ls rest)) : W p l e R s m args below meth c H locs cells slots Q (F0 m pc ls (.ref v :: .int i :: .ref a :: rest)) := by
  subst hk
  obtain ⟨qk, hq⟩ := List.getElem?_of_mem hv
  exact va_astq hexec hb hK hP hD hS q0 2 qk 0 ha (r := (RX0, TX0, 9)) rfl hq rfl hin hdg kk
end ZQ
theorem sh_m1 {k : Nat} (h : 0 < k) (h2 : k < 2 ^ 31) : nI k - 1 = nI (k - 1) := pk_sub (a := k) (b := 1) h
abbrev rmX2_last : Room := { frames := 0, cells := 0, slots := 0, locals := 0 }
theorem yoX2_last : yX2_last.cls ≠ "java/lang/invoke/MethodHandle" ∧ yX2_last.cls ≠ "java/lang/invoke/VarHandle" ∧ (parseMethodDescriptor yX2_last.desc).map (fun d => d.parameters.length) = some 0 := by decide +kernel
set_option maxHeartbeats 4000000 in
set_option maxRecDepth 100000 in
/-- Shelf.last: the row of the last used place -/
theorem c_X2_last (l : Launch) (D : va_G) (cI cC cQ : ClassId) (h2 a_rw N : Nat) (rw : Nat → Option Nat) (k : Nat) (hN : N < 1000) (hk : k ≤ N) : Cq (S := Unit) l D cI cC cQ yX2_last wsX2_last rmX2_last [.ref h2] (shc cQ h2 a_rw N rw (nI k)) (fun _ => shc cQ h2 a_rw N rw (nI k)) (fun r _ => r = if k = 0 then none else rw (k - 1)) := by
  refine Cq_mk (cc := cX2_last) (maxL := 2) (by decide) rfl (Nat.le_of_ble_eq_true rfl) ?_
  intro p e s m args below meth c A Z ls hx hb hml hown hts hK hA hP hD hret hl
  have hS : va_S A s.heap s.heap [] := va_S.rf
  have hin2 : ∀ w ∈ u_ws RX2 TX2 2, w ∈ wsX2_last := by decide +kernel
  have k_0 := hts (.fieldLink RX2 16 "DoubtCourt$Shelf" "used" "I") (by decide +kernel)
  have k_1 := hts (.fieldLink RX2 9 "DoubtCourt$Shelf" "rows" "[LDoubtCourt$Court;") (by decide +kernel)
  have hl : lv_has ls 2 [(0, .ref h2)] := hl
  refine lv_aload_n hx hb dX2_last_0 rfl (lv_at hl 0 rfl) ?_
  refine va_get (D := D) (ci := 2) (v := .int (nI k)) (C := RX2) (T := TX2) (N := 2) hx hb hts hin2 hown hK.1 hP 0 rfl rfl 1 (by decide) k_0 (fun _ h9 => h9) rfl dX2_last_1 ?_
  refine lv_iconst (v := 1) hx hb dX2_last_4 (by decide) ?_
  refine lv_isub hx hb dX2_last_5 ?_
  refine lv_istore_n (lv' := [(1, .int (nI k - 1)), (0, .ref h2)]) hx hb dX2_last_6 rfl hl (by decide) rfl (fun ls hl => ?_)
  refine lv_iload_n hx hb dX2_last_7 rfl (lv_at hl 0 rfl) ?_
  refine lv_if_lt (tgt := 29) hx hb dX2_last_8 (by decide) (fun c1 => ?_) (fun c1 => ?_)
  · refine lv_null (ls := ls) hx hb dX2_last_29 ?_
    have hk0 : k = 0 := by
      rcases Nat.eq_zero_or_pos k with h | h
      · exact h
      · rw [sh_m1 h (by omega)] at c1
        exact absurd c1 (nI_pos (by omega))
    exact hret none () s.heap [] _ ls (by rw [if_pos hk0]) hP hD hS dX2_last_30
  · have hk0 : 0 < k := by
      rcases Nat.eq_zero_or_pos k with h | h
      · subst h; exact absurd (by decide) c1
      · exact h
    rw [sh_m1 hk0 (by omega)] at hl
    refine lv_iload_n (x := nI (k - 1)) hx hb dX2_last_11 rfl (lv_at hl 0 rfl) ?_
    refine lv_aload_n hx hb dX2_last_12 rfl (lv_at hl 1 rfl) ?_
    refine va_get (D := D) (ci := 2) (v := .ref a_rw) (C := RX2) (T := TX2) (N := 2) hx hb hts hin2 hown hK.1 hP 0 rfl rfl 0 (by decide) k_1 (fun _ h9 => h9) rfl dX2_last_13 ?_
    refine va_alen (v := nI N) hx hb hK.1 hP 1 2 rfl rfl rfl dX2_last_16 ?_
    refine lv_icmp_ge (tgt := 29) hx hb dX2_last_17 (by decide) (fun c2 => ?_) (fun c2 => ?_)
    · exact absurd ((nI_leI (by omega) (by omega)).mp c2) (by omega)
    · refine lv_aload_n hx hb dX2_last_20 rfl (lv_at hl 1 rfl) ?_
      refine va_get (D := D) (ci := 2) (v := .ref a_rw) (C := RX2) (T := TX2) (N := 2) hx hb hts hin2 hown hK.1 hP 0 rfl rfl 0 (by decide) k_1 (fun _ h9 => h9) rfl dX2_last_21 ?_
      refine lv_iload_n (x := nI (k - 1)) hx hb dX2_last_24 rfl (lv_at hl 0 rfl) ?_
      refine va_aldq hx hb hK.1 hP 1 2 rfl rfl (vp_in_nI (by omega) (by omega)) dX2_last_25 ?_
      rw [nI_clamp (by omega)]
      refine lv_goto (tgt := 30) hx hb dX2_last_26 (by decide) ?_
      exact hret (rw (k - 1)) () s.heap [] _ ls (by rw [if_neg (by omega)]) hP hD hS dX2_last_30
abbrev rmX2_loseOldest : Room := { frames := 0, cells := 0, slots := 0, locals := 0 }
theorem yoX2_loseOldest : yX2_loseOldest.cls ≠ "java/lang/invoke/MethodHandle" ∧ yX2_loseOldest.cls ≠ "java/lang/invoke/VarHandle" ∧ (parseMethodDescriptor yX2_loseOldest.desc).map (fun d => d.parameters.length) = some 0 := by decide +kernel
set_option maxHeartbeats 4000000 in
set_option maxRecDepth 100000 in
/-- Shelf.loseOldest: the rows move down by one, the first one comes last -/
theorem c_X2_loseOldest (l : Launch) (D : va_G) (cI cC cQ : ClassId) (h2 a_rw N : Nat) (as : List CA) (ru : Int32) (pl : va_W) (hN : as.length = N) (h1N : 1 ≤ N) (hN2 : N < 1000) (hu : ¬ ru < 1) (hpl : ∀ (k : Nat) (a : CA), as[k]? = some a → ∃ fs : List Value, (a.1, (.inr (0, fs) : va_E)) ∈ pl) : Cv (S := Unit) l D cI cC cQ yX2_loseOldest wsX2_loseOldest rmX2_loseOldest [.ref h2] ([(h2, .inr (2, [.ref a_rw, .int ru])), (a_rw, .inl (cQ, N, .inr (.inr (.inr (.inr (rwf as))))))] ++ pl) (fun _ => [(h2, .inr (2, [.ref a_rw, .int (ru - 1)])), (a_rw, .inl (cQ, N, .inr (.inr (.inr (.inr (rwf (rot as)))))))] ++ pl) (fun _ => True) := by
  refine Cv_mk (cc := cX2_loseOldest) (maxL := 3) (by decide) rfl (Nat.le_of_ble_eq_true rfl) ?_
  intro p e s m args below meth c A Z ls hx hb hml hown hts hK hA hP hD hret hl
  have hS : va_S A s.heap s.heap [] := va_S.rf
  have hin2 : ∀ w ∈ u_ws RX2 TX2 2, w ∈ wsX2_loseOldest := by decide +kernel
  have k_0 := hts (.fieldLink RX2 16 "DoubtCourt$Shelf" "used" "I") (by decide +kernel)
  have k_1 := hts (.fieldLink RX2 9 "DoubtCourt$Shelf" "rows" "[LDoubtCourt$Court;") (by decide +kernel)
  have hl : lv_has ls 3 [(0, .ref h2)] := hl
  obtain ⟨b0, hb0⟩ : ∃ b0, as[0]? = some b0 := ⟨_, List.getElem?_eq_getElem (by omega)⟩
  have e0 : rwf as 0 = some b0.1 := by simp [rwf, hb0]
  have loop : ∀ (n j : Nat) (H : Heap) (locs : List Loc) (ls : Array Slot), N - j < n → 1 ≤ j → j ≤ N → va_P D vwCl ([(h2, .inr (2, [.ref a_rw, .int ru])), (a_rw, .inl (cQ, N, .inr (.inr (.inr (.inr (fun t : Nat => if t + 1 < j then rwf as (t + 1) else rwf as t))))))] ++ pl) H → va_D A ([(h2, .inr (2, [.ref a_rw, .int ru])), (a_rw, .inl (cQ, N, .inr (.inr (.inr (.inr (fun t : Nat => if t + 1 < j then rwf as (t + 1) else rwf as t))))))] ++ pl) → va_S A s.heap H locs → lv_has ls 3 [(0, .ref h2), (1, .ref b0.1), (2, .int (nI j))] → W p l e rmX2_loseOldest s m args below meth c H locs 0 0 Z (F0 m 27 ls []) := by
    intro n
    induction n with
    | zero => intro j H locs ls h; exact absurd h (Nat.not_lt_zero _)
    | succ n ih =>
      intro j H locs ls hn hj1 hjN hP hD hS hl
      refine lv_iload_n hx hb dX2_loseOldest_27 rfl (lv_at hl 2 rfl) ?_
      refine lv_aload_n hx hb dX2_loseOldest_28 rfl (lv_at hl 0 rfl) ?_
      refine va_get (D := D) (ci := 2) (v := .ref a_rw) (C := RX2) (T := TX2) (N := 2) hx hb hts hin2 hown hK.1 hP 0 rfl rfl 0 (by decide) k_1 (fun _ h9 => h9) rfl dX2_loseOldest_29 ?_
      refine va_alen (v := nI N) hx hb hK.1 hP 1 2 rfl rfl rfl dX2_loseOldest_32 ?_
      refine lv_icmp_ge (tgt := 56) hx hb dX2_loseOldest_33 (by decide) (fun c2 => ?_) (fun c2 => ?_)
      · have hjN' : j = N := by
          have := (nI_leI (a := N) (b := j) (by omega) (by omega)).mp c2
          omega
        subst hjN'
        refine lv_aload_n hx hb dX2_loseOldest_56 rfl (lv_at hl 0 rfl) ?_
        refine va_get (D := D) (ci := 2) (v := .ref a_rw) (C := RX2) (T := TX2) (N := 2) hx hb hts hin2 hown hK.1 hP 0 rfl rfl 0 (by decide) k_1 (fun _ h9 => h9) rfl dX2_loseOldest_57 ?_
        refine lv_aload_n hx hb dX2_loseOldest_60 rfl (lv_at hl 0 rfl) ?_
        refine va_get (D := D) (ci := 2) (v := .ref a_rw) (C := RX2) (T := TX2) (N := 2) hx hb hts hin2 hown hK.1 hP 0 rfl rfl 0 (by decide) k_1 (fun _ h9 => h9) rfl dX2_loseOldest_61 ?_
        refine va_alen (v := nI j) hx hb hK.1 hP 1 2 rfl rfl rfl dX2_loseOldest_64 ?_
        refine lv_iconst (v := 1) hx hb dX2_loseOldest_65 (by decide) ?_
        refine lv_isub hx hb dX2_loseOldest_66 ?_
        rw [sh_m1 (by omega) (by omega)]
        refine lv_aload_n hx hb dX2_loseOldest_67 rfl (lv_at hl 1 rfl) ?_
        obtain ⟨fs, hfs⟩ := hpl 0 b0 hb0
        refine z_aast (fs := fs) (k := j - 1) hx hb hK.1 hP hD hS 1 rfl (List.mem_append_right _ hfs) (nI_clamp (by omega)) (vp_in_nI (by omega) (by omega)) dX2_loseOldest_68 (fun H locs hP hD hS => ?_)
        have eg : va_up (fun t : Nat => if t + 1 < j then rwf as (t + 1) else rwf as t) (j - 1) (some b0.1) = rwf (rot as) := by
          funext t
          rw [rwf_rot as b0 hb0]
          by_cases h : t = j - 1
          · subst h
            rw [va_up_self, if_neg (by omega), if_pos (by omega)]
          · rw [va_up_ne _ _ h]
            by_cases h3 : t + 1 < j
            · rw [if_pos h3, if_pos (by omega)]
            · rw [if_neg h3, if_neg (by omega), if_neg (by omega)]
              simp [rwf, List.getElem?_eq_none (show as.length ≤ t by omega)]
        rw [eg] at hP hD
        have hP : va_P D vwCl ([(h2, .inr (2, [.ref a_rw, .int ru])), (a_rw, .inl (cQ, j, .inr (.inr (.inr (.inr (rwf (rot as)))))))] ++ pl) H := hP
        have hD : va_D A ([(h2, .inr (2, [.ref a_rw, .int ru])), (a_rw, .inl (cQ, j, .inr (.inr (.inr (.inr (rwf (rot as)))))))] ++ pl) := hD
        refine lv_aload_n hx hb dX2_loseOldest_69 rfl (lv_at hl 0 rfl) ?_
        refine lv_dup hx hb dX2_loseOldest_70 rfl ?_
        refine va_get (D := D) (ci := 2) (v := .int ru) (C := RX2) (T := TX2) (N := 2) hx hb hts hin2 hown hK.1 hP 0 rfl rfl 1 (by decide) k_0 (fun _ h9 => h9) rfl dX2_loseOldest_71 ?_
        refine lv_iconst (v := 1) hx hb dX2_loseOldest_74 (by decide) ?_
        refine lv_isub hx hb dX2_loseOldest_75 ?_
        refine va_put (D := D) (ci := 2) (v := .int (ru - 1)) (ty := .int) (C := RX2) (T := TX2) (N := 2) hx hb hts hin2 tyX2 tyX2_ok nmX2 hown hK.1 hP hD hS 0 rfl rfl 1 (by decide) k_0 (fun _ h9 => h9) rfl (by decide +kernel) rfl rfl (Nat.le_of_ble_eq_true rfl) dX2_loseOldest_76 (fun H locs hP hD hS => ?_)
        exact hret () H locs _ ls trivial hP hD hS dX2_loseOldest_79
      · have hlt : j < N := Nat.not_le.mp (fun h => c2 ((nI_leI (by omega) (by omega)).mpr h))
        obtain ⟨bj, hbj⟩ : ∃ bj, as[j]? = some bj := ⟨_, List.getElem?_eq_getElem (by omega)⟩
        have ej : rwf as j = some bj.1 := by simp [rwf, hbj]
        refine lv_aload_n hx hb dX2_loseOldest_36 rfl (lv_at hl 0 rfl) ?_
        refine va_get (D := D) (ci := 2) (v := .ref a_rw) (C := RX2) (T := TX2) (N := 2) hx hb hts hin2 hown hK.1 hP 0 rfl rfl 0 (by decide) k_1 (fun _ h9 => h9) rfl dX2_loseOldest_37 ?_
        refine lv_iload_n hx hb dX2_loseOldest_40 rfl (lv_at hl 2 rfl) ?_
        refine lv_iconst (v := 1) hx hb dX2_loseOldest_41 (by decide) ?_
        refine lv_isub hx hb dX2_loseOldest_42 ?_
        rw [sh_m1 (by omega) (by omega)]
        refine lv_aload_n hx hb dX2_loseOldest_43 rfl (lv_at hl 0 rfl) ?_
        refine va_get (D := D) (ci := 2) (v := .ref a_rw) (C := RX2) (T := TX2) (N := 2) hx hb hts hin2 hown hK.1 hP 0 rfl rfl 0 (by decide) k_1 (fun _ h9 => h9) rfl dX2_loseOldest_44 ?_
        refine lv_iload_n hx hb dX2_loseOldest_47 rfl (lv_at hl 2 rfl) ?_
        refine z_aald (k := j) (v := bj.1) hx hb hK.1 hP 1 rfl (nI_clamp (by omega)) (vp_in_nI hlt (by omega)) (by show (if j + 1 < j then _ else _) = _; rw [if_neg (by omega)]; exact ej) dX2_loseOldest_48 ?_
        obtain ⟨fs, hfs⟩ := hpl j bj hbj
        refine z_aast (fs := fs) (k := j - 1) hx hb hK.1 hP hD hS 1 rfl (List.mem_append_right _ hfs) (nI_clamp (by omega)) (vp_in_nI (by omega) (by omega)) dX2_loseOldest_49 (fun H locs hP hD hS => ?_)
        have eg : va_up (fun t : Nat => if t + 1 < j then rwf as (t + 1) else rwf as t) (j - 1) (some bj.1) = fun t : Nat => if t + 1 < j + 1 then rwf as (t + 1) else rwf as t := by
          funext t
          by_cases h : t = j - 1
          · subst h
            rw [va_up_self, if_pos (by omega), ← ej]
            congr 1
            omega
          · rw [va_up_ne _ _ h]
            by_cases h3 : t + 1 < j
            · rw [if_pos h3, if_pos (by omega)]
            · rw [if_neg h3, if_neg (by omega)]
        rw [eg] at hP hD
        have hP : va_P D vwCl ([(h2, .inr (2, [.ref a_rw, .int ru])), (a_rw, .inl (cQ, N, .inr (.inr (.inr (.inr (fun t : Nat => if t + 1 < j + 1 then rwf as (t + 1) else rwf as t))))))] ++ pl) H := hP
        have hD : va_D A ([(h2, .inr (2, [.ref a_rw, .int ru])), (a_rw, .inl (cQ, N, .inr (.inr (.inr (.inr (fun t : Nat => if t + 1 < j + 1 then rwf as (t + 1) else rwf as t))))))] ++ pl) := hD
        refine lv_iinc (v := nI (j + 1)) (lv' := [(2, .int (nI (j + 1))), (0, .ref h2), (1, .ref b0.1)]) hx hb dX2_loseOldest_50 hl (k := 2) rfl (nI_1 j) (by decide) rfl (fun ls hl => ?_)
        refine lv_goto (tgt := 27) hx hb dX2_loseOldest_53 (by decide) ?_
        exact ih (j + 1) H locs ls (by omega) (by omega) (by omega) hP hD hS (lv_sub hl [1, 2, 0] rfl)
  refine lv_aload_n hx hb dX2_loseOldest_0 rfl (lv_at hl 0 rfl) ?_
  refine va_get (D := D) (ci := 2) (v := .ref a_rw) (C := RX2) (T := TX2) (N := 2) hx hb hts hin2 hown hK.1 hP 0 rfl rfl 0 (by decide) k_1 (fun _ h9 => h9) rfl dX2_loseOldest_1 ?_
  refine va_alen (v := nI N) hx hb hK.1 hP 1 2 rfl rfl rfl dX2_loseOldest_4 ?_
  refine lv_iconst (v := 1) hx hb dX2_loseOldest_5 (by decide) ?_
  refine lv_icmp_lt (tgt := 17) hx hb dX2_loseOldest_6 (by decide) (fun c1 => ?_) (fun c1 => ?_)
  · exact absurd ((nI_ltI (a := N) (b := 1) (by omega) (by omega)).mp c1) (by omega)
  refine lv_aload_n hx hb dX2_loseOldest_9 rfl (lv_at hl 0 rfl) ?_
  refine va_get (D := D) (ci := 2) (v := .int ru) (C := RX2) (T := TX2) (N := 2) hx hb hts hin2 hown hK.1 hP 0 rfl rfl 1 (by decide) k_0 (fun _ h9 => h9) rfl dX2_loseOldest_10 ?_
  refine lv_iconst (v := 1) hx hb dX2_loseOldest_13 (by decide) ?_
  refine lv_icmp_ge (tgt := 18) hx hb dX2_loseOldest_14 (by decide) (fun c2 => ?_) (fun c2 => ?_)
  · refine lv_aload_n hx hb dX2_loseOldest_18 rfl (lv_at hl 0 rfl) ?_
    refine va_get (D := D) (ci := 2) (v := .ref a_rw) (C := RX2) (T := TX2) (N := 2) hx hb hts hin2 hown hK.1 hP 0 rfl rfl 0 (by decide) k_1 (fun _ h9 => h9) rfl dX2_loseOldest_19 ?_
    refine lv_iconst (v := 0) hx hb dX2_loseOldest_22 (by decide) ?_
    refine z_aald (k := 0) (v := b0.1) hx hb hK.1 hP 1 rfl (by decide) (vp_in_nI (n := 0) (by omega) (by omega)) e0 dX2_loseOldest_23 ?_
    refine lv_astore_n (lv' := [(1, .ref b0.1), (0, .ref h2)]) hx hb dX2_loseOldest_24 rfl hl (by decide) rfl (fun ls hl => ?_)
    refine lv_iconst (v := 1) hx hb dX2_loseOldest_25 (by decide) ?_
    refine lv_istore_n (lv' := [(2, .int 1), (1, .ref b0.1), (0, .ref h2)]) hx hb dX2_loseOldest_26 rfl hl (by decide) rfl (fun ls hl => ?_)
    have e1 : (fun t : Nat => if t + 1 < 1 then rwf as (t + 1) else rwf as t) = rwf as := by
      funext t
      rw [if_neg (by omega)]
    exact loop (N + 1) 1 s.heap [] ls (by omega) (Nat.le_refl _) h1N (by rw [e1]; exact hP) (by rw [e1]; exact hD) hS (lv_sub hl [2, 1, 0] rfl)
  · exact absurd (Int32.not_lt.mp hu) c2
def pushK (N k : Nat) : Nat := if k < N then k + 1 else N
def pushA (N k : Nat) (as : List CA) : List CA := if k < N then as else rot as
def pushV (N k : Nat) (vs : List CV) (cv : CV) : List CV := if k < N then vs.set k (cpyCV cv (vs.getD k cv)) else (rot vs).set (N - 1) (cpyCV cv ((rot vs).getD (N - 1) cv))
theorem perm5 {α : Type} (C O b p : List α) : ((b ++ C) ++ (O ++ p)).Perm ((O ++ C) ++ (b ++ p)) := by
  have h1 : ((b ++ C) ++ (O ++ p)).Perm (O ++ ((b ++ C) ++ p)) := List.perm_append_comm_assoc _ _ _
  have h2 : ((b ++ C) ++ p).Perm (C ++ (b ++ p)) := by rw [List.append_assoc]; exact List.perm_append_comm_assoc _ _ _
  exact h1.trans ((h2.append_left O).trans (by rw [List.append_assoc]))
abbrev rmX2_push : Room := { frames := 2, cells := 0, slots := 0, locals := 90 }
theorem yoX2_push : yX2_push.cls ≠ "java/lang/invoke/MethodHandle" ∧ yX2_push.cls ≠ "java/lang/invoke/VarHandle" ∧ (parseMethodDescriptor yX2_push.desc).map (fun d => d.parameters.length) = some 1 := by decide +kernel
set_option maxHeartbeats 4000000 in
set_option maxRecDepth 100000 in
/-- Shelf.push: a copy of the court lies on top, of a full shelf the oldest is lost -/
theorem c_X2_push (l : Launch) (D : va_G) (cI cC cQ : ClassId) (h2 a_rw N : Nat) (k : Nat) (as : List CA) (vs : List CV) (h0 : Nat) (a_kd : Nat) (a_hd : Nat) (a_pl : Nat) (a_st : Nat) (a_ho : Nat) (a_be : Nat) (kd : Nat → Int32) (hd : Nat → Int32) (pl : Nat → Int32) (st : Nat → Int32) (ho : Nat → Int32) (be : Nat → Int32) (nc : Int32) (nn : Int32) (dy : Int32) (hk : k ≤ N) (h1N : 1 ≤ N) (hN2 : N < 1000) (hla : as.length = N) (hlv : vs.length = N) : Cv (S := Unit) l D cI cC cQ yX2_push wsX2_push rmX2_push [.ref h2, .ref h0] ([(h2, .inr (2, [.ref a_rw, .int (nI k)])), (a_rw, .inl (cQ, N, .inr (.inr (.inr (.inr (rwf as)))))), (h0, .inr (0, [.ref a_kd, .ref a_hd, .ref a_pl, .ref a_st, .ref a_ho, .ref a_be, .int nc, .int nn, .int dy])), (a_kd, .inl (cI, 7, .inl kd)), (a_hd, .inl (cI, 7, .inl hd)), (a_pl, .inl (cI, 7, .inl pl)), (a_st, .inl (cI, 7, .inl st)), (a_ho, .inl (cI, 6, .inl ho)), (a_be, .inl (cI, 42, .inl be))] ++ pool cI as vs) (fun _ => [(h2, .inr (2, [.ref a_rw, .int (nI (pushK N k))])), (a_rw, .inl (cQ, N, .inr (.inr (.inr (.inr (rwf (pushA N k as))))))), (h0, .inr (0, [.ref a_kd, .ref a_hd, .ref a_pl, .ref a_st, .ref a_ho, .ref a_be, .int nc, .int nn, .int dy])), (a_kd, .inl (cI, 7, .inl kd)), (a_hd, .inl (cI, 7, .inl hd)), (a_pl, .inl (cI, 7, .inl pl)), (a_st, .inl (cI, 7, .inl st)), (a_ho, .inl (cI, 6, .inl ho)), (a_be, .inl (cI, 42, .inl be))] ++ pool cI (pushA N k as) (pushV N k vs (kd, hd, pl, st, ho, be, nc, nn, dy))) (fun _ => True) := by
  refine Cv_mk (cc := cX2_push) (maxL := 3) (by decide) rfl (Nat.le_of_ble_eq_true rfl) ?_
  intro p e s m args below meth c A Z ls hx hb hml hown hts hK hA hP hD hret hl
  have hS : va_S A s.heap s.heap [] := va_S.rf
  have hin2 : ∀ w ∈ u_ws RX2 TX2 2, w ∈ wsX2_push := by decide +kernel
  have k_0 := hts (.fieldLink RX2 16 "DoubtCourt$Shelf" "used" "I") (by decide +kernel)
  have k_1 := hts (.fieldLink RX2 9 "DoubtCourt$Shelf" "rows" "[LDoubtCourt$Court;") (by decide +kernel)
  have hl : lv_has ls 3 [(0, .ref h2), (1, .ref h0)] := hl
  have J16 : ∀ (k : Nat) (as : List CA) (vs : List CV) (H : Heap) (locs : List Loc) (ls : Array Slot), k < N → as.length = N → vs.length = N → va_P D vwCl ([(h2, .inr (2, [.ref a_rw, .int (nI k)])), (a_rw, .inl (cQ, N, .inr (.inr (.inr (.inr (rwf as)))))), (h0, .inr (0, [.ref a_kd, .ref a_hd, .ref a_pl, .ref a_st, .ref a_ho, .ref a_be, .int nc, .int nn, .int dy])), (a_kd, .inl (cI, 7, .inl kd)), (a_hd, .inl (cI, 7, .inl hd)), (a_pl, .inl (cI, 7, .inl pl)), (a_st, .inl (cI, 7, .inl st)), (a_ho, .inl (cI, 6, .inl ho)), (a_be, .inl (cI, 42, .inl be))] ++ pool cI as vs) H → va_D A ([(h2, .inr (2, [.ref a_rw, .int (nI k)])), (a_rw, .inl (cQ, N, .inr (.inr (.inr (.inr (rwf as)))))), (h0, .inr (0, [.ref a_kd, .ref a_hd, .ref a_pl, .ref a_st, .ref a_ho, .ref a_be, .int nc, .int nn, .int dy])), (a_kd, .inl (cI, 7, .inl kd)), (a_hd, .inl (cI, 7, .inl hd)), (a_pl, .inl (cI, 7, .inl pl)), (a_st, .inl (cI, 7, .inl st)), (a_ho, .inl (cI, 6, .inl ho)), (a_be, .inl (cI, 42, .inl be))] ++ pool cI as vs) → va_S A s.heap H locs → lv_has ls 3 [(0, .ref h2), (1, .ref h0)] →
      (∀ (H : Heap) (locs : List Loc), va_P D vwCl ([(h2, .inr (2, [.ref a_rw, .int (nI (k + 1))])), (a_rw, .inl (cQ, N, .inr (.inr (.inr (.inr (rwf as)))))), (h0, .inr (0, [.ref a_kd, .ref a_hd, .ref a_pl, .ref a_st, .ref a_ho, .ref a_be, .int nc, .int nn, .int dy])), (a_kd, .inl (cI, 7, .inl kd)), (a_hd, .inl (cI, 7, .inl hd)), (a_pl, .inl (cI, 7, .inl pl)), (a_st, .inl (cI, 7, .inl st)), (a_ho, .inl (cI, 6, .inl ho)), (a_be, .inl (cI, 42, .inl be))] ++ pool cI as (vs.set k (cpyCV (kd, hd, pl, st, ho, be, nc, nn, dy) (vs.getD k (kd, hd, pl, st, ho, be, nc, nn, dy))))) H → va_D A ([(h2, .inr (2, [.ref a_rw, .int (nI (k + 1))])), (a_rw, .inl (cQ, N, .inr (.inr (.inr (.inr (rwf as)))))), (h0, .inr (0, [.ref a_kd, .ref a_hd, .ref a_pl, .ref a_st, .ref a_ho, .ref a_be, .int nc, .int nn, .int dy])), (a_kd, .inl (cI, 7, .inl kd)), (a_hd, .inl (cI, 7, .inl hd)), (a_pl, .inl (cI, 7, .inl pl)), (a_st, .inl (cI, 7, .inl st)), (a_ho, .inl (cI, 6, .inl ho)), (a_be, .inl (cI, 42, .inl be))] ++ pool cI as (vs.set k (cpyCV (kd, hd, pl, st, ho, be, nc, nn, dy) (vs.getD k (kd, hd, pl, st, ho, be, nc, nn, dy))))) → va_S A s.heap H locs → ∀ ls : Array Slot, W p l e rmX2_push s m args below meth c H locs 0 0 Z (F0 m 40 ls [])) →
      W p l e rmX2_push s m args below meth c H locs 0 0 Z (F0 m 16 ls []) := by
    intro k as vs H locs ls hk hla hlv hP hD hS hl hfin
    obtain ⟨a, ha⟩ : ∃ a, as[k]? = some a := ⟨_, List.getElem?_eq_getElem (by omega)⟩
    obtain ⟨v, hv⟩ : ∃ v, vs[k]? = some v := ⟨_, List.getElem?_eq_getElem (by omega)⟩
    have hgd : vs.getD k (kd, hd, pl, st, ho, be, nc, nn, dy) = v := by rw [List.getD_eq_getElem?_getD, hv]; rfl
    have ek : rwf as k = some a.1 := by simp [rwf, ha]
    refine lv_aload_n hx hb dX2_push_16 rfl (lv_at hl 0 rfl) ?_
    refine lv_dup hx hb dX2_push_17 rfl ?_
    refine va_get (D := D) (ci := 2) (v := .int (nI k)) (C := RX2) (T := TX2) (N := 2) hx hb hts hin2 hown hK.1 hP 0 rfl rfl 1 (by decide) k_0 (fun _ h9 => h9) rfl dX2_push_18 ?_
    refine lv_iconst (v := 1) hx hb dX2_push_21 (by decide) ?_
    refine lv_iadd hx hb dX2_push_22 ?_
    rw [nI_1 k]
    refine va_put (D := D) (ci := 2) (v := .int (nI (k + 1))) (ty := .int) (C := RX2) (T := TX2) (N := 2) hx hb hts hin2 tyX2 tyX2_ok nmX2 hown hK.1 hP hD hS 0 rfl rfl 1 (by decide) k_0 (fun _ h9 => h9) rfl (by decide +kernel) rfl rfl (Nat.le_of_ble_eq_true rfl) dX2_push_23 (fun H locs hP hD hS => ?_)
    have hP : va_P D vwCl ([(h2, .inr (2, [.ref a_rw, .int (nI (k + 1))])), (a_rw, .inl (cQ, N, .inr (.inr (.inr (.inr (rwf as)))))), (h0, .inr (0, [.ref a_kd, .ref a_hd, .ref a_pl, .ref a_st, .ref a_ho, .ref a_be, .int nc, .int nn, .int dy])), (a_kd, .inl (cI, 7, .inl kd)), (a_hd, .inl (cI, 7, .inl hd)), (a_pl, .inl (cI, 7, .inl pl)), (a_st, .inl (cI, 7, .inl st)), (a_ho, .inl (cI, 6, .inl ho)), (a_be, .inl (cI, 42, .inl be))] ++ pool cI as vs) H := hP
    have hD : va_D A ([(h2, .inr (2, [.ref a_rw, .int (nI (k + 1))])), (a_rw, .inl (cQ, N, .inr (.inr (.inr (.inr (rwf as)))))), (h0, .inr (0, [.ref a_kd, .ref a_hd, .ref a_pl, .ref a_st, .ref a_ho, .ref a_be, .int nc, .int nn, .int dy])), (a_kd, .inl (cI, 7, .inl kd)), (a_hd, .inl (cI, 7, .inl hd)), (a_pl, .inl (cI, 7, .inl pl)), (a_st, .inl (cI, 7, .inl st)), (a_ho, .inl (cI, 6, .inl ho)), (a_be, .inl (cI, 42, .inl be))] ++ pool cI as vs) := hD
    refine lv_aload_n hx hb dX2_push_26 rfl (lv_at hl 0 rfl) ?_
    refine kqV_q (wr := [(h0, .inr (0, [.ref a_kd, .ref a_hd, .ref a_pl, .ref a_st, .ref a_ho, .ref a_be, .int nc, .int nn, .int dy])), (a_kd, .inl (cI, 7, .inl kd)), (a_hd, .inl (cI, 7, .inl hd)), (a_pl, .inl (cI, 7, .inl pl)), (a_st, .inl (cI, 7, .inl st)), (a_ho, .inl (cI, 6, .inl ho)), (a_be, .inl (cI, 42, .inl be))]) (As := []) (n := 0) ⟨hx, hb, hml, hown, hts⟩ hK hP hD hS hA (c_X2_last l D cI cC cQ h2 a_rw N (rwf as) (k + 1) hN2 (by omega)) gX2_push_X2_last rfl rfl ⟨rfl, rfl⟩ yoX2_last ⟨Nat.le_of_ble_eq_true rfl, Nat.le_of_ble_eq_true rfl⟩ (q0 := 0) (ci := 2) rfl rfl rfl rfl hl.1 rfl (Nat.le_of_ble_eq_true rfl) dX2_push_27 ⟨Nat.zero_le _, Nat.zero_le _⟩ [0, 1] [2, 3, 4, 5, 6, 7, 8] rfl (by decide) rfl (by decide) (by decide) (fun r u H locs h hP hD hS => ?_)
    have hr0 : r = some a.1 := by
      rw [h, if_neg (Nat.succ_ne_zero k)]
      exact ek
    subst hr0
    refine lv_astore_n (x := a.1) (lv' := [(2, .ref a.1), (0, .ref h2), (1, .ref h0)]) hx hb dX2_push_30 rfl hl (by decide) rfl (fun ls hl => ?_)
    refine lv_aload_n hx hb dX2_push_31 rfl (lv_at hl 0 rfl) ?_
    refine lv_ifnull hx hb dX2_push_32 ?_
    refine lv_aload_n hx hb dX2_push_35 rfl (lv_at hl 0 rfl) ?_
    refine lv_aload_n hx hb dX2_push_36 rfl (lv_at hl 2 rfl) ?_
    have hp1 : List.Perm (α := Nat × va_E) (([(h0, .inr (0, [.ref a_kd, .ref a_hd, .ref a_pl, .ref a_st, .ref a_ho, .ref a_be, .int nc, .int nn, .int dy])), (a_kd, .inl (cI, 7, .inl kd)), (a_hd, .inl (cI, 7, .inl hd)), (a_pl, .inl (cI, 7, .inl pl)), (a_st, .inl (cI, 7, .inl st)), (a_ho, .inl (cI, 6, .inl ho)), (a_be, .inl (cI, 42, .inl be))] ++ [(h2, .inr (2, [.ref a_rw, .int (nI (k + 1))])), (a_rw, .inl (cQ, N, .inr (.inr (.inr (.inr (rwf as))))))]) ++ pool cI as vs) ((cb cI a v ++ [(h0, .inr (0, [.ref a_kd, .ref a_hd, .ref a_pl, .ref a_st, .ref a_ho, .ref a_be, .int nc, .int nn, .int dy])), (a_kd, .inl (cI, 7, .inl kd)), (a_hd, .inl (cI, 7, .inl hd)), (a_pl, .inl (cI, 7, .inl pl)), (a_st, .inl (cI, 7, .inl st)), (a_ho, .inl (cI, 6, .inl ho)), (a_be, .inl (cI, 42, .inl be))]) ++ ([(h2, .inr (2, [.ref a_rw, .int (nI (k + 1))])), (a_rw, .inl (cQ, N, .inr (.inr (.inr (.inr (rwf as))))))] ++ pool cI (as.eraseIdx k) (vs.eraseIdx k))) := ((pool_perm cI k as vs a v ha hv).append_left _).trans (perm4 _ _ _ _)
    have hP : va_P D vwCl ([(a.1, .inr (0, [.ref a.2.1, .ref a.2.2.1, .ref a.2.2.2.1, .ref a.2.2.2.2.1, .ref a.2.2.2.2.2.1, .ref a.2.2.2.2.2.2, .int v.2.2.2.2.2.2.1, .int v.2.2.2.2.2.2.2.1, .int v.2.2.2.2.2.2.2.2])), (a.2.1, .inl (cI, 7, .inl v.1)), (a.2.2.1, .inl (cI, 7, .inl v.2.1)), (a.2.2.2.1, .inl (cI, 7, .inl v.2.2.1)), (a.2.2.2.2.1, .inl (cI, 7, .inl v.2.2.2.1)), (a.2.2.2.2.2.1, .inl (cI, 6, .inl v.2.2.2.2.1)), (a.2.2.2.2.2.2, .inl (cI, 42, .inl v.2.2.2.2.2.1)), (h0, .inr (0, [.ref a_kd, .ref a_hd, .ref a_pl, .ref a_st, .ref a_ho, .ref a_be, .int nc, .int nn, .int dy])), (a_kd, .inl (cI, 7, .inl kd)), (a_hd, .inl (cI, 7, .inl hd)), (a_pl, .inl (cI, 7, .inl pl)), (a_st, .inl (cI, 7, .inl st)), (a_ho, .inl (cI, 6, .inl ho)), (a_be, .inl (cI, 42, .inl be))] ++ ([(h2, .inr (2, [.ref a_rw, .int (nI (k + 1))])), (a_rw, .inl (cQ, N, .inr (.inr (.inr (.inr (rwf as))))))] ++ pool cI (as.eraseIdx k) (vs.eraseIdx k))) H := vaP_perm hp1 hP
    have hD : va_D A ([(a.1, .inr (0, [.ref a.2.1, .ref a.2.2.1, .ref a.2.2.2.1, .ref a.2.2.2.2.1, .ref a.2.2.2.2.2.1, .ref a.2.2.2.2.2.2, .int v.2.2.2.2.2.2.1, .int v.2.2.2.2.2.2.2.1, .int v.2.2.2.2.2.2.2.2])), (a.2.1, .inl (cI, 7, .inl v.1)), (a.2.2.1, .inl (cI, 7, .inl v.2.1)), (a.2.2.2.1, .inl (cI, 7, .inl v.2.2.1)), (a.2.2.2.2.1, .inl (cI, 7, .inl v.2.2.2.1)), (a.2.2.2.2.2.1, .inl (cI, 6, .inl v.2.2.2.2.1)), (a.2.2.2.2.2.2, .inl (cI, 42, .inl v.2.2.2.2.2.1)), (h0, .inr (0, [.ref a_kd, .ref a_hd, .ref a_pl, .ref a_st, .ref a_ho, .ref a_be, .int nc, .int nn, .int dy])), (a_kd, .inl (cI, 7, .inl kd)), (a_hd, .inl (cI, 7, .inl hd)), (a_pl, .inl (cI, 7, .inl pl)), (a_st, .inl (cI, 7, .inl st)), (a_ho, .inl (cI, 6, .inl ho)), (a_be, .inl (cI, 42, .inl be))] ++ ([(h2, .inr (2, [.ref a_rw, .int (nI (k + 1))])), (a_rw, .inl (cQ, N, .inr (.inr (.inr (.inr (rwf as))))))] ++ pool cI (as.eraseIdx k) (vs.eraseIdx k))) := vaD_perm hp1 hD
    refine k0V_v (As := [.ref h0]) (n := 1) ⟨hx, hb, hml, hown, hts⟩ hK hP hD hS hA (frame_Cv (c_X0_copyFrom l D cI cC cQ a.1 a.2.1 a.2.2.1 a.2.2.2.1 a.2.2.2.2.1 a.2.2.2.2.2.1 a.2.2.2.2.2.2 h0 a_kd a_hd a_pl a_st a_ho a_be v.1 v.2.1 v.2.2.1 v.2.2.2.1 v.2.2.2.2.1 v.2.2.2.2.2.1 v.2.2.2.2.2.2.1 v.2.2.2.2.2.2.2.1 v.2.2.2.2.2.2.2.2 kd hd pl st ho be nc nn dy (fun kd1 hd1 pl1 st1 ho1 be1 nc1 nn1 dy1 => (kd1, hd1, pl1, st1, ho1, be1, nc1, nn1, dy1) = cpyCV (kd, hd, pl, st, ho, be, nc, nn, dy) v) rfl) _) gX2_push_X0_copyFrom rfl rfl ⟨rfl, rfl⟩ yoX0_copyFrom ⟨Nat.le_of_ble_eq_true rfl, Nat.le_of_ble_eq_true rfl⟩ (q0 := 0) (ci := 0) rfl rfl rfl rfl hl.1 rfl (Nat.le_of_ble_eq_true rfl) dX2_push_37 ⟨Nat.zero_le _, Nat.zero_le _⟩ (fun u H locs h hP hD hS => ?_)
    have hu : u = cpyCV (kd, hd, pl, st, ho, be, nc, nn, dy) v := h
    subst hu
    have hp2 : List.Perm (α := Nat × va_E) ((cb cI a (cpyCV (kd, hd, pl, st, ho, be, nc, nn, dy) v) ++ [(h0, .inr (0, [.ref a_kd, .ref a_hd, .ref a_pl, .ref a_st, .ref a_ho, .ref a_be, .int nc, .int nn, .int dy])), (a_kd, .inl (cI, 7, .inl kd)), (a_hd, .inl (cI, 7, .inl hd)), (a_pl, .inl (cI, 7, .inl pl)), (a_st, .inl (cI, 7, .inl st)), (a_ho, .inl (cI, 6, .inl ho)), (a_be, .inl (cI, 42, .inl be))]) ++ ([(h2, .inr (2, [.ref a_rw, .int (nI (k + 1))])), (a_rw, .inl (cQ, N, .inr (.inr (.inr (.inr (rwf as))))))] ++ pool cI (as.eraseIdx k) (vs.eraseIdx k))) (([(h2, .inr (2, [.ref a_rw, .int (nI (k + 1))])), (a_rw, .inl (cQ, N, .inr (.inr (.inr (.inr (rwf as))))))] ++ [(h0, .inr (0, [.ref a_kd, .ref a_hd, .ref a_pl, .ref a_st, .ref a_ho, .ref a_be, .int nc, .int nn, .int dy])), (a_kd, .inl (cI, 7, .inl kd)), (a_hd, .inl (cI, 7, .inl hd)), (a_pl, .inl (cI, 7, .inl pl)), (a_st, .inl (cI, 7, .inl st)), (a_ho, .inl (cI, 6, .inl ho)), (a_be, .inl (cI, 42, .inl be))]) ++ pool cI as (vs.set k (cpyCV (kd, hd, pl, st, ho, be, nc, nn, dy) v))) := (perm5 _ _ _ _).trans ((pool_set cI k as vs a _ ha (by omega)).symm.append_left _)
    rw [hgd] at hfin
    exact hfin H locs (vaP_perm hp2 hP) (vaD_perm hp2 hD) hS ls
  refine lv_aload_n hx hb dX2_push_0 rfl (lv_at hl 0 rfl) ?_
  refine va_get (D := D) (ci := 2) (v := .int (nI k)) (C := RX2) (T := TX2) (N := 2) hx hb hts hin2 hown hK.1 hP 0 rfl rfl 1 (by decide) k_0 (fun _ h9 => h9) rfl dX2_push_1 ?_
  refine lv_aload_n hx hb dX2_push_4 rfl (lv_at hl 0 rfl) ?_
  refine va_get (D := D) (ci := 2) (v := .ref a_rw) (C := RX2) (T := TX2) (N := 2) hx hb hts hin2 hown hK.1 hP 0 rfl rfl 0 (by decide) k_1 (fun _ h9 => h9) rfl dX2_push_5 ?_
  refine va_alen (v := nI N) hx hb hK.1 hP 1 2 rfl rfl rfl dX2_push_8 ?_
  refine lv_icmp_lt (tgt := 16) hx hb dX2_push_9 (by decide) (fun c1 => ?_) (fun c1 => ?_)
  · have hlt := (nI_ltI (a := k) (b := N) (by omega) (by omega)).mp c1
    refine J16 k as vs s.heap [] ls hlt hla hlv hP hD hS hl (fun H locs hP hD hS ls => ?_)
    refine hret () H locs _ ls trivial ?_ ?_ hS dX2_push_40
    · simp only [pushK, pushA, pushV, if_pos hlt]
      exact hP
    · simp only [pushK, pushA, pushV, if_pos hlt]
      exact hD
  · have hkN : k = N := by
      have h : ¬ k < N := fun h => c1 ((nI_ltI (by omega) (by omega)).mpr h)
      omega
    subst hkN
    refine lv_aload_n hx hb dX2_push_12 rfl (lv_at hl 0 rfl) ?_
    have hP : va_P D vwCl ([(h2, .inr (2, [.ref a_rw, .int (nI k)])), (a_rw, .inl (cQ, k, .inr (.inr (.inr (.inr (rwf as))))))] ++ ([(h0, .inr (0, [.ref a_kd, .ref a_hd, .ref a_pl, .ref a_st, .ref a_ho, .ref a_be, .int nc, .int nn, .int dy])), (a_kd, .inl (cI, 7, .inl kd)), (a_hd, .inl (cI, 7, .inl hd)), (a_pl, .inl (cI, 7, .inl pl)), (a_st, .inl (cI, 7, .inl st)), (a_ho, .inl (cI, 6, .inl ho)), (a_be, .inl (cI, 42, .inl be))] ++ pool cI as vs)) s.heap := hP
    have hD : va_D A ([(h2, .inr (2, [.ref a_rw, .int (nI k)])), (a_rw, .inl (cQ, k, .inr (.inr (.inr (.inr (rwf as))))))] ++ ([(h0, .inr (0, [.ref a_kd, .ref a_hd, .ref a_pl, .ref a_st, .ref a_ho, .ref a_be, .int nc, .int nn, .int dy])), (a_kd, .inl (cI, 7, .inl kd)), (a_hd, .inl (cI, 7, .inl hd)), (a_pl, .inl (cI, 7, .inl pl)), (a_st, .inl (cI, 7, .inl st)), (a_ho, .inl (cI, 6, .inl ho)), (a_be, .inl (cI, 42, .inl be))] ++ pool cI as vs)) := hD
    have hk1 : ¬ nI k < 1 := fun h => absurd ((nI_ltI (a := k) (b := 1) (by omega) (by omega)).mp h) (by omega)
    refine k0V_v (As := []) (n := 0) ⟨hx, hb, hml, hown, hts⟩ hK hP hD hS hA (c_X2_loseOldest l D cI cC cQ h2 a_rw k as (nI k) ([(h0, .inr (0, [.ref a_kd, .ref a_hd, .ref a_pl, .ref a_st, .ref a_ho, .ref a_be, .int nc, .int nn, .int dy])), (a_kd, .inl (cI, 7, .inl kd)), (a_hd, .inl (cI, 7, .inl hd)), (a_pl, .inl (cI, 7, .inl pl)), (a_st, .inl (cI, 7, .inl st)), (a_ho, .inl (cI, 6, .inl ho)), (a_be, .inl (cI, 42, .inl be))] ++ pool cI as vs) hla h1N hN2 hk1 (fun j a ha => by
      obtain ⟨fs, hfs⟩ := pool_obj cI as vs (hla.trans hlv.symm) ha
      exact ⟨fs, List.mem_append_right _ hfs⟩)) gX2_push_X2_loseOldest rfl rfl ⟨rfl, rfl⟩ yoX2_loseOldest ⟨Nat.le_of_ble_eq_true rfl, Nat.le_of_ble_eq_true rfl⟩ (q0 := 0) (ci := 2) rfl rfl rfl rfl hl.1 rfl (Nat.le_of_ble_eq_true rfl) dX2_push_13 ⟨Nat.zero_le _, Nat.zero_le _⟩ (fun u H locs h hP hD hS => ?_)
    rw [sh_m1 (by omega) (by omega)] at hP hD
    have hpr := (pool_rot cI as vs (hla.trans hlv.symm)).append_left [(h2, .inr (2, [.ref a_rw, .int (nI (k - 1))])), (a_rw, .inl (cQ, k, .inr (.inr (.inr (.inr (rwf (rot as))))))), (h0, .inr (0, [.ref a_kd, .ref a_hd, .ref a_pl, .ref a_st, .ref a_ho, .ref a_be, .int nc, .int nn, .int dy])), (a_kd, .inl (cI, 7, .inl kd)), (a_hd, .inl (cI, 7, .inl hd)), (a_pl, .inl (cI, 7, .inl pl)), (a_st, .inl (cI, 7, .inl st)), (a_ho, .inl (cI, 6, .inl ho)), (a_be, .inl (cI, 42, .inl be))]
    have hP : va_P D vwCl ([(h2, .inr (2, [.ref a_rw, .int (nI (k - 1))])), (a_rw, .inl (cQ, k, .inr (.inr (.inr (.inr (rwf (rot as))))))), (h0, .inr (0, [.ref a_kd, .ref a_hd, .ref a_pl, .ref a_st, .ref a_ho, .ref a_be, .int nc, .int nn, .int dy])), (a_kd, .inl (cI, 7, .inl kd)), (a_hd, .inl (cI, 7, .inl hd)), (a_pl, .inl (cI, 7, .inl pl)), (a_st, .inl (cI, 7, .inl st)), (a_ho, .inl (cI, 6, .inl ho)), (a_be, .inl (cI, 42, .inl be))] ++ pool cI (rot as) (rot vs)) H := vaP_perm hpr hP
    have hD : va_D A ([(h2, .inr (2, [.ref a_rw, .int (nI (k - 1))])), (a_rw, .inl (cQ, k, .inr (.inr (.inr (.inr (rwf (rot as))))))), (h0, .inr (0, [.ref a_kd, .ref a_hd, .ref a_pl, .ref a_st, .ref a_ho, .ref a_be, .int nc, .int nn, .int dy])), (a_kd, .inl (cI, 7, .inl kd)), (a_hd, .inl (cI, 7, .inl hd)), (a_pl, .inl (cI, 7, .inl pl)), (a_st, .inl (cI, 7, .inl st)), (a_ho, .inl (cI, 6, .inl ho)), (a_be, .inl (cI, 42, .inl be))] ++ pool cI (rot as) (rot vs)) := vaD_perm hpr hD
    refine J16 (k - 1) (rot as) (rot vs) H locs ls (by omega) (by rw [rot_len]; exact hla) (by rw [rot_len]; exact hlv) hP hD hS hl (fun H locs hP hD hS ls => ?_)
    have e1 : k - 1 + 1 = k := by omega
    rw [e1] at hP hD
    refine hret () H locs _ ls trivial ?_ ?_ hS dX2_push_40
    · simp only [pushK, pushA, pushV, if_neg (Nat.lt_irrefl k)]
      exact hP
    · simp only [pushK, pushA, pushV, if_neg (Nat.lt_irrefl k)]
      exact hD
abbrev rmX2_pullInto : Room := { frames := 2, cells := 0, slots := 0, locals := 90 }
theorem yoX2_pullInto : yX2_pullInto.cls ≠ "java/lang/invoke/MethodHandle" ∧ yX2_pullInto.cls ≠ "java/lang/invoke/VarHandle" ∧ (parseMethodDescriptor yX2_pullInto.desc).map (fun d => d.parameters.length) = some 1 := by decide +kernel
theorem perm6 {α : Type} (C O b p : List α) : ((C ++ O) ++ (b ++ p)).Perm ((C ++ b) ++ (O ++ p)) := by
  simp only [List.append_assoc]
  exact (List.perm_append_comm_assoc O b p).append_left C
theorem perm7 {α : Type} (C O b p : List α) : ((C ++ b) ++ (O ++ p)).Perm ((O ++ C) ++ (b ++ p)) := by
  have h1 : ((C ++ b) ++ (O ++ p)).Perm (O ++ ((C ++ b) ++ p)) := List.perm_append_comm_assoc _ _ _
  exact h1.trans (by simp only [List.append_assoc]; exact List.Perm.refl _)
set_option maxHeartbeats 4000000 in
set_option maxRecDepth 100000 in
/-- Shelf.pullInto: the court is as the top one was, which is laid by no more -/
theorem c_X2_pullInto (l : Launch) (D : va_G) (cI cC cQ : ClassId) (h2 a_rw N : Nat) (k : Nat) (as : List CA) (vs : List CV) (h0 : Nat) (a_kd : Nat) (a_hd : Nat) (a_pl : Nat) (a_st : Nat) (a_ho : Nat) (a_be : Nat) (kd : Nat → Int32) (hd : Nat → Int32) (pl : Nat → Int32) (st : Nat → Int32) (ho : Nat → Int32) (be : Nat → Int32) (nc : Int32) (nn : Int32) (dy : Int32) (hk : k ≤ N) (hN2 : N < 1000) (hla : as.length = N) (hlv : vs.length = N) : Ci (S := Unit) l D cI cC cQ yX2_pullInto wsX2_pullInto rmX2_pullInto [.ref h2, .ref h0] ([(h2, .inr (2, [.ref a_rw, .int (nI k)])), (a_rw, .inl (cQ, N, .inr (.inr (.inr (.inr (rwf as)))))), (h0, .inr (0, [.ref a_kd, .ref a_hd, .ref a_pl, .ref a_st, .ref a_ho, .ref a_be, .int nc, .int nn, .int dy])), (a_kd, .inl (cI, 7, .inl kd)), (a_hd, .inl (cI, 7, .inl hd)), (a_pl, .inl (cI, 7, .inl pl)), (a_st, .inl (cI, 7, .inl st)), (a_ho, .inl (cI, 6, .inl ho)), (a_be, .inl (cI, 42, .inl be))] ++ pool cI as vs) (fun _ => [(h2, .inr (2, [.ref a_rw, .int (nI (k - 1))])), (a_rw, .inl (cQ, N, .inr (.inr (.inr (.inr (rwf as)))))), (h0, .inr (0, [.ref a_kd, .ref a_hd, .ref a_pl, .ref a_st, .ref a_ho, .ref a_be, .int (if k = 0 then (kd, hd, pl, st, ho, be, nc, nn, dy) else cpyCV (vs.getD (k - 1) (kd, hd, pl, st, ho, be, nc, nn, dy)) (kd, hd, pl, st, ho, be, nc, nn, dy)).2.2.2.2.2.2.1, .int (if k = 0 then (kd, hd, pl, st, ho, be, nc, nn, dy) else cpyCV (vs.getD (k - 1) (kd, hd, pl, st, ho, be, nc, nn, dy)) (kd, hd, pl, st, ho, be, nc, nn, dy)).2.2.2.2.2.2.2.1, .int (if k = 0 then (kd, hd, pl, st, ho, be, nc, nn, dy) else cpyCV (vs.getD (k - 1) (kd, hd, pl, st, ho, be, nc, nn, dy)) (kd, hd, pl, st, ho, be, nc, nn, dy)).2.2.2.2.2.2.2.2])), (a_kd, .inl (cI, 7, .inl (if k = 0 then (kd, hd, pl, st, ho, be, nc, nn, dy) else cpyCV (vs.getD (k - 1) (kd, hd, pl, st, ho, be, nc, nn, dy)) (kd, hd, pl, st, ho, be, nc, nn, dy)).1)), (a_hd, .inl (cI, 7, .inl (if k = 0 then (kd, hd, pl, st, ho, be, nc, nn, dy) else cpyCV (vs.getD (k - 1) (kd, hd, pl, st, ho, be, nc, nn, dy)) (kd, hd, pl, st, ho, be, nc, nn, dy)).2.1)), (a_pl, .inl (cI, 7, .inl (if k = 0 then (kd, hd, pl, st, ho, be, nc, nn, dy) else cpyCV (vs.getD (k - 1) (kd, hd, pl, st, ho, be, nc, nn, dy)) (kd, hd, pl, st, ho, be, nc, nn, dy)).2.2.1)), (a_st, .inl (cI, 7, .inl (if k = 0 then (kd, hd, pl, st, ho, be, nc, nn, dy) else cpyCV (vs.getD (k - 1) (kd, hd, pl, st, ho, be, nc, nn, dy)) (kd, hd, pl, st, ho, be, nc, nn, dy)).2.2.2.1)), (a_ho, .inl (cI, 6, .inl (if k = 0 then (kd, hd, pl, st, ho, be, nc, nn, dy) else cpyCV (vs.getD (k - 1) (kd, hd, pl, st, ho, be, nc, nn, dy)) (kd, hd, pl, st, ho, be, nc, nn, dy)).2.2.2.2.1)), (a_be, .inl (cI, 42, .inl (if k = 0 then (kd, hd, pl, st, ho, be, nc, nn, dy) else cpyCV (vs.getD (k - 1) (kd, hd, pl, st, ho, be, nc, nn, dy)) (kd, hd, pl, st, ho, be, nc, nn, dy)).2.2.2.2.2.1))] ++ pool cI as vs) (fun r _ => (r = 0 ∨ r = 1) ∧ r = if k = 0 then 0 else 1) := by
  refine Cz_mk (cc := cX2_pullInto) (maxL := 3) (by decide) rfl (Nat.le_of_ble_eq_true rfl) ?_
  intro p e s m args below meth c A Z ls hx hb hml hown hts hK hA hP hD hret hl
  have hS : va_S A s.heap s.heap [] := va_S.rf
  have hin2 : ∀ w ∈ u_ws RX2 TX2 2, w ∈ wsX2_pullInto := by decide +kernel
  have k_0 := hts (.fieldLink RX2 16 "DoubtCourt$Shelf" "used" "I") (by decide +kernel)
  have hl : lv_has ls 3 [(0, .ref h2), (1, .ref h0)] := hl
  refine lv_aload_n hx hb dX2_pullInto_0 rfl (lv_at hl 0 rfl) ?_
  refine kqV_q (wr := [(h0, .inr (0, [.ref a_kd, .ref a_hd, .ref a_pl, .ref a_st, .ref a_ho, .ref a_be, .int nc, .int nn, .int dy])), (a_kd, .inl (cI, 7, .inl kd)), (a_hd, .inl (cI, 7, .inl hd)), (a_pl, .inl (cI, 7, .inl pl)), (a_st, .inl (cI, 7, .inl st)), (a_ho, .inl (cI, 6, .inl ho)), (a_be, .inl (cI, 42, .inl be))]) (As := []) (n := 0) ⟨hx, hb, hml, hown, hts⟩ hK hP hD hS hA (c_X2_last l D cI cC cQ h2 a_rw N (rwf as) k hN2 hk) gX2_pullInto_X2_last rfl rfl ⟨rfl, rfl⟩ yoX2_last ⟨Nat.le_of_ble_eq_true rfl, Nat.le_of_ble_eq_true rfl⟩ (q0 := 0) (ci := 2) rfl rfl rfl rfl hl.1 rfl (Nat.le_of_ble_eq_true rfl) dX2_pullInto_1 ⟨Nat.zero_le _, Nat.zero_le _⟩ [0, 1] [2, 3, 4, 5, 6, 7, 8] rfl (by decide) rfl (by decide) (by decide) (fun r u H locs h hP hD hS => ?_)
  by_cases hk0 : k = 0
  · rw [if_pos hk0] at h
    subst h
    have ek0 : k - 1 = k := by omega
    refine lv_astore_nN (lv' := [(2, .null), (0, .ref h2), (1, .ref h0)]) hx hb dX2_pullInto_4 rfl hl (by decide) rfl (fun ls hl => ?_)
    refine lv_aload_nN hx hb dX2_pullInto_5 rfl (lv_at hl 0 rfl) ?_
    refine lv_ifnonnullN hx hb dX2_pullInto_6 ?_
    refine lv_iconst (v := 0) hx hb dX2_pullInto_9 (by decide) ?_
    have hp0 : List.Perm (α := Nat × va_E) (([(h0, .inr (0, [.ref a_kd, .ref a_hd, .ref a_pl, .ref a_st, .ref a_ho, .ref a_be, .int nc, .int nn, .int dy])), (a_kd, .inl (cI, 7, .inl kd)), (a_hd, .inl (cI, 7, .inl hd)), (a_pl, .inl (cI, 7, .inl pl)), (a_st, .inl (cI, 7, .inl st)), (a_ho, .inl (cI, 6, .inl ho)), (a_be, .inl (cI, 42, .inl be))] ++ [(h2, .inr (2, [.ref a_rw, .int (nI k)])), (a_rw, .inl (cQ, N, .inr (.inr (.inr (.inr (rwf as))))))]) ++ pool cI as vs) (([(h2, .inr (2, [.ref a_rw, .int (nI k)])), (a_rw, .inl (cQ, N, .inr (.inr (.inr (.inr (rwf as))))))] ++ [(h0, .inr (0, [.ref a_kd, .ref a_hd, .ref a_pl, .ref a_st, .ref a_ho, .ref a_be, .int nc, .int nn, .int dy])), (a_kd, .inl (cI, 7, .inl kd)), (a_hd, .inl (cI, 7, .inl hd)), (a_pl, .inl (cI, 7, .inl pl)), (a_st, .inl (cI, 7, .inl st)), (a_ho, .inl (cI, 6, .inl ho)), (a_be, .inl (cI, 42, .inl be))]) ++ pool cI as vs) := List.perm_append_comm.append_right _
    refine hret 0 () H locs _ ls (by decide) (by rw [if_pos hk0]) ?_ ?_ hS dX2_pullInto_10
    · simp only [if_pos hk0, ek0]
      exact vaP_perm hp0 hP
    · simp only [if_pos hk0, ek0]
      exact vaD_perm hp0 hD
  · obtain ⟨a, ha⟩ : ∃ a, as[k - 1]? = some a := ⟨_, List.getElem?_eq_getElem (by omega)⟩
    obtain ⟨v, hv⟩ : ∃ v, vs[k - 1]? = some v := ⟨_, List.getElem?_eq_getElem (by omega)⟩
    have hgd : vs.getD (k - 1) (kd, hd, pl, st, ho, be, nc, nn, dy) = v := by rw [List.getD_eq_getElem?_getD, hv]; rfl
    have ek : rwf as (k - 1) = some a.1 := by simp [rwf, ha]
    rw [if_neg hk0, ek] at h
    subst h
    refine lv_astore_n (x := a.1) (lv' := [(2, .ref a.1), (0, .ref h2), (1, .ref h0)]) hx hb dX2_pullInto_4 rfl hl (by decide) rfl (fun ls hl => ?_)
    refine lv_aload_n hx hb dX2_pullInto_5 rfl (lv_at hl 0 rfl) ?_
    refine lv_ifnonnull (tgt := 11) hx hb dX2_pullInto_6 (by decide) ?_
    refine lv_aload_n hx hb dX2_pullInto_11 rfl (lv_at hl 2 rfl) ?_
    refine lv_aload_n hx hb dX2_pullInto_12 rfl (lv_at hl 0 rfl) ?_
    have hp1 : List.Perm (α := Nat × va_E) (([(h0, .inr (0, [.ref a_kd, .ref a_hd, .ref a_pl, .ref a_st, .ref a_ho, .ref a_be, .int nc, .int nn, .int dy])), (a_kd, .inl (cI, 7, .inl kd)), (a_hd, .inl (cI, 7, .inl hd)), (a_pl, .inl (cI, 7, .inl pl)), (a_st, .inl (cI, 7, .inl st)), (a_ho, .inl (cI, 6, .inl ho)), (a_be, .inl (cI, 42, .inl be))] ++ [(h2, .inr (2, [.ref a_rw, .int (nI k)])), (a_rw, .inl (cQ, N, .inr (.inr (.inr (.inr (rwf as))))))]) ++ pool cI as vs) (([(h0, .inr (0, [.ref a_kd, .ref a_hd, .ref a_pl, .ref a_st, .ref a_ho, .ref a_be, .int nc, .int nn, .int dy])), (a_kd, .inl (cI, 7, .inl kd)), (a_hd, .inl (cI, 7, .inl hd)), (a_pl, .inl (cI, 7, .inl pl)), (a_st, .inl (cI, 7, .inl st)), (a_ho, .inl (cI, 6, .inl ho)), (a_be, .inl (cI, 42, .inl be))] ++ cb cI a v) ++ ([(h2, .inr (2, [.ref a_rw, .int (nI k)])), (a_rw, .inl (cQ, N, .inr (.inr (.inr (.inr (rwf as))))))] ++ pool cI (as.eraseIdx (k - 1)) (vs.eraseIdx (k - 1)))) := ((pool_perm cI (k - 1) as vs a v ha hv).append_left _).trans (perm6 _ _ _ _)
    have hP : va_P D vwCl ([(h0, .inr (0, [.ref a_kd, .ref a_hd, .ref a_pl, .ref a_st, .ref a_ho, .ref a_be, .int nc, .int nn, .int dy])), (a_kd, .inl (cI, 7, .inl kd)), (a_hd, .inl (cI, 7, .inl hd)), (a_pl, .inl (cI, 7, .inl pl)), (a_st, .inl (cI, 7, .inl st)), (a_ho, .inl (cI, 6, .inl ho)), (a_be, .inl (cI, 42, .inl be)), (a.1, .inr (0, [.ref a.2.1, .ref a.2.2.1, .ref a.2.2.2.1, .ref a.2.2.2.2.1, .ref a.2.2.2.2.2.1, .ref a.2.2.2.2.2.2, .int v.2.2.2.2.2.2.1, .int v.2.2.2.2.2.2.2.1, .int v.2.2.2.2.2.2.2.2])), (a.2.1, .inl (cI, 7, .inl v.1)), (a.2.2.1, .inl (cI, 7, .inl v.2.1)), (a.2.2.2.1, .inl (cI, 7, .inl v.2.2.1)), (a.2.2.2.2.1, .inl (cI, 7, .inl v.2.2.2.1)), (a.2.2.2.2.2.1, .inl (cI, 6, .inl v.2.2.2.2.1)), (a.2.2.2.2.2.2, .inl (cI, 42, .inl v.2.2.2.2.2.1))] ++ ([(h2, .inr (2, [.ref a_rw, .int (nI k)])), (a_rw, .inl (cQ, N, .inr (.inr (.inr (.inr (rwf as))))))] ++ pool cI (as.eraseIdx (k - 1)) (vs.eraseIdx (k - 1)))) H := vaP_perm hp1 hP
    have hD : va_D A ([(h0, .inr (0, [.ref a_kd, .ref a_hd, .ref a_pl, .ref a_st, .ref a_ho, .ref a_be, .int nc, .int nn, .int dy])), (a_kd, .inl (cI, 7, .inl kd)), (a_hd, .inl (cI, 7, .inl hd)), (a_pl, .inl (cI, 7, .inl pl)), (a_st, .inl (cI, 7, .inl st)), (a_ho, .inl (cI, 6, .inl ho)), (a_be, .inl (cI, 42, .inl be)), (a.1, .inr (0, [.ref a.2.1, .ref a.2.2.1, .ref a.2.2.2.1, .ref a.2.2.2.2.1, .ref a.2.2.2.2.2.1, .ref a.2.2.2.2.2.2, .int v.2.2.2.2.2.2.1, .int v.2.2.2.2.2.2.2.1, .int v.2.2.2.2.2.2.2.2])), (a.2.1, .inl (cI, 7, .inl v.1)), (a.2.2.1, .inl (cI, 7, .inl v.2.1)), (a.2.2.2.1, .inl (cI, 7, .inl v.2.2.1)), (a.2.2.2.2.1, .inl (cI, 7, .inl v.2.2.2.1)), (a.2.2.2.2.2.1, .inl (cI, 6, .inl v.2.2.2.2.1)), (a.2.2.2.2.2.2, .inl (cI, 42, .inl v.2.2.2.2.2.1))] ++ ([(h2, .inr (2, [.ref a_rw, .int (nI k)])), (a_rw, .inl (cQ, N, .inr (.inr (.inr (.inr (rwf as))))))] ++ pool cI (as.eraseIdx (k - 1)) (vs.eraseIdx (k - 1)))) := vaD_perm hp1 hD
    refine k0V_v (As := [.ref a.1]) (n := 1) ⟨hx, hb, hml, hown, hts⟩ hK hP hD hS hA (frame_Cv (c_X0_copyFrom l D cI cC cQ h0 a_kd a_hd a_pl a_st a_ho a_be a.1 a.2.1 a.2.2.1 a.2.2.2.1 a.2.2.2.2.1 a.2.2.2.2.2.1 a.2.2.2.2.2.2 kd hd pl st ho be nc nn dy v.1 v.2.1 v.2.2.1 v.2.2.2.1 v.2.2.2.2.1 v.2.2.2.2.2.1 v.2.2.2.2.2.2.1 v.2.2.2.2.2.2.2.1 v.2.2.2.2.2.2.2.2 (fun kd1 hd1 pl1 st1 ho1 be1 nc1 nn1 dy1 => (kd1, hd1, pl1, st1, ho1, be1, nc1, nn1, dy1) = cpyCV v (kd, hd, pl, st, ho, be, nc, nn, dy)) rfl) _) gX2_pullInto_X0_copyFrom rfl rfl ⟨rfl, rfl⟩ yoX0_copyFrom ⟨Nat.le_of_ble_eq_true rfl, Nat.le_of_ble_eq_true rfl⟩ (q0 := 0) (ci := 0) rfl rfl rfl rfl hl.1 rfl (Nat.le_of_ble_eq_true rfl) dX2_pullInto_13 ⟨Nat.zero_le _, Nat.zero_le _⟩ (fun u H locs h hP hD hS => ?_)
    have hu : u = cpyCV v (kd, hd, pl, st, ho, be, nc, nn, dy) := h
    subst hu
    have hp2 : List.Perm (α := Nat × va_E) (([(h0, .inr (0, [.ref a_kd, .ref a_hd, .ref a_pl, .ref a_st, .ref a_ho, .ref a_be, .int (cpyCV v (kd, hd, pl, st, ho, be, nc, nn, dy)).2.2.2.2.2.2.1, .int (cpyCV v (kd, hd, pl, st, ho, be, nc, nn, dy)).2.2.2.2.2.2.2.1, .int (cpyCV v (kd, hd, pl, st, ho, be, nc, nn, dy)).2.2.2.2.2.2.2.2])), (a_kd, .inl (cI, 7, .inl (cpyCV v (kd, hd, pl, st, ho, be, nc, nn, dy)).1)), (a_hd, .inl (cI, 7, .inl (cpyCV v (kd, hd, pl, st, ho, be, nc, nn, dy)).2.1)), (a_pl, .inl (cI, 7, .inl (cpyCV v (kd, hd, pl, st, ho, be, nc, nn, dy)).2.2.1)), (a_st, .inl (cI, 7, .inl (cpyCV v (kd, hd, pl, st, ho, be, nc, nn, dy)).2.2.2.1)), (a_ho, .inl (cI, 6, .inl (cpyCV v (kd, hd, pl, st, ho, be, nc, nn, dy)).2.2.2.2.1)), (a_be, .inl (cI, 42, .inl (cpyCV v (kd, hd, pl, st, ho, be, nc, nn, dy)).2.2.2.2.2.1))] ++ cb cI a v) ++ ([(h2, .inr (2, [.ref a_rw, .int (nI k)])), (a_rw, .inl (cQ, N, .inr (.inr (.inr (.inr (rwf as))))))] ++ pool cI (as.eraseIdx (k - 1)) (vs.eraseIdx (k - 1)))) (([(h2, .inr (2, [.ref a_rw, .int (nI k)])), (a_rw, .inl (cQ, N, .inr (.inr (.inr (.inr (rwf as))))))] ++ [(h0, .inr (0, [.ref a_kd, .ref a_hd, .ref a_pl, .ref a_st, .ref a_ho, .ref a_be, .int (cpyCV v (kd, hd, pl, st, ho, be, nc, nn, dy)).2.2.2.2.2.2.1, .int (cpyCV v (kd, hd, pl, st, ho, be, nc, nn, dy)).2.2.2.2.2.2.2.1, .int (cpyCV v (kd, hd, pl, st, ho, be, nc, nn, dy)).2.2.2.2.2.2.2.2])), (a_kd, .inl (cI, 7, .inl (cpyCV v (kd, hd, pl, st, ho, be, nc, nn, dy)).1)), (a_hd, .inl (cI, 7, .inl (cpyCV v (kd, hd, pl, st, ho, be, nc, nn, dy)).2.1)), (a_pl, .inl (cI, 7, .inl (cpyCV v (kd, hd, pl, st, ho, be, nc, nn, dy)).2.2.1)), (a_st, .inl (cI, 7, .inl (cpyCV v (kd, hd, pl, st, ho, be, nc, nn, dy)).2.2.2.1)), (a_ho, .inl (cI, 6, .inl (cpyCV v (kd, hd, pl, st, ho, be, nc, nn, dy)).2.2.2.2.1)), (a_be, .inl (cI, 42, .inl (cpyCV v (kd, hd, pl, st, ho, be, nc, nn, dy)).2.2.2.2.2.1))]) ++ pool cI as vs) := (perm7 _ _ _ _).trans ((pool_perm cI (k - 1) as vs a v ha hv).symm.append_left _)
    have hP : va_P D vwCl ([(h2, .inr (2, [.ref a_rw, .int (nI k)])), (a_rw, .inl (cQ, N, .inr (.inr (.inr (.inr (rwf as)))))), (h0, .inr (0, [.ref a_kd, .ref a_hd, .ref a_pl, .ref a_st, .ref a_ho, .ref a_be, .int (cpyCV v (kd, hd, pl, st, ho, be, nc, nn, dy)).2.2.2.2.2.2.1, .int (cpyCV v (kd, hd, pl, st, ho, be, nc, nn, dy)).2.2.2.2.2.2.2.1, .int (cpyCV v (kd, hd, pl, st, ho, be, nc, nn, dy)).2.2.2.2.2.2.2.2])), (a_kd, .inl (cI, 7, .inl (cpyCV v (kd, hd, pl, st, ho, be, nc, nn, dy)).1)), (a_hd, .inl (cI, 7, .inl (cpyCV v (kd, hd, pl, st, ho, be, nc, nn, dy)).2.1)), (a_pl, .inl (cI, 7, .inl (cpyCV v (kd, hd, pl, st, ho, be, nc, nn, dy)).2.2.1)), (a_st, .inl (cI, 7, .inl (cpyCV v (kd, hd, pl, st, ho, be, nc, nn, dy)).2.2.2.1)), (a_ho, .inl (cI, 6, .inl (cpyCV v (kd, hd, pl, st, ho, be, nc, nn, dy)).2.2.2.2.1)), (a_be, .inl (cI, 42, .inl (cpyCV v (kd, hd, pl, st, ho, be, nc, nn, dy)).2.2.2.2.2.1))] ++ pool cI as vs) H := vaP_perm hp2 hP
    have hD : va_D A ([(h2, .inr (2, [.ref a_rw, .int (nI k)])), (a_rw, .inl (cQ, N, .inr (.inr (.inr (.inr (rwf as)))))), (h0, .inr (0, [.ref a_kd, .ref a_hd, .ref a_pl, .ref a_st, .ref a_ho, .ref a_be, .int (cpyCV v (kd, hd, pl, st, ho, be, nc, nn, dy)).2.2.2.2.2.2.1, .int (cpyCV v (kd, hd, pl, st, ho, be, nc, nn, dy)).2.2.2.2.2.2.2.1, .int (cpyCV v (kd, hd, pl, st, ho, be, nc, nn, dy)).2.2.2.2.2.2.2.2])), (a_kd, .inl (cI, 7, .inl (cpyCV v (kd, hd, pl, st, ho, be, nc, nn, dy)).1)), (a_hd, .inl (cI, 7, .inl (cpyCV v (kd, hd, pl, st, ho, be, nc, nn, dy)).2.1)), (a_pl, .inl (cI, 7, .inl (cpyCV v (kd, hd, pl, st, ho, be, nc, nn, dy)).2.2.1)), (a_st, .inl (cI, 7, .inl (cpyCV v (kd, hd, pl, st, ho, be, nc, nn, dy)).2.2.2.1)), (a_ho, .inl (cI, 6, .inl (cpyCV v (kd, hd, pl, st, ho, be, nc, nn, dy)).2.2.2.2.1)), (a_be, .inl (cI, 42, .inl (cpyCV v (kd, hd, pl, st, ho, be, nc, nn, dy)).2.2.2.2.2.1))] ++ pool cI as vs) := vaD_perm hp2 hD
    refine lv_aload_n hx hb dX2_pullInto_16 rfl (lv_at hl 1 rfl) ?_
    refine lv_dup hx hb dX2_pullInto_17 rfl ?_
    refine va_get (D := D) (ci := 2) (v := .int (nI k)) (C := RX2) (T := TX2) (N := 2) hx hb hts hin2 hown hK.1 hP 0 rfl rfl 1 (by decide) k_0 (fun _ h9 => h9) rfl dX2_pullInto_18 ?_
    refine lv_iconst (v := 1) hx hb dX2_pullInto_21 (by decide) ?_
    refine lv_isub hx hb dX2_pullInto_22 ?_
    rw [sh_m1 (by omega) (by omega)]
    refine va_put (D := D) (ci := 2) (v := .int (nI (k - 1))) (ty := .int) (C := RX2) (T := TX2) (N := 2) hx hb hts hin2 tyX2 tyX2_ok nmX2 hown hK.1 hP hD hS 0 rfl rfl 1 (by decide) k_0 (fun _ h9 => h9) rfl (by decide +kernel) rfl rfl (Nat.le_of_ble_eq_true rfl) dX2_pullInto_23 (fun H locs hP hD hS => ?_)
    refine lv_iconst (v := 1) hx hb dX2_pullInto_26 (by decide) ?_
    refine hret 1 () H locs _ ls (by decide) (by rw [if_neg hk0]) ?_ ?_ hS dX2_pullInto_27
    · simp only [if_neg hk0, hgd]
      exact hP
    · simp only [if_neg hk0, hgd]
      exact hD
