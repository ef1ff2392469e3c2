def fBy : List Int32 := fT.map nI
theorem fBy_ok : ∀ i, i < 70 → fBy.getD i 0 = nI (ltr fT i) := by decide +kernel
theorem nz_all : nz_ws.all (fun w => decide (w ∈ lw_tbl)) = true := by decide +kernel
theorem nz_in : ∀ w ∈ nz_ws, w ∈ lw_tbl := fun w h => of_decide_eq_true (List.all_eq_true.mp nz_all w h)
theorem nz_on : ∀ w ∈ nz_ws, w.onTables = true := by decide +kernel
theorem narrow_el : ∀ j, j < 70 → (Cond.eq (.elem (.field (.string "DoubtCourt" 55) "java/lang/String" "value" "[B") (.int (Int32.ofNat j))) (.int (fBy.getD j 0))) ∈ flatC (Jvm.Cond.and given_1 narrow_1) := by decide +kernel
set_option maxHeartbeats 4000000 in
set_option maxRecDepth 100000 in
/-- the string, the statics, the classes, as the tables have them-/
theorem law_env {s : State} {b : Nat} (hts0 : ∀ w ∈ lw_tbl, w.before #[Value.ref b] s = true) (hgv : (Jvm.Cond.and given_1 narrow_1).before #[Value.ref b] s = true) : ∃ (D : va_G) (cI cC cQ : ClassId) (K V : Nat) (bs : Nat → Int32), (∀ i, i < 70 → bs i = nI (ltr fT i)) ∧ kz D cI cC cQ s ∧ sE K V bs (lA s) s s.heap := by
  have hT : ∀ w ∈ tables_1, w.before #[Value.ref b] s = true := fun w h => hts0 w (List.mem_append_right _ h)
  have hts : ∀ w ∈ wsL_law, w.before #[Value.ref b] s = true := fun w h => hts0 w (wsL_law_in w h)
  have hA : ∀ a : Nat, a < s.heap.size → ¬ lA s a := fun a h => Nat.not_le.mpr h
  have hq := flat_of_before _ hgv
  obtain ⟨c0, i0, k0⟩ := u_known (C := RX0) (T := TX0) (N := 9) (n := 9) hts inlX0 (hT (.instantiable RX0 9) (List.mem_of_getElem? (i := 42) (by decide +kernel)))
  obtain ⟨c1, i1, k1⟩ := u_known (C := RX1) (T := TX1) (N := 1) (n := 1) hts inlX1 (hT (.instantiable RX1 1) (List.mem_of_getElem? (i := 122) (by decide +kernel)))
  obtain ⟨c2, i2, k2⟩ := u_known (C := RX2) (T := TX2) (N := 2) (n := 2) hts inlX2 (hT (.instantiable RX2 2) (List.mem_of_getElem? (i := 88) (by decide +kernel)))
  obtain ⟨c3, i3, k3⟩ := u_known (C := RX3) (T := TX3) (N := 3) (n := 3) hts inlX3 (hT (.instantiable RX3 3) (List.mem_of_getElem? (i := 105) (by decide +kernel)))
  obtain ⟨c4, i4, k4⟩ := u_known (C := RX4) (T := TX4) (N := 3) (n := 3) hts inlX4 (hT (.instantiable RX4 3) (List.mem_of_getElem? (i := 24) (by decide +kernel)))
  obtain ⟨c5, i5, k5⟩ := u_known (C := RX5) (T := TX5) (N := 8) (n := 8) hts inlX5 (hT (.instantiable RX5 8) (List.mem_of_getElem? (i := 16) (by decide +kernel)))
  obtain ⟨c6, i6, k6⟩ := u_known (C := RX6) (T := TX6) (N := 17) (n := 17) hts inlX6 (hT (.instantiable RX6 17) (List.mem_of_getElem? (i := 617) (by decide +kernel)))
  obtain ⟨cI, kI, pI, e1, e2, e3⟩ := Cond.arrayClass_spec (hT (.arrayClass .int) (List.mem_of_getElem? (i := 86) (by decide +kernel)))
  obtain ⟨cC, kC, pC, f1, f2, f3⟩ := Cond.arrayClass_spec (hT (.arrayClass .char) (List.mem_of_getElem? (i := 40) (by decide +kernel)))
  have hAO := hT (.arrayOver (.object RX0)) (List.mem_of_getElem? (i := 94) (by decide +kernel))
  obtain ⟨pQ, cQ, kQ, g1, g2, g3, g4, g5⟩ := Cond.arrayOver_spec hAO
  obtain ⟨adK, adV, hvS, hev⟩ := vk_Sof (N := 1) (tm := fun _ => Term.string "DoubtCourt" 55) (len := [70]) (byt := [fBy]) (A := lA s) (args := #[Value.ref b]) (s := s) (fun i hi => by rcases (show i = 0 by omega) with rfl; decide) (fun i hi => hq _ (by decide +kernel)) (fun i hi => hq _ (by decide +kernel)) (fun i hi => hq _ (by decide +kernel)) (fun i hi => by rcases (show i = 0 by omega) with rfl; exact hq _ (by decide +kernel)) (fun i hi j hj => by rcases (show i = 0 by omega) with rfl; exact hq _ (narrow_el j hj)) (fun i j hi hj hij => absurd (show i = j by omega) hij) hA
  obtain ⟨v1, v2, v3, v4⟩ := hvS.1 0 (by decide)
  refine ⟨(fun k => match k with | 0 => c0 | 1 => c1 | 2 => c2 | 3 => c3 | 4 => c4 | 5 => c5 | _ => c6, fun k => match k with | 0 => i0 | 1 => i1 | 2 => i2 | 3 => i3 | 4 => i4 | 5 => i5 | _ => i6), cI, cC, cQ, adK 0, adV 0, fun j => fBy.getD j 0, fBy_ok, ⟨⟨?_, ?_⟩, ?_⟩, va_AO.of hAO, v1, v2, v3, v4, ?_, ?_, ?_⟩
  · intro k q hk
    match k, hk with
    | 0, hk => cases hk; exact k0
    | 1, hk => cases hk; exact k1
    | 2, hk => cases hk; exact k2
    | 3, hk => cases hk; exact k3
    | 4, hk => cases hk; exact k4
    | 5, hk => cases hk; exact k5
    | 6, hk => cases hk; exact k6
    | k + 7, hk => simp at hk
  · intro k q hk
    match k, hk with
    | 0, hk => cases hk; exact ⟨fun n z => ⟨fun k h => (by cases h), kI, e2, pI, e3⟩, e1⟩
    | 1, hk => cases hk; exact ⟨fun n z => ⟨fun k h => (by cases h), kC, f2, pC, f3⟩, f1⟩
    | 2, hk => cases hk; exact ⟨fun n z => ⟨fun k h => (by cases h), kQ, g3, pQ, g4⟩, kQ, pQ, g3, g4, g1, g5⟩
    | k + 3, hk => simp at hk
  · exact fun w h => va_Nw.of (nz_on w h) (hts0 w (nz_in w h))
  · exact va_Zof (args := #[Value.ref b]) (hT (.laysStatic "java/lang/String" "COMPACT_STRINGS" "Z") (List.mem_of_getElem? (i := 141) (by decide +kernel))) (hT (.initialized "java/lang/String") (List.mem_of_getElem? (i := 7) (by decide +kernel))) (va_eqt (hq (.eq (.static "java/lang/String" "COMPACT_STRINGS" "Z") (.int 1)) (by decide +kernel))) hA
  · exact va_Zqof (args := #[Value.ref b]) (hT (.laysStatic "jdk/internal/util/Preconditions" "SIOOBE_FORMATTER" "Ljava/util/function/BiFunction;") (List.mem_of_getElem? (i := 157) (by decide +kernel))) (hT (.initialized "jdk/internal/util/Preconditions") (List.mem_of_getElem? (i := 9) (by decide +kernel))) (hq (.isRef (.static "jdk/internal/util/Preconditions" "SIOOBE_FORMATTER" "Ljava/util/function/BiFunction;")) (by decide +kernel)) hA
  · exact vk_R.of (hT (.stringRef RX5 55 fTx) (List.mem_of_getElem? (i := 131) (by decide +kernel))) (hev 0 (by decide))
