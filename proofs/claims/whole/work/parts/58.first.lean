/-! the first text: what it tells, read by the class, laid by the reference -/
def fT : List Nat := [99, 48, 44, 57, 59, 99, 49, 44, 48, 59, 99, 50, 44, 49, 59, 99, 48, 44, 49, 59, 99, 51, 44, 50, 59, 99, 49, 44, 51, 59, 110, 53, 44, 48, 51, 54, 50, 49, 52, 59, 110, 51, 44, 53, 53, 48, 48, 48, 48, 59, 110, 52, 44, 57, 48, 57, 48, 57, 48, 59, 110, 53, 44, 52, 52, 52, 52, 52, 52, 59]
theorem fT_len : fT.length = 70 := rfl
theorem fT_ok : okX fT := ⟨by decide, by decide⟩
section FT
variable {T : List Nat} {tl mt : Nat → Int32} {tn my : Int32} {d : DT} {kd hd pl st ho be md mb mo ms : Nat → Int32} {nc nn : Int32}
theorem cl_c {r j j' κ ρ : Nat} {O : (Int32 → Int32 → (Nat → Int32) → (Nat → Int32) → (Nat → Int32) → (Nat → Int32) → (Nat → Int32) → (Nat → Int32) → Int32 → Int32 → Int32 → Prop) → Prop} (hz : okX T) (hc : ctX T tl tn) (hlen : j < T.length) (h99 : ltr T j = 99) (hok : cOK T (j + 1) (tM d)) (ok : okR d) (ej : nmE T (nmE T (j + 1) + 1) + 1 = j') (ek : nmV T (j + 1) = κ) (er : nmV T (nmE T (j + 1) + 1) = ρ) (ih : clsL tl tn r j' (addC d κ ρ) O) : clsL tl tn (r + 1) j d O := by
  subst ej ek er
  have hl := hz.1
  have v99 : (99 : Int32) = nI 99 := rfl
  have v200 : (200 : Int32) = nI 200 := rfl
  have b1 := nmE_b T (j + 1)
  have b2 := nmE_b T (nmE T (j + 1) + 1)
  intro Q hQ it kd hd pl st ho be nc nn hit h
  unfold wX4_readInto_L11
  rw [v200, ifF (by simp (disch := omega) only [zl_0, zl_1, zl_2, zl_3, zl_4, zl_5, zl_6, zl_7, zl_8, zl_9, zl_10, zl_14, zl_16, zl_20, zl_24, zl_32, zl_40, zl_42, zl_44, zl_48, zl_56, zl_57, zl_59, zl_60, zl_61, zl_64, zl_99, zl_100, zl_110, zl_126, zl_128, zl_200, zl_392, zl_999, zl_9999, nI_add, pk_mul, nI_leI, nI_ltI, nI_eq, nI_clamp, vpn, pk_sub]; omega), hc.1, ifF (by simp (disch := omega) only [zl_0, zl_1, zl_2, zl_3, zl_4, zl_5, zl_6, zl_7, zl_8, zl_9, zl_10, zl_14, zl_16, zl_20, zl_24, zl_32, zl_40, zl_42, zl_44, zl_48, zl_56, zl_57, zl_59, zl_60, zl_61, zl_64, zl_99, zl_100, zl_110, zl_126, zl_128, zl_200, zl_392, zl_999, zl_9999, nI_add, pk_mul, nI_leI, nI_ltI, nI_eq, nI_clamp, vpn, pk_sub]; omega), nI_1, ← hc.1]
  unfold wX4_readItem
  rw [v99, e_takes hz hc (by omega) (by omega), if_pos h99]
  refine ifn (by decide) (s_rc hz hc (by omega) h ok (fun g => absurd hok g) (fun _ a b c e f g => ifn (by decide) ?_))
  exact ih Q hQ _ _ _ _ _ _ _ _ _ (by omega) g
theorem cl_n {r j j' a p : Nat} {O : (Int32 → Int32 → (Nat → Int32) → (Nat → Int32) → (Nat → Int32) → (Nat → Int32) → (Nat → Int32) → (Nat → Int32) → Int32 → Int32 → Int32 → Prop) → Prop} (hz : okX T) (hc : ctX T tl tn) (hlen : j < T.length) (h110 : ltr T j = 110) (hok : nOK T (j + 1) (tM d) (tK d)) (ok : okR d) (ep : nmE T (j + 1) + 1 = p) (ej : p + tM d + 1 = j') (ea : nmV T (j + 1) = a) (ih : clsL tl tn r j' (addN d a (fun c => ltr T (p + c) - 48)) O) : clsL tl tn (r + 1) j d O := by
  subst ep
  subst ej ea
  have hl := hz.1
  have hm7 := ok.1
  have v99 : (99 : Int32) = nI 99 := rfl
  have v110 : (110 : Int32) = nI 110 := rfl
  have v200 : (200 : Int32) = nI 200 := rfl
  have b1 := nmE_b T (j + 1)
  intro Q hQ it kd hd pl st ho be nc nn hit h
  unfold wX4_readInto_L11
  rw [v200, ifF (by simp (disch := omega) only [zl_0, zl_1, zl_2, zl_3, zl_4, zl_5, zl_6, zl_7, zl_8, zl_9, zl_10, zl_14, zl_16, zl_20, zl_24, zl_32, zl_40, zl_42, zl_44, zl_48, zl_56, zl_57, zl_59, zl_60, zl_61, zl_64, zl_99, zl_100, zl_110, zl_126, zl_128, zl_200, zl_392, zl_999, zl_9999, nI_add, pk_mul, nI_leI, nI_ltI, nI_eq, nI_clamp, vpn, pk_sub]; omega), hc.1, ifF (by simp (disch := omega) only [zl_0, zl_1, zl_2, zl_3, zl_4, zl_5, zl_6, zl_7, zl_8, zl_9, zl_10, zl_14, zl_16, zl_20, zl_24, zl_32, zl_40, zl_42, zl_44, zl_48, zl_56, zl_57, zl_59, zl_60, zl_61, zl_64, zl_99, zl_100, zl_110, zl_126, zl_128, zl_200, zl_392, zl_999, zl_9999, nI_add, pk_mul, nI_leI, nI_ltI, nI_eq, nI_clamp, vpn, pk_sub]; omega), nI_1, ← hc.1]
  unfold wX4_readItem
  rw [v99, e_takes hz hc (by omega) (by omega), if_neg (by omega), v110, ifT rfl, e_takes hz hc (by omega) (by omega), if_pos h110]
  refine ifn (by decide) (s_rn hz hc (by omega) h ok (fun g => absurd hok g) (fun _ a b c g => ifn (by decide) (ifn (by decide) ?_)))
  exact ih Q hQ _ _ _ _ _ _ _ _ _ (by omega) g
theorem cl_e {r j : Nat} (hc : ctX T tl tn) (hlen : T.length ≤ j) (hj : j < 290) (ok : okR d) : clsL tl tn r j d (fun Q => ∀ tc a b c e f g h i k, cS d a b c e f g h i k → Q (-4) tc a b c e f g h i k) := by
  intro Q hQ it kd hd pl st ho be nc nn hit h
  unfold wX4_readInto_L11
  have fin : wX0_settleHeeds hd nc (fun hd_22 => (Q (-4 : Int32) (nI j) kd hd_22 pl st ho be nc nn 0)) := s_settle h ok (fun hd' g => hQ _ _ _ _ _ _ _ _ _ _ (cS_of h ok g))
  by_cases g : (200 : Int32) ≤ nI it
  · exact ifp g fin
  · refine ifn g (ifp ?_ fin)
    rw [hc.1]
    by_cases e : T.length = j
    · rw [e]; exact Int32.le_refl _
    · exact (nI_leI (by omega) (by omega)).mpr hlen
theorem r_stands {κ ρ : Nat} {Q : (Nat → Int32) → (Nat → Int32) → Prop} (h : mR d md mb) (ok : okR d) (hm7 : tM d < 7) (hQ : ∀ md' mb', mR (addC d κ ρ) md' mb' → Q md' mb') : wX6_stands (nI κ) (nI ρ) md mb Q := by
  unfold wX6_stands
  have e2 : (2 : Int32) + nI (tM d) = nI (2 + tM d) := nI_add 2 _
  have e9 : (9 : Int32) + nI (tM d) = nI (9 + tM d) := nI_add 9 _
  have e1 : (1 : Int32) + nI (tM d) = nI (1 + tM d) := nI_add 1 _
  rw [nmx, h.1, e2, e9, e1, nI_clamp (by omega), nI_clamp (by omega), nI_clamp (by omega), vpn (by omega), vpn (by omega), vpn (by omega), upd_ne _ _ (by omega), upd_ne _ _ (by omega), h.1, nI_1]
  refine ⟨by omega, by omega, by omega, hQ _ _ ⟨upd_at _ _ _, ?_, fun c hc => ?_, fun n hn => ?_, fun n hn c hc => ?_, ?_⟩⟩
  · rw [upd_ne _ _ (by omega), upd_ne _ _ (by omega), upd_ne _ _ (by omega)]; exact h.2.1
  · have hc : c < tM d + 1 := hc
    show _ = nI (if c = tM d then κ else tC d c) ∧ _ = nI (if c = tM d then ρ else tR d c) ∧ _
    rw [upd_ne _ _ (show 2 + c ≠ 0 by omega), upd_ne _ _ (show 2 + c ≠ 9 + tM d by omega), upd_ne _ _ (show 9 + c ≠ 0 by omega)]
    by_cases e : c = tM d
    · rw [e, upd_at, upd_at, upd_at, if_pos rfl, if_pos rfl]; exact ⟨rfl, rfl, rfl⟩
    · rw [upd_ne _ _ (show 2 + c ≠ 2 + tM d by omega), upd_ne _ _ (show 9 + c ≠ 9 + tM d by omega), upd_ne _ _ (show 9 + c ≠ 2 + tM d by omega), upd_ne _ _ (show 1 + c ≠ 1 + tM d by omega), if_neg e, if_neg e]
      exact h.2.2.1 c (by omega)
  · rw [upd_ne _ _ (by omega)]; exact h.2.2.2.1 n hn
  · rw [upd_ne _ _ (by omega)]; exact h.2.2.2.2.1 n hn c hc
  · rw [upd_ne _ _ (by omega)]; exact h.2.2.2.2.2
end FT
def fD1 : DT := addC dt0 0 9
theorem fD1_ok : okR fD1 := addC_ok dt0_ok (by decide) (by decide) (by decide)
def fD2 : DT := addC fD1 1 0
theorem fD2_ok : okR fD2 := addC_ok fD1_ok (by decide) (by decide) (by decide)
def fD3 : DT := addC fD2 2 1
theorem fD3_ok : okR fD3 := addC_ok fD2_ok (by decide) (by decide) (by decide)
def fD4 : DT := addC fD3 0 1
theorem fD4_ok : okR fD4 := addC_ok fD3_ok (by decide) (by decide) (by decide)
def fD5 : DT := addC fD4 3 2
theorem fD5_ok : okR fD5 := addC_ok fD4_ok (by decide) (by decide) (by decide)
def fD6 : DT := addC fD5 1 3
theorem fD6_ok : okR fD6 := addC_ok fD5_ok (by decide) (by decide) (by decide)
def fB1 : Nat → Nat := fun c => ltr fT (33 + c) - 48
def fD7 : DT := addN fD6 5 fB1
theorem fD7_ok : okR fD7 := addN_ok fD6_ok (by decide) (by decide) (show ∀ c, c < 6 → fB1 c ≤ 9 by decide)
def fB2 : Nat → Nat := fun c => ltr fT (43 + c) - 48
def fD8 : DT := addN fD7 3 fB2
theorem fD8_ok : okR fD8 := addN_ok fD7_ok (by decide) (by decide) (show ∀ c, c < 6 → fB2 c ≤ 9 by decide)
def fB3 : Nat → Nat := fun c => ltr fT (53 + c) - 48
def fD9 : DT := addN fD8 4 fB3
theorem fD9_ok : okR fD9 := addN_ok fD8_ok (by decide) (by decide) (show ∀ c, c < 6 → fB3 c ≤ 9 by decide)
def fB4 : Nat → Nat := fun c => ltr fT (63 + c) - 48
def fD10 : DT := addN fD9 5 fB4
theorem fD10_ok : okR fD10 := addN_ok fD9_ok (by decide) (by decide) (show ∀ c, c < 6 → fB4 c ≤ 9 by decide)
section FD
variable {tl : Nat → Int32} {tn : Int32} {kd hd pl st ho be md mb mo ms : Nat → Int32}
theorem f_cls (hc : ctX fT tl tn) : clsL tl tn 200 0 dt0 (fun Q => ∀ tc a b c e f g h i k, cS fD10 a b c e f g h i k → Q (-4) tc a b c e f g h i k) := by
  refine cl_c (T := fT) (d := dt0) (r := 199) (j := 0) (j' := 5) (κ := 0) (ρ := 9) fT_ok hc (by decide) (by decide) (by unfold cOK; decide) dt0_ok (by decide) (by decide) (by decide) ?_
  refine cl_c (T := fT) (d := fD1) (r := 198) (j := 5) (j' := 10) (κ := 1) (ρ := 0) fT_ok hc (by decide) (by decide) (by unfold cOK; decide) fD1_ok (by decide) (by decide) (by decide) ?_
  refine cl_c (T := fT) (d := fD2) (r := 197) (j := 10) (j' := 15) (κ := 2) (ρ := 1) fT_ok hc (by decide) (by decide) (by unfold cOK; decide) fD2_ok (by decide) (by decide) (by decide) ?_
  refine cl_c (T := fT) (d := fD3) (r := 196) (j := 15) (j' := 20) (κ := 0) (ρ := 1) fT_ok hc (by decide) (by decide) (by unfold cOK; decide) fD3_ok (by decide) (by decide) (by decide) ?_
  refine cl_c (T := fT) (d := fD4) (r := 195) (j := 20) (j' := 25) (κ := 3) (ρ := 2) fT_ok hc (by decide) (by decide) (by unfold cOK; decide) fD4_ok (by decide) (by decide) (by decide) ?_
  refine cl_c (T := fT) (d := fD5) (r := 194) (j := 25) (j' := 30) (κ := 1) (ρ := 3) fT_ok hc (by decide) (by decide) (by unfold cOK; decide) fD5_ok (by decide) (by decide) (by decide) ?_
  refine cl_n (T := fT) (d := fD6) (r := 193) (j := 30) (j' := 40) (a := 5) (p := 33) fT_ok hc (by decide) (by decide) (by unfold nOK; decide) fD6_ok (by decide) (by decide) (by decide) ?_
  refine cl_n (T := fT) (d := fD7) (r := 192) (j := 40) (j' := 50) (a := 3) (p := 43) fT_ok hc (by decide) (by decide) (by unfold nOK; decide) fD7_ok (by decide) (by decide) (by decide) ?_
  refine cl_n (T := fT) (d := fD8) (r := 191) (j := 50) (j' := 60) (a := 4) (p := 53) fT_ok hc (by decide) (by decide) (by unfold nOK; decide) fD8_ok (by decide) (by decide) (by decide) ?_
  refine cl_n (T := fT) (d := fD9) (r := 190) (j := 60) (j' := 70) (a := 5) (p := 63) fT_ok hc (by decide) (by decide) (by unfold nOK; decide) fD9_ok (by decide) (by decide) (by decide) ?_
  exact cl_e (d := fD10) hc (by decide) (by decide) fD10_ok
/-- the class reads its first text -/
theorem f_read {Q : Int32 → Int32 → (Nat → Int32) → (Nat → Int32) → (Nat → Int32) → (Nat → Int32) → (Nat → Int32) → (Nat → Int32) → Int32 → Int32 → Int32 → Prop} (hc : ctX fT tl tn) (hQ : ∀ tc a b c e f g h i k, cS fD10 a b c e f g h i k → Q (-4) tc a b c e f g h i k) : wX4_readInto tl tn kd hd pl st ho be Q := by
  unfold wX4_readInto
  refine s_clear (fun be' g => ⟨201, ?_⟩)
  exact f_cls hc Q hQ 0 kd hd pl st ho be' 0 0 (Nat.le_refl _) ⟨rfl, rfl, fun c hc2 => absurd hc2 (Nat.not_lt_zero _), fun n hn => absurd hn (Nat.not_lt_zero _), fun n hn c hc2 => g _ (by omega)⟩
/-- the reference lays the same -/
theorem f_lays {Q : (Nat → Int32) → (Nat → Int32) → Int32 → Int32 → Int32 → Prop} (hQ : ∀ mo' ms', rfM (tM fD10) (tK fD10) (tC fD10) (dtH fD10) mo' → rfD (tM fD10) (tK fD10) (dtD fD10) ms' → Q mo' ms' 0 0 0) : wX6_begins md mb (fun md_0 mb_0 => (wX6_stands (0 : Int32) (9 : Int32) md_0 mb_0 (fun md_1 mb_1 => (wX6_stands (1 : Int32) (0 : Int32) md_1 mb_1 (fun md_2 mb_2 => (wX6_stands (2 : Int32) (1 : Int32) md_2 mb_2 (fun md_3 mb_3 => (wX6_stands (0 : Int32) (1 : Int32) md_3 mb_3 (fun md_4 mb_4 => (wX6_stands (3 : Int32) (2 : Int32) md_4 mb_4 (fun md_5 mb_5 => (wX6_stands (1 : Int32) (3 : Int32) md_5 mb_5 (fun md_6 mb_6 => (wX6_isTold (5 : Int32) (36214 : Int32) md_6 mb_6 (fun md_7 mb_7 => (wX6_isTold (3 : Int32) (550000 : Int32) md_7 mb_7 (fun md_8 mb_8 => (wX6_isTold (4 : Int32) (909090 : Int32) md_8 mb_8 (fun md_9 mb_9 => (wX6_isTold (5 : Int32) (444444 : Int32) md_9 mb_9 (fun md_10 mb_10 => (wX6_lays mo md_10 mb_10 ms Q)))))))))))))))))))))) := by
  refine r_begins (fun md_0 mb_0 g1 g2 => ?_)
  have h : mR dt0 md_0 mb_0 := ⟨g1 0 (by omega), g1 1 (by omega), fun c hc2 => absurd hc2 (Nat.not_lt_zero _), fun n hn => absurd hn (Nat.not_lt_zero _), fun n hn c hc2 => g2 _ (by omega), g2 0 (by omega)⟩
  refine r_stands (d := dt0) (κ := 0) (ρ := 9) h dt0_ok (by decide) (fun md_1 mb_1 h => ?_)
  refine r_stands (d := fD1) (κ := 1) (ρ := 0) h fD1_ok (by decide) (fun md_2 mb_2 h => ?_)
  refine r_stands (d := fD2) (κ := 2) (ρ := 1) h fD2_ok (by decide) (fun md_3 mb_3 h => ?_)
  refine r_stands (d := fD3) (κ := 0) (ρ := 1) h fD3_ok (by decide) (fun md_4 mb_4 h => ?_)
  refine r_stands (d := fD4) (κ := 3) (ρ := 2) h fD4_ok (by decide) (fun md_5 mb_5 h => ?_)
  refine r_stands (d := fD5) (κ := 1) (ρ := 3) h fD5_ok (by decide) (fun md_6 mb_6 h => ?_)
  have v0 : (36214 : Int32) = nI (rv fB1 (tM fD6)) := by decide
  rw [v0]
  refine r_told (d := fD6) (a := 5) (b := fB1) h fD6_ok (by decide) (show ∀ c, c < 6 → fB1 c ≤ 9 by decide) (fun md_7 mb_7 h => ?_)
  have v1 : (550000 : Int32) = nI (rv fB2 (tM fD7)) := by decide
  rw [v1]
  refine r_told (d := fD7) (a := 3) (b := fB2) h fD7_ok (by decide) (show ∀ c, c < 6 → fB2 c ≤ 9 by decide) (fun md_8 mb_8 h => ?_)
  have v2 : (909090 : Int32) = nI (rv fB3 (tM fD8)) := by decide
  rw [v2]
  refine r_told (d := fD8) (a := 4) (b := fB3) h fD8_ok (by decide) (show ∀ c, c < 6 → fB3 c ≤ 9 by decide) (fun md_9 mb_9 h => ?_)
  have v3 : (444444 : Int32) = nI (rv fB4 (tM fD9)) := by decide
  rw [v3]
  refine r_told (d := fD9) (a := 5) (b := fB4) h fD9_ok (by decide) (show ∀ c, c < 6 → fB4 c ≤ 9 by decide) (fun md_10 mb_10 h => ?_)
  exact r_lays (fun mo' ms' g1 g2 => hQ mo' ms' (mR_rfM fD10_ok h g1) (mR_rfD fD10_ok h g2))
theorem fD10_D : okD (tM fD10) (tK fD10) (tC fD10) (dtH fD10) (dtD fD10) := dtD_ok fD10_ok (by decide) (by decide)
end FD
