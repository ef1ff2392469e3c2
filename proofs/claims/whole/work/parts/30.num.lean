/-! numbers -/
theorem zl_0 : (0 : Int32) = nI 0 := rfl
theorem zl_1 : (1 : Int32) = nI 1 := rfl
theorem zl_2 : (2 : Int32) = nI 2 := rfl
theorem zl_3 : (3 : Int32) = nI 3 := rfl
theorem zl_4 : (4 : Int32) = nI 4 := rfl
theorem zl_5 : (5 : Int32) = nI 5 := rfl
theorem zl_6 : (6 : Int32) = nI 6 := rfl
theorem zl_7 : (7 : Int32) = nI 7 := rfl
theorem zl_8 : (8 : Int32) = nI 8 := rfl
theorem zl_9 : (9 : Int32) = nI 9 := rfl
theorem zl_10 : (10 : Int32) = nI 10 := rfl
theorem zl_14 : (14 : Int32) = nI 14 := rfl
theorem zl_16 : (16 : Int32) = nI 16 := rfl
theorem zl_20 : (20 : Int32) = nI 20 := rfl
theorem zl_24 : (24 : Int32) = nI 24 := rfl
theorem zl_32 : (32 : Int32) = nI 32 := rfl
theorem zl_40 : (40 : Int32) = nI 40 := rfl
theorem zl_42 : (42 : Int32) = nI 42 := rfl
theorem zl_44 : (44 : Int32) = nI 44 := rfl
theorem zl_48 : (48 : Int32) = nI 48 := rfl
theorem zl_56 : (56 : Int32) = nI 56 := rfl
theorem zl_57 : (57 : Int32) = nI 57 := rfl
theorem zl_59 : (59 : Int32) = nI 59 := rfl
theorem zl_60 : (60 : Int32) = nI 60 := rfl
theorem zl_61 : (61 : Int32) = nI 61 := rfl
theorem zl_64 : (64 : Int32) = nI 64 := rfl
theorem zl_99 : (99 : Int32) = nI 99 := rfl
theorem zl_100 : (100 : Int32) = nI 100 := rfl
theorem zl_110 : (110 : Int32) = nI 110 := rfl
theorem zl_126 : (126 : Int32) = nI 126 := rfl
theorem zl_128 : (128 : Int32) = nI 128 := rfl
theorem zl_200 : (200 : Int32) = nI 200 := rfl
theorem zl_392 : (392 : Int32) = nI 392 := rfl
theorem zl_999 : (999 : Int32) = nI 999 := rfl
theorem zl_9999 : (9999 : Int32) = nI 9999 := rfl
theorem vpn {n N : Nat} (h : n < 2 ^ 31) : vp_in (nI n) N ↔ n < N := by
  rw [vp_in_iff, nI_toInt h]
  omega
theorem ifp {c A B : Prop} (h : c) (a : A) : (c → A) ∧ (¬ c → B) := ⟨fun _ => a, fun n => absurd h n⟩
theorem ifn {c A B : Prop} (h : ¬ c) (b : B) : (c → A) ∧ (¬ c → B) := ⟨fun n => absurd n h, fun _ => b⟩
theorem ife {c A B : Prop} [Decidable c] : ((c → A) ∧ (¬ c → B)) = if c then A else B := by
  by_cases h : c
  · simp [h]
  · simp [h]
theorem ifT {c A B : Prop} (h : c) : ((c → A) ∧ (¬ c → B)) = A := propext ⟨fun x => x.1 h, fun a => ifp h a⟩
theorem ifF {c A B : Prop} (h : ¬ c) : ((c → A) ∧ (¬ c → B)) = B := propext ⟨fun x => x.2 h, fun a => ifn h a⟩
theorem nmx {α : Sort _} {e : α} {P : α → Prop} : (∀ x, x = e → P x) = P e := propext ⟨fun h => h e rfl, fun h x hx => hx ▸ h⟩
theorem hb_fin : ∀ s, s < 128 → ∀ c, c < 10 → ((nI s >>> (nI c &&& 31)) &&& 1 = (0 : Int32) ↔ s.testBit c = false) := by decide +kernel
theorem or_fin : ∀ s, s < 128 → ∀ c, c < 7 → nI s ||| ((1 : Int32) <<< (nI c &&& 31)) = nI (s ||| 2 ^ c) := by decide +kernel
theorem cut_fin : ∀ x, x < 100 → (if (0 : Int32) < (if nI x < (9 : Int32) then nI x else (9 : Int32)) then (if nI x < (9 : Int32) then nI x else (9 : Int32)) else (0 : Int32)) = nI (min 9 x) := by decide +kernel
theorem cutm_fin : ∀ x, x < 10 → ∀ d, d < 10 → (if (0 : Int32) < (if nI x - nI d < (9 : Int32) then nI x - nI d else (9 : Int32)) then (if nI x - nI d < (9 : Int32) then nI x - nI d else (9 : Int32)) else (0 : Int32)) = nI (x - d) := by decide +kernel
theorem m1_fin : ∀ x, x < 100 → nI x + (-1) = nI x - nI 1 := by decide +kernel
/-! the small functions of the class -/
theorem e_of {i n : Nat} {f : Nat → Int32} {Q : Int32 → Prop} (h : i < n) (hn : n < 1000) : wX5_of (nI i) f n Q = Q (f i) := by
  unfold wX5_of
  rw [ifF (by simp (disch := omega) only [zl_0, zl_1, zl_2, zl_3, zl_4, zl_5, zl_6, zl_7, zl_8, zl_9, zl_10, zl_14, zl_16, zl_20, zl_24, zl_32, zl_40, zl_42, zl_44, zl_48, zl_56, zl_57, zl_59, zl_60, zl_61, zl_64, zl_99, zl_100, zl_110, zl_126, zl_128, zl_200, zl_392, zl_999, zl_9999, nI_add, pk_mul, nI_leI, nI_ltI, nI_eq, nI_clamp, vpn, pk_sub]; omega), ifF (by simp (disch := omega) only [zl_0, zl_1, zl_2, zl_3, zl_4, zl_5, zl_6, zl_7, zl_8, zl_9, zl_10, zl_14, zl_16, zl_20, zl_24, zl_32, zl_40, zl_42, zl_44, zl_48, zl_56, zl_57, zl_59, zl_60, zl_61, zl_64, zl_99, zl_100, zl_110, zl_126, zl_128, zl_200, zl_392, zl_999, zl_9999, nI_add, pk_mul, nI_leI, nI_ltI, nI_eq, nI_clamp, vpn, pk_sub]; omega)]
  simp (disch := omega) only [zl_0, zl_1, zl_2, zl_3, zl_4, zl_5, zl_6, zl_7, zl_8, zl_9, zl_10, zl_14, zl_16, zl_20, zl_24, zl_32, zl_40, zl_42, zl_44, zl_48, zl_56, zl_57, zl_59, zl_60, zl_61, zl_64, zl_99, zl_100, zl_110, zl_126, zl_128, zl_200, zl_392, zl_999, zl_9999, nI_add, pk_mul, nI_leI, nI_ltI, nI_eq, nI_clamp, vpn, pk_sub]
  simp [h]
theorem e_put {i n : Nat} {x : Int32} {f : Nat → Int32} {Q : (Nat → Int32) → Prop} (h : i < n) (hn : n < 1000) : wX5_put (nI i) x f n Q = Q (upd f i x) := by
  unfold wX5_put
  rw [ifF (by simp (disch := omega) only [zl_0, zl_1, zl_2, zl_3, zl_4, zl_5, zl_6, zl_7, zl_8, zl_9, zl_10, zl_14, zl_16, zl_20, zl_24, zl_32, zl_40, zl_42, zl_44, zl_48, zl_56, zl_57, zl_59, zl_60, zl_61, zl_64, zl_99, zl_100, zl_110, zl_126, zl_128, zl_200, zl_392, zl_999, zl_9999, nI_add, pk_mul, nI_leI, nI_ltI, nI_eq, nI_clamp, vpn, pk_sub]; omega), ifF (by simp (disch := omega) only [zl_0, zl_1, zl_2, zl_3, zl_4, zl_5, zl_6, zl_7, zl_8, zl_9, zl_10, zl_14, zl_16, zl_20, zl_24, zl_32, zl_40, zl_42, zl_44, zl_48, zl_56, zl_57, zl_59, zl_60, zl_61, zl_64, zl_99, zl_100, zl_110, zl_126, zl_128, zl_200, zl_392, zl_999, zl_9999, nI_add, pk_mul, nI_leI, nI_ltI, nI_eq, nI_clamp, vpn, pk_sub]; omega)]
  simp (disch := omega) only [zl_0, zl_1, zl_2, zl_3, zl_4, zl_5, zl_6, zl_7, zl_8, zl_9, zl_10, zl_14, zl_16, zl_20, zl_24, zl_32, zl_40, zl_42, zl_44, zl_48, zl_56, zl_57, zl_59, zl_60, zl_61, zl_64, zl_99, zl_100, zl_110, zl_126, zl_128, zl_200, zl_392, zl_999, zl_9999, nI_add, pk_mul, nI_leI, nI_ltI, nI_eq, nI_clamp, vpn, pk_sub]
  simp [h]
theorem e_hasBitT {s c : Nat} {Q : Int32 → Prop} (hs : s < 128) (hc : c < 10) (h : s.testBit c = true) : wX5_hasBit (nI s) (nI c) Q = Q 1 := by
  unfold wX5_hasBit
  rw [ifF (by simp (disch := omega) only [zl_0, zl_1, zl_2, zl_3, zl_4, zl_5, zl_6, zl_7, zl_8, zl_9, zl_10, zl_14, zl_16, zl_20, zl_24, zl_32, zl_40, zl_42, zl_44, zl_48, zl_56, zl_57, zl_59, zl_60, zl_61, zl_64, zl_99, zl_100, zl_110, zl_126, zl_128, zl_200, zl_392, zl_999, zl_9999, nI_add, pk_mul, nI_leI, nI_ltI, nI_eq, nI_clamp, vpn, pk_sub]; omega), ifF (by rw [hb_fin s hs c hc, h]; simp)]
theorem e_hasBitF {s c : Nat} {Q : Int32 → Prop} (hs : s < 128) (hc : c < 10) (h : s.testBit c = false) : wX5_hasBit (nI s) (nI c) Q = Q 0 := by
  unfold wX5_hasBit
  rw [ifF (by simp (disch := omega) only [zl_0, zl_1, zl_2, zl_3, zl_4, zl_5, zl_6, zl_7, zl_8, zl_9, zl_10, zl_14, zl_16, zl_20, zl_24, zl_32, zl_40, zl_42, zl_44, zl_48, zl_56, zl_57, zl_59, zl_60, zl_61, zl_64, zl_99, zl_100, zl_110, zl_126, zl_128, zl_200, zl_392, zl_999, zl_9999, nI_add, pk_mul, nI_leI, nI_ltI, nI_eq, nI_clamp, vpn, pk_sub]; omega), ifT ((hb_fin s hs c hc).mpr h)]
theorem e_cut {x : Nat} {Q : Int32 → Prop} (h : x < 100) : wX5_cutBelief (nI x) Q = Q (nI (min 9 x)) := by
  unfold wX5_cutBelief
  rw [cut_fin x h]
theorem e_cutm {x d : Nat} {Q : Int32 → Prop} (h : x < 10) (hd : d < 10) : wX5_cutBelief (nI x - nI d) Q = Q (nI (x - d)) := by
  unfold wX5_cutBelief
  rw [cutm_fin x h d hd]
theorem e_isKnown {n a : Nat} {ho : Nat → Int32} {Q : Int32 → Prop} (hn : n < 6) (h : ho n = nI a) (ha : a < 10) : wX0_isKnown (nI n) ho Q = if a = 9 then Q 1 else Q 0 := by
  unfold wX0_isKnown
  rw [e_of hn (by decide), h, ← ife]
  simp (disch := omega) only [zl_0, zl_1, zl_2, zl_3, zl_4, zl_5, zl_6, zl_7, zl_8, zl_9, zl_10, zl_14, zl_16, zl_20, zl_24, zl_32, zl_40, zl_42, zl_44, zl_48, zl_56, zl_57, zl_59, zl_60, zl_61, zl_64, zl_99, zl_100, zl_110, zl_126, zl_128, zl_200, zl_392, zl_999, zl_9999, nI_add, pk_mul, nI_leI, nI_ltI, nI_eq, nI_clamp, vpn, pk_sub]
theorem e_believes {c n : Nat} {be : Nat → Int32} {Q : Int32 → Prop} (hc : c < 7) (hn : n < 6) : wX0_believes (nI c) (nI n) be Q = Q (be (n * 7 + c)) := by
  unfold wX0_believes
  simp (disch := omega) only [zl_0, zl_1, zl_2, zl_3, zl_4, zl_5, zl_6, zl_7, zl_8, zl_9, zl_10, zl_14, zl_16, zl_20, zl_24, zl_32, zl_40, zl_42, zl_44, zl_48, zl_56, zl_57, zl_59, zl_60, zl_61, zl_64, zl_99, zl_100, zl_110, zl_126, zl_128, zl_200, zl_392, zl_999, zl_9999, nI_add, pk_mul, nI_leI, nI_ltI, nI_eq, nI_clamp, vpn, pk_sub]
  rw [e_of (by omega) (by decide)]
theorem e_setBelief {c n : Nat} {x : Int32} {be : Nat → Int32} {Q : (Nat → Int32) → Prop} (hc : c < 7) (hn : n < 6) : wX0_setBelief (nI c) (nI n) x be Q = Q (upd be (n * 7 + c) x) := by
  unfold wX0_setBelief
  simp (disch := omega) only [zl_0, zl_1, zl_2, zl_3, zl_4, zl_5, zl_6, zl_7, zl_8, zl_9, zl_10, zl_14, zl_16, zl_20, zl_24, zl_32, zl_40, zl_42, zl_44, zl_48, zl_56, zl_57, zl_59, zl_60, zl_61, zl_64, zl_99, zl_100, zl_110, zl_126, zl_128, zl_200, zl_392, zl_999, zl_9999, nI_add, pk_mul, nI_leI, nI_ltI, nI_eq, nI_clamp, vpn, pk_sub]
  rw [e_put (by omega) (by decide)]
