theorem head_cmp {i L : Nat} (hL : L ≤ 2560) (hi : i < 4000) : (nI L - (5 : Int32) < nI i) ↔ L < i + 5 := by
  by_cases h : 5 ≤ L
  · have e : nI L - (5 : Int32) = nI (L - 5) := pk_sub (a := L) (b := 5) h
    rw [e]
    constructor
    · intro q
      have := (nI_ltI (by omega) (by omega)).mp q
      omega
    · intro q
      exact (nI_ltI (by omega) (by omega)).mpr (by omega)
  · have h5 : ∀ L, L < 5 → nI L - (5 : Int32) < 0 := by decide
    have q1 := h5 L (by omega)
    have q2 : (0 : Int32) ≤ nI i := (nI_leI (a := 0) (by omega) (by omega)).mpr (Nat.zero_le _)
    exact ⟨fun _ => by omega, fun _ => Int32.lt_of_lt_of_le q1 q2⟩
set_option maxHeartbeats 4000000 in
set_option maxRecDepth 100000 in
theorem law_loop {p : Program} {e : Env} {s : State} {m : MethodId} {below : List Frame} {meth : Method} {c : Code} {D : va_G} {cI cC cQ : ClassId} {b L : Nat} {xs : Nat → Int32} (l : Launch) (hx : p.tables.exec = Jvm.exec) (hb : c.code = cL_law) (hml : c.maxLocals = 4) (hown : s.vm.findClass RL = some m.cls) (hts : ∀ w ∈ wsL_law, w.before #[Value.ref b] s = true) (hK : kz D cI cC cQ s) (hX : va_X b L xs s s.heap) (hbl : b < s.heap.size) (hL : L ≤ 2560) (ad : Nat → Nat) (hr : meth.sig.returnType = ret) (hlocks : meth.locks = false) : ∀ (n i : Nat), L ≤ i + n → i < 4000 → ∀ (kd_w : Nat → Int32) (hd_w : Nat → Int32) (pl_w : Nat → Int32) (st_w : Nat → Int32) (ho_w : Nat → Int32) (be_w : Nat → Int32) (nc_w : Int32) (nn_w : Int32) (dy_w : Int32) (kd_t : Nat → Int32) (hd_t : Nat → Int32) (pl_t : Nat → Int32) (st_t : Nat → Int32) (ho_t : Nat → Int32) (be_t : Nat → Int32) (nc_t : Int32) (nn_t : Int32) (dy_t : Int32) (sk_u : Nat) (sv_u : List CV) (sa_u : ShA 8) (sk_k : Nat) (sv_k : List CV) (sa_k : ShA 2) (sw : Nat → Int32) (sn : Nat → Int32) (su : Int32) (om : Nat → Int32) (sk_b : Nat) (sv_b : List CV) (sa_b : ShA 9) (tl : Nat → Int32) (tn : Int32) (tc : Int32) (mt : Nat → Int32) (my : Int32) (mo : Nat → Int32) (md : Nat → Int32) (mb : Nat → Int32) (ms : Nat → Int32) (mp : Nat → Int32) (mk : Int32) (mi : Nat → Int32) (mq : Int32) (mn : Nat → Int32) (mz : Int32) (ma : Int32) (mh : Nat → Int32) (mg : Nat → Int32) (mr : Nat → Int32) (mx : Nat → Int32) (H : Heap) (locs : List Loc) (ls : Array Slot), LInv kd_w hd_w pl_w st_w ho_w be_w nc_w nn_w dy_w sk_u sv_u sk_k sv_k sw sn su sk_b sv_b tl tn mt my mo ms mp mk mi mq mn mz → va_P D vwCl (LW cI cC cQ ad kd_w hd_w pl_w st_w ho_w be_w nc_w nn_w dy_w kd_t hd_t pl_t st_t ho_t be_t nc_t nn_t dy_t sk_u sv_u sa_u sk_k sv_k sa_k sw sn su om sk_b sv_b sa_b tl tn tc mt my mo md mb ms mp mk mi mq mn mz ma mh mg mr mx) H → va_D (lA s) (LW cI cC cQ ad kd_w hd_w pl_w st_w ho_w be_w nc_w nn_w dy_w kd_t hd_t pl_t st_t ho_t be_t nc_t nn_t dy_t sk_u sv_u sa_u sk_k sv_k sa_k sw sn su om sk_b sv_b sa_b tl tn tc mt my mo md mb ms mp mk mi mq mn mz ma mh mg mr mx) → va_S (lA s) s.heap H locs → lv_has ls 4 [(0, .ref b), (1, .ref (ad 0)), (2, .ref (ad 28)), (3, .int (nI i))] → W p l e room_1 s m #[Value.ref b] below meth c H locs 174 3976 (lw_Z below #[Value.ref b] s) (F0 m 18 ls []) := by
  have hA : ∀ q : Nat, s.heap.size ≤ q → lA s q := fun _ h => h
  have hbA : ¬ lA s b := Nat.not_le.mpr hbl
  intro n
  induction n with
  | zero =>
    intro i hn hi4 kd_w hd_w pl_w st_w ho_w be_w nc_w nn_w dy_w kd_t hd_t pl_t st_t ho_t be_t nc_t nn_t dy_t sk_u sv_u sa_u sk_k sv_k sa_k sw sn su om sk_b sv_b sa_b tl tn tc mt my mo md mb ms mp mk mi mq mn mz ma mh mg mr mx H locs ls hI hP hD hS hl
    refine lv_iload_n hx hb dL_law_18 rfl (lv_at hl 3 rfl) ?_
    refine lv_aload_n hx hb dL_law_19 rfl (lv_at hl 0 rfl) ?_
    refine va_slen hx hb hX hbl hbA hS dL_law_20 ?_
    refine lv_iconst (v := 5) hx hb dL_law_21 (by decide) ?_
    refine lv_isub hx hb dL_law_22 ?_
    refine lv_icmp_gt (tgt := 947) hx hb dL_law_23 (by decide) (fun c1 => ?_) (fun c1 => absurd ((head_cmp hL hi4).mpr (by omega)) c1)
    refine lv_iconst (v := 1) hx hb dL_law_947 (by decide) ?_
    refine va_forget (fun q hq => hS.2.2 q hq) ?_
    refine W.widen (k := 600000) (n := 7302250) (Nat.le_of_ble_eq_true rfl) (Nat.le_of_ble_eq_true rfl) ?_
    exact lw_ret hx hb hr hlocks dL_law_948
  | succ n ih =>
    intro i hn hi4 kd_w hd_w pl_w st_w ho_w be_w nc_w nn_w dy_w kd_t hd_t pl_t st_t ho_t be_t nc_t nn_t dy_t sk_u sv_u sa_u sk_k sv_k sa_k sw sn su om sk_b sv_b sa_b tl tn tc mt my mo md mb ms mp mk mi mq mn mz ma mh mg mr mx H locs ls hI hP hD hS hl
    refine lv_iload_n hx hb dL_law_18 rfl (lv_at hl 3 rfl) ?_
    refine lv_aload_n hx hb dL_law_19 rfl (lv_at hl 0 rfl) ?_
    refine va_slen hx hb hX hbl hbA hS dL_law_20 ?_
    refine lv_iconst (v := 5) hx hb dL_law_21 (by decide) ?_
    refine lv_isub hx hb dL_law_22 ?_
    refine lv_icmp_gt (tgt := 947) hx hb dL_law_23 (by decide) (fun c1 => ?_) (fun c1 => ?_)
    · skip
      refine lv_iconst (v := 1) hx hb dL_law_947 (by decide) ?_
      refine va_forget (fun q hq => hS.2.2 q hq) ?_
      refine W.widen (k := 600000) (n := 7302250) (Nat.le_of_ble_eq_true rfl) (Nat.le_of_ble_eq_true rfl) ?_
      exact lw_ret hx hb hr hlocks dL_law_948
    · have hi : i + 4 < L := by
        rcases Nat.lt_or_ge L (i + 5) with q | q
        · exact absurd ((head_cmp hL hi4).mpr q) c1
        · omega
      have hin0 : vp_in (nI i) L := vp_in_nI (by omega) (by omega)
      have kk : (∀ (kd_w : Nat → Int32) (hd_w : Nat → Int32) (pl_w : Nat → Int32) (st_w : Nat → Int32) (ho_w : Nat → Int32) (be_w : Nat → Int32) (nc_w : Int32) (nn_w : Int32) (dy_w : Int32) (kd_t : Nat → Int32) (hd_t : Nat → Int32) (pl_t : Nat → Int32) (st_t : Nat → Int32) (ho_t : Nat → Int32) (be_t : Nat → Int32) (nc_t : Int32) (nn_t : Int32) (dy_t : Int32) (sk_u : Nat) (sv_u : List CV) (sa_u : ShA 8) (sk_k : Nat) (sv_k : List CV) (sa_k : ShA 2) (sw : Nat → Int32) (sn : Nat → Int32) (su : Int32) (om : Nat → Int32) (sk_b : Nat) (sv_b : List CV) (sa_b : ShA 9) (tl : Nat → Int32) (tn : Int32) (tc : Int32) (mt : Nat → Int32) (my : Int32) (mo : Nat → Int32) (md : Nat → Int32) (mb : Nat → Int32) (ms : Nat → Int32) (mp : Nat → Int32) (mk : Int32) (mi : Nat → Int32) (mq : Int32) (mn : Nat → Int32) (mz : Int32) (ma : Int32) (mh : Nat → Int32) (mg : Nat → Int32) (mr : Nat → Int32) (mx : Nat → Int32) (H : Heap) (locs : List Loc) (ls : Array Slot), LInv kd_w hd_w pl_w st_w ho_w be_w nc_w nn_w dy_w sk_u sv_u sk_k sv_k sw sn su sk_b sv_b tl tn mt my mo ms mp mk mi mq mn mz → va_P D vwCl (LW cI cC cQ ad kd_w hd_w pl_w st_w ho_w be_w nc_w nn_w dy_w kd_t hd_t pl_t st_t ho_t be_t nc_t nn_t dy_t sk_u sv_u sa_u sk_k sv_k sa_k sw sn su om sk_b sv_b sa_b tl tn tc mt my mo md mb ms mp mk mi mq mn mz ma mh mg mr mx) H → va_D (lA s) (LW cI cC cQ ad kd_w hd_w pl_w st_w ho_w be_w nc_w nn_w dy_w kd_t hd_t pl_t st_t ho_t be_t nc_t nn_t dy_t sk_u sv_u sa_u sk_k sv_k sa_k sw sn su om sk_b sv_b sa_b tl tn tc mt my mo md mb ms mp mk mi mq mn mz ma mh mg mr mx) → va_S (lA s) s.heap H locs → lv_has ls 4 [(0, .ref b), (1, .ref (ad 0)), (2, .ref (ad 28)), (3, .int (nI i))] → W p l e room_1 s m #[Value.ref b] below meth c H locs 174 3976 (lw_Z below #[Value.ref b] s) (F0 m 941 ls [])) := by
        intro kd_w hd_w pl_w st_w ho_w be_w nc_w nn_w dy_w kd_t hd_t pl_t st_t ho_t be_t nc_t nn_t dy_t sk_u sv_u sa_u sk_k sv_k sa_k sw sn su om sk_b sv_b sa_b tl tn tc mt my mo md mb ms mp mk mi mq mn mz ma mh mg mr mx H locs ls hI hP hD hS hl
        refine lv_iinc (v := nI (i + 5)) (lv' := [(3, .int (nI (i + 5))), (0, .ref b), (1, .ref (ad 0)), (2, .ref (ad 28))]) hx hb dL_law_941 hl (k := 3) rfl (show nI i + (5 : Int32) = nI (i + 5) from nI_add i 5) (by decide) rfl (fun ls hl => ?_)
        refine lv_goto (tgt := 18) hx hb dL_law_944 (by decide) ?_
        exact ih (i + 5) (by omega) (by omega) kd_w hd_w pl_w st_w ho_w be_w nc_w nn_w dy_w kd_t hd_t pl_t st_t ho_t be_t nc_t nn_t dy_t sk_u sv_u sa_u sk_k sv_k sa_k sw sn su om sk_b sv_b sa_b tl tn tc mt my mo md mb ms mp mk mi mq mn mz ma mh mg mr mx H locs ls hI hP hD hS (lv_sub hl [1, 2, 3, 0] rfl)
      refine lv_aload_n hx hb dL_law_26 rfl (lv_at hl 0 rfl) ?_
      refine lv_iload_n hx hb dL_law_27 rfl (lv_at hl 3 rfl) ?_
      refine va_sld hx hb hX hbl hbA hS hin0 dL_law_28 ?_
      refine lv_bipush (v := 31) hx hb dL_law_29 (by decide) ?_
      refine lv_iand hx hb dL_law_31 ?_
      obtain ⟨op, eop⟩ : ∃ z : Int32, z = xs (nI i).toNatClampNeg &&& 31 := ⟨_, rfl⟩
      rw [← eop]
      rcases sw_28 op with c2 | c2 | c2 | c2 | c2 | c2 | c2 | c2 | c2 | c2 | c2 | c2 | c2 | c2 | c2 | c2 | c2 | c2 | c2 | c2 | c2 | c2 | c2 | c2 | c2 | c2 | c2 | c2 | c2 | c2
      · refine lv_tableOut (tgt := 941) hx hb dL_law_32 c2 (by decide) ?_
        exact kk kd_w hd_w pl_w st_w ho_w be_w nc_w nn_w dy_w kd_t hd_t pl_t st_t ho_t be_t nc_t nn_t dy_t sk_u sv_u sa_u sk_k sv_k sa_k sw sn su om sk_b sv_b sa_b tl tn tc mt my mo md mb ms mp mk mi mq mn mz ma mh mg mr mx H locs ls hI hP hD hS hl
      · refine lv_tableIn (tgt := 164) (off := 132) hx hb dL_law_32 (by rw [c2]; decide) (by rw [c2]; decide) (by rw [c2]; rfl) (by decide) ?_
        exact law_0 l hx hb hml hown hts hK hX hbl hL ad i hi kd_w hd_w pl_w st_w ho_w be_w nc_w nn_w dy_w kd_t hd_t pl_t st_t ho_t be_t nc_t nn_t dy_t sk_u sv_u sa_u sk_k sv_k sa_k sw sn su om sk_b sv_b sa_b tl tn tc mt my mo md mb ms mp mk mi mq mn mz ma mh mg mr mx hI hP hD hS hl kk
      · refine lv_tableIn (tgt := 187) (off := 155) hx hb dL_law_32 (by rw [c2]; decide) (by rw [c2]; decide) (by rw [c2]; rfl) (by decide) ?_
        exact law_1 l hx hb hml hown hts hK hX hbl hL ad i hi kd_w hd_w pl_w st_w ho_w be_w nc_w nn_w dy_w kd_t hd_t pl_t st_t ho_t be_t nc_t nn_t dy_t sk_u sv_u sa_u sk_k sv_k sa_k sw sn su om sk_b sv_b sa_b tl tn tc mt my mo md mb ms mp mk mi mq mn mz ma mh mg mr mx hI hP hD hS hl kk
      · refine lv_tableIn (tgt := 200) (off := 168) hx hb dL_law_32 (by rw [c2]; decide) (by rw [c2]; decide) (by rw [c2]; rfl) (by decide) ?_
        exact law_2 l hx hb hml hown hts hK hX hbl hL ad i hi kd_w hd_w pl_w st_w ho_w be_w nc_w nn_w dy_w kd_t hd_t pl_t st_t ho_t be_t nc_t nn_t dy_t sk_u sv_u sa_u sk_k sv_k sa_k sw sn su om sk_b sv_b sa_b tl tn tc mt my mo md mb ms mp mk mi mq mn mz ma mh mg mr mx hI hP hD hS hl kk
      · refine lv_tableIn (tgt := 213) (off := 181) hx hb dL_law_32 (by rw [c2]; decide) (by rw [c2]; decide) (by rw [c2]; rfl) (by decide) ?_
        exact law_3 l hx hb hml hown hts hK hX hbl hL ad i hi kd_w hd_w pl_w st_w ho_w be_w nc_w nn_w dy_w kd_t hd_t pl_t st_t ho_t be_t nc_t nn_t dy_t sk_u sv_u sa_u sk_k sv_k sa_k sw sn su om sk_b sv_b sa_b tl tn tc mt my mo md mb ms mp mk mi mq mn mz ma mh mg mr mx hI hP hD hS hl kk
      · refine lv_tableIn (tgt := 226) (off := 194) hx hb dL_law_32 (by rw [c2]; decide) (by rw [c2]; decide) (by rw [c2]; rfl) (by decide) ?_
        exact law_4 l hx hb hml hown hts hK hX hbl hL ad i hi kd_w hd_w pl_w st_w ho_w be_w nc_w nn_w dy_w kd_t hd_t pl_t st_t ho_t be_t nc_t nn_t dy_t sk_u sv_u sa_u sk_k sv_k sa_k sw sn su om sk_b sv_b sa_b tl tn tc mt my mo md mb ms mp mk mi mq mn mz ma mh mg mr mx hI hP hD hS hl kk
      · refine lv_tableIn (tgt := 259) (off := 227) hx hb dL_law_32 (by rw [c2]; decide) (by rw [c2]; decide) (by rw [c2]; rfl) (by decide) ?_
        exact law_5 l hx hb hml hown hts hK hX hbl hL ad i hi kd_w hd_w pl_w st_w ho_w be_w nc_w nn_w dy_w kd_t hd_t pl_t st_t ho_t be_t nc_t nn_t dy_t sk_u sv_u sa_u sk_k sv_k sa_k sw sn su om sk_b sv_b sa_b tl tn tc mt my mo md mb ms mp mk mi mq mn mz ma mh mg mr mx hI hP hD hS hl kk
      · refine lv_tableIn (tgt := 292) (off := 260) hx hb dL_law_32 (by rw [c2]; decide) (by rw [c2]; decide) (by rw [c2]; rfl) (by decide) ?_
        exact law_6 l hx hb hml hown hts hK hX hbl hL ad i hi kd_w hd_w pl_w st_w ho_w be_w nc_w nn_w dy_w kd_t hd_t pl_t st_t ho_t be_t nc_t nn_t dy_t sk_u sv_u sa_u sk_k sv_k sa_k sw sn su om sk_b sv_b sa_b tl tn tc mt my mo md mb ms mp mk mi mq mn mz ma mh mg mr mx hI hP hD hS hl kk
      · refine lv_tableIn (tgt := 325) (off := 293) hx hb dL_law_32 (by rw [c2]; decide) (by rw [c2]; decide) (by rw [c2]; rfl) (by decide) ?_
        exact law_7 l hx hb hml hown hts hK hX hbl hL ad i hi kd_w hd_w pl_w st_w ho_w be_w nc_w nn_w dy_w kd_t hd_t pl_t st_t ho_t be_t nc_t nn_t dy_t sk_u sv_u sa_u sk_k sv_k sa_k sw sn su om sk_b sv_b sa_b tl tn tc mt my mo md mb ms mp mk mi mq mn mz ma mh mg mr mx hI hP hD hS hl kk
      · refine lv_tableIn (tgt := 348) (off := 316) hx hb dL_law_32 (by rw [c2]; decide) (by rw [c2]; decide) (by rw [c2]; rfl) (by decide) ?_
        exact law_8 l hx hb hml hown hts hK hX hbl hL ad i hi kd_w hd_w pl_w st_w ho_w be_w nc_w nn_w dy_w kd_t hd_t pl_t st_t ho_t be_t nc_t nn_t dy_t sk_u sv_u sa_u sk_k sv_k sa_k sw sn su om sk_b sv_b sa_b tl tn tc mt my mo md mb ms mp mk mi mq mn mz ma mh mg mr mx hI hP hD hS hl kk
      · refine lv_tableIn (tgt := 391) (off := 359) hx hb dL_law_32 (by rw [c2]; decide) (by rw [c2]; decide) (by rw [c2]; rfl) (by decide) ?_
        exact law_9 l hx hb hml hown hts hK hX hbl hL ad i hi kd_w hd_w pl_w st_w ho_w be_w nc_w nn_w dy_w kd_t hd_t pl_t st_t ho_t be_t nc_t nn_t dy_t sk_u sv_u sa_u sk_k sv_k sa_k sw sn su om sk_b sv_b sa_b tl tn tc mt my mo md mb ms mp mk mi mq mn mz ma mh mg mr mx hI hP hD hS hl kk
      · refine lv_tableIn (tgt := 424) (off := 392) hx hb dL_law_32 (by rw [c2]; decide) (by rw [c2]; decide) (by rw [c2]; rfl) (by decide) ?_
        exact law_10 l hx hb hml hown hts hK hX hbl hL ad i hi kd_w hd_w pl_w st_w ho_w be_w nc_w nn_w dy_w kd_t hd_t pl_t st_t ho_t be_t nc_t nn_t dy_t sk_u sv_u sa_u sk_k sv_k sa_k sw sn su om sk_b sv_b sa_b tl tn tc mt my mo md mb ms mp mk mi mq mn mz ma mh mg mr mx hI hP hD hS hl kk
      · refine lv_tableIn (tgt := 457) (off := 425) hx hb dL_law_32 (by rw [c2]; decide) (by rw [c2]; decide) (by rw [c2]; rfl) (by decide) ?_
        exact law_11 l hx hb hml hown hts hK hX hbl hL ad i hi kd_w hd_w pl_w st_w ho_w be_w nc_w nn_w dy_w kd_t hd_t pl_t st_t ho_t be_t nc_t nn_t dy_t sk_u sv_u sa_u sk_k sv_k sa_k sw sn su om sk_b sv_b sa_b tl tn tc mt my mo md mb ms mp mk mi mq mn mz ma mh mg mr mx hI hP hD hS hl kk
      · refine lv_tableIn (tgt := 470) (off := 438) hx hb dL_law_32 (by rw [c2]; decide) (by rw [c2]; decide) (by rw [c2]; rfl) (by decide) ?_
        exact law_12 l hx hb hml hown hts hK hX hbl hL ad i hi kd_w hd_w pl_w st_w ho_w be_w nc_w nn_w dy_w kd_t hd_t pl_t st_t ho_t be_t nc_t nn_t dy_t sk_u sv_u sa_u sk_k sv_k sa_k sw sn su om sk_b sv_b sa_b tl tn tc mt my mo md mb ms mp mk mi mq mn mz ma mh mg mr mx hI hP hD hS hl kk
      · refine lv_tableIn (tgt := 513) (off := 481) hx hb dL_law_32 (by rw [c2]; decide) (by rw [c2]; decide) (by rw [c2]; rfl) (by decide) ?_
        exact law_13 l hx hb hml hown hts hK hX hbl hL ad i hi kd_w hd_w pl_w st_w ho_w be_w nc_w nn_w dy_w kd_t hd_t pl_t st_t ho_t be_t nc_t nn_t dy_t sk_u sv_u sa_u sk_k sv_k sa_k sw sn su om sk_b sv_b sa_b tl tn tc mt my mo md mb ms mp mk mi mq mn mz ma mh mg mr mx hI hP hD hS hl kk
      · refine lv_tableIn (tgt := 536) (off := 504) hx hb dL_law_32 (by rw [c2]; decide) (by rw [c2]; decide) (by rw [c2]; rfl) (by decide) ?_
        exact law_14 l hx hb hml hown hts hK hX hbl hL ad i hi kd_w hd_w pl_w st_w ho_w be_w nc_w nn_w dy_w kd_t hd_t pl_t st_t ho_t be_t nc_t nn_t dy_t sk_u sv_u sa_u sk_k sv_k sa_k sw sn su om sk_b sv_b sa_b tl tn tc mt my mo md mb ms mp mk mi mq mn mz ma mh mg mr mx hI hP hD hS hl kk
      · refine lv_tableIn (tgt := 549) (off := 517) hx hb dL_law_32 (by rw [c2]; decide) (by rw [c2]; decide) (by rw [c2]; rfl) (by decide) ?_
        exact law_15 l hx hb hml hown hts hK hX hbl hL ad i hi kd_w hd_w pl_w st_w ho_w be_w nc_w nn_w dy_w kd_t hd_t pl_t st_t ho_t be_t nc_t nn_t dy_t sk_u sv_u sa_u sk_k sv_k sa_k sw sn su om sk_b sv_b sa_b tl tn tc mt my mo md mb ms mp mk mi mq mn mz ma mh mg mr mx hI hP hD hS hl kk
      · refine lv_tableIn (tgt := 592) (off := 560) hx hb dL_law_32 (by rw [c2]; decide) (by rw [c2]; decide) (by rw [c2]; rfl) (by decide) ?_
        exact law_16 l hx hb hml hown hts hK hX hbl hL ad i hi kd_w hd_w pl_w st_w ho_w be_w nc_w nn_w dy_w kd_t hd_t pl_t st_t ho_t be_t nc_t nn_t dy_t sk_u sv_u sa_u sk_k sv_k sa_k sw sn su om sk_b sv_b sa_b tl tn tc mt my mo md mb ms mp mk mi mq mn mz ma mh mg mr mx hI hP hD hS hl kk
      · refine lv_tableIn (tgt := 635) (off := 603) hx hb dL_law_32 (by rw [c2]; decide) (by rw [c2]; decide) (by rw [c2]; rfl) (by decide) ?_
        exact law_17 l hx hb hml hown hts hK hX hbl hL ad i hi kd_w hd_w pl_w st_w ho_w be_w nc_w nn_w dy_w kd_t hd_t pl_t st_t ho_t be_t nc_t nn_t dy_t sk_u sv_u sa_u sk_k sv_k sa_k sw sn su om sk_b sv_b sa_b tl tn tc mt my mo md mb ms mp mk mi mq mn mz ma mh mg mr mx hI hP hD hS hl kk
      · refine lv_tableIn (tgt := 668) (off := 636) hx hb dL_law_32 (by rw [c2]; decide) (by rw [c2]; decide) (by rw [c2]; rfl) (by decide) ?_
        exact law_18 l hx hb hml hown hts hK hX hbl hL ad i hi kd_w hd_w pl_w st_w ho_w be_w nc_w nn_w dy_w kd_t hd_t pl_t st_t ho_t be_t nc_t nn_t dy_t sk_u sv_u sa_u sk_k sv_k sa_k sw sn su om sk_b sv_b sa_b tl tn tc mt my mo md mb ms mp mk mi mq mn mz ma mh mg mr mx hI hP hD hS hl kk
      · refine lv_tableIn (tgt := 691) (off := 659) hx hb dL_law_32 (by rw [c2]; decide) (by rw [c2]; decide) (by rw [c2]; rfl) (by decide) ?_
        exact law_19 l hx hb hml hown hts hK hX hbl hL ad i hi kd_w hd_w pl_w st_w ho_w be_w nc_w nn_w dy_w kd_t hd_t pl_t st_t ho_t be_t nc_t nn_t dy_t sk_u sv_u sa_u sk_k sv_k sa_k sw sn su om sk_b sv_b sa_b tl tn tc mt my mo md mb ms mp mk mi mq mn mz ma mh mg mr mx hI hP hD hS hl kk
      · refine lv_tableIn (tgt := 704) (off := 672) hx hb dL_law_32 (by rw [c2]; decide) (by rw [c2]; decide) (by rw [c2]; rfl) (by decide) ?_
        exact law_20 l hx hb hml hown hts hK hX hbl hL ad i hi kd_w hd_w pl_w st_w ho_w be_w nc_w nn_w dy_w kd_t hd_t pl_t st_t ho_t be_t nc_t nn_t dy_t sk_u sv_u sa_u sk_k sv_k sa_k sw sn su om sk_b sv_b sa_b tl tn tc mt my mo md mb ms mp mk mi mq mn mz ma mh mg mr mx hI hP hD hS hl kk
      · refine lv_tableIn (tgt := 737) (off := 705) hx hb dL_law_32 (by rw [c2]; decide) (by rw [c2]; decide) (by rw [c2]; rfl) (by decide) ?_
        exact law_21 l hx hb hml hown hts hK hX hbl hL ad i hi kd_w hd_w pl_w st_w ho_w be_w nc_w nn_w dy_w kd_t hd_t pl_t st_t ho_t be_t nc_t nn_t dy_t sk_u sv_u sa_u sk_k sv_k sa_k sw sn su om sk_b sv_b sa_b tl tn tc mt my mo md mb ms mp mk mi mq mn mz ma mh mg mr mx hI hP hD hS hl kk
      · refine lv_tableIn (tgt := 750) (off := 718) hx hb dL_law_32 (by rw [c2]; decide) (by rw [c2]; decide) (by rw [c2]; rfl) (by decide) ?_
        exact law_22 l hx hb hml hown hts hK hX hbl hL ad i hi kd_w hd_w pl_w st_w ho_w be_w nc_w nn_w dy_w kd_t hd_t pl_t st_t ho_t be_t nc_t nn_t dy_t sk_u sv_u sa_u sk_k sv_k sa_k sw sn su om sk_b sv_b sa_b tl tn tc mt my mo md mb ms mp mk mi mq mn mz ma mh mg mr mx hI hP hD hS hl kk
      · refine lv_tableIn (tgt := 763) (off := 731) hx hb dL_law_32 (by rw [c2]; decide) (by rw [c2]; decide) (by rw [c2]; rfl) (by decide) ?_
        exact law_23 l hx hb hml hown hts hK hX hbl hL ad i hi kd_w hd_w pl_w st_w ho_w be_w nc_w nn_w dy_w kd_t hd_t pl_t st_t ho_t be_t nc_t nn_t dy_t sk_u sv_u sa_u sk_k sv_k sa_k sw sn su om sk_b sv_b sa_b tl tn tc mt my mo md mb ms mp mk mi mq mn mz ma mh mg mr mx hI hP hD hS hl kk
      · refine lv_tableIn (tgt := 796) (off := 764) hx hb dL_law_32 (by rw [c2]; decide) (by rw [c2]; decide) (by rw [c2]; rfl) (by decide) ?_
        exact law_24 l hx hb hml hown hts hK hX hbl hL ad i hi kd_w hd_w pl_w st_w ho_w be_w nc_w nn_w dy_w kd_t hd_t pl_t st_t ho_t be_t nc_t nn_t dy_t sk_u sv_u sa_u sk_k sv_k sa_k sw sn su om sk_b sv_b sa_b tl tn tc mt my mo md mb ms mp mk mi mq mn mz ma mh mg mr mx hI hP hD hS hl kk
      · refine lv_tableIn (tgt := 849) (off := 817) hx hb dL_law_32 (by rw [c2]; decide) (by rw [c2]; decide) (by rw [c2]; rfl) (by decide) ?_
        exact law_25 l hx hb hml hown hts hK hX hbl hL ad i hi kd_w hd_w pl_w st_w ho_w be_w nc_w nn_w dy_w kd_t hd_t pl_t st_t ho_t be_t nc_t nn_t dy_t sk_u sv_u sa_u sk_k sv_k sa_k sw sn su om sk_b sv_b sa_b tl tn tc mt my mo md mb ms mp mk mi mq mn mz ma mh mg mr mx hI hP hD hS hl kk
      · refine lv_tableIn (tgt := 892) (off := 860) hx hb dL_law_32 (by rw [c2]; decide) (by rw [c2]; decide) (by rw [c2]; rfl) (by decide) ?_
        exact law_26 l hx hb hml hown hts hK hX hbl hL ad i hi kd_w hd_w pl_w st_w ho_w be_w nc_w nn_w dy_w kd_t hd_t pl_t st_t ho_t be_t nc_t nn_t dy_t sk_u sv_u sa_u sk_k sv_k sa_k sw sn su om sk_b sv_b sa_b tl tn tc mt my mo md mb ms mp mk mi mq mn mz ma mh mg mr mx hI hP hD hS hl kk
      · refine lv_tableIn (tgt := 905) (off := 873) hx hb dL_law_32 (by rw [c2]; decide) (by rw [c2]; decide) (by rw [c2]; rfl) (by decide) ?_
        exact law_27 l hx hb hml hown hts hK hX hbl hL ad i hi kd_w hd_w pl_w st_w ho_w be_w nc_w nn_w dy_w kd_t hd_t pl_t st_t ho_t be_t nc_t nn_t dy_t sk_u sv_u sa_u sk_k sv_k sa_k sw sn su om sk_b sv_b sa_b tl tn tc mt my mo md mb ms mp mk mi mq mn mz ma mh mg mr mx hI hP hD hS hl kk
      · refine lv_tableIn (tgt := 918) (off := 886) hx hb dL_law_32 (by rw [c2]; decide) (by rw [c2]; decide) (by rw [c2]; rfl) (by decide) ?_
        exact law_28 l hx hb hml hown hts hK hX hbl hL ad i hi kd_w hd_w pl_w st_w ho_w be_w nc_w nn_w dy_w kd_t hd_t pl_t st_t ho_t be_t nc_t nn_t dy_t sk_u sv_u sa_u sk_k sv_k sa_k sw sn su om sk_b sv_b sa_b tl tn tc mt my mo md mb ms mp mk mi mq mn mz ma mh mg mr mx hI hP hD hS hl kk
