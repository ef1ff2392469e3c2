/-! what stands outside the worlds: the class's text constant, two statics of the JDK's; contracts of the JDK's methods and of the constructors -/
def fTx : String := "c0,9;c1,0;c2,1;c0,1;c3,2;c1,3;n5,036214;n3,550000;n4,909090;n5,444444;"
def sE (K V : Nat) (b : Nat → Int32) (A : Nat → Prop) (U : State) (H : Heap) : Prop := va_AO RX0 U ∧ va_O "java/lang/String" K A U H ∧ va_OF "java/lang/String" "coder" "B" (.int 0) K A U H ∧ va_OF "java/lang/String" "value" "[B" (.ref V) K A U H ∧ va_T .byte V 70 (fun j => .int (b j)) A U H ∧ va_Z "java/lang/String" "COMPACT_STRINGS" "Z" (.int 1) A U H ∧ va_Zq "jdk/internal/util/Preconditions" "SIOOBE_FORMATTER" "Ljava/util/function/BiFunction;" A U H ∧ vk_R RX5 55 fTx K U
theorem sE_step {K V : Nat} {b : Nat → Int32} {A B : Nat → Prop} {s U : State} {H : Heap} {locs : List Loc} (hW : s.WarmedH U.vm) (hS : va_S A s.heap H locs) (hU : U.heap = H) (hAB : ∀ q, B q → A q) (h : sE K V b A s s.heap) : sE K V b B U U.heap := by
  obtain ⟨h0, h1, h2, h3, h4, h5, h6, h7⟩ := h
  rw [hU]
  exact ⟨va_AO.moved hW.alike h0, va_O.narrow (va_O.moved hW.alike (h1.kept hS.2.1)) hAB, va_OF.narrow (va_OF.moved hW.alike (h2.kept hS.2.1)) hAB, va_OF.narrow (va_OF.moved hW.alike (h3.kept hS.2.1)) hAB, va_T.narrow (va_T.moved hW.alike (h4.kept hS.2.1)) hAB, va_Z.narrow (va_Z.moved hW.alike (h5.kept hS.2.1)) hAB, va_Zq.narrow (va_Zq.moved hW.alike (h6.kept hS.2.1)) hAB, vk_R.warm hW h7⟩
theorem sE_call {K V : Nat} {b : Nat → Int32} {A : Nat → Prop} {u : State} {a : Array Value} {g : JFrame} {mk : MethodId} (h : sE K V b A u u.heap) : sE K V b A (u.calling g mk a) (u.calling g mk a).heap := by
  obtain ⟨h0, h1, h2, h3, h4, h5, h6, h7⟩ := h
  exact ⟨va_AO.moved (u := u) (U := u.calling g mk a) (Vm.Alike.refl u.vm) h0, va_O.moved (u := u) (U := u.calling g mk a) (Vm.Alike.refl u.vm) h1, va_OF.moved (u := u) (U := u.calling g mk a) (Vm.Alike.refl u.vm) h2, va_OF.moved (u := u) (U := u.calling g mk a) (Vm.Alike.refl u.vm) h3, va_T.moved (u := u) (U := u.calling g mk a) (Vm.Alike.refl u.vm) h4, va_Z.moved (u := u) (U := u.calling g mk a) (Vm.Alike.refl u.vm) h5, va_Zq.moved (u := u) (U := u.calling g mk a) (Vm.Alike.refl u.vm) h6, vk_R.same (u := u) (U := u.calling g mk a) rfl h7⟩
def cPreE (K V : Nat) (b : Nat → Int32) (D : va_G) (cI cC cQ : ClassId) (wc : va_W) (sz : Nat) : State → Prop := fun U => cPre D cI cC cQ wc sz U ∧ sE K V b (va_A wc sz) U U.heap
theorem blind_e {K V : Nat} {b : Nat → Int32} {D : va_G} {cI cC cQ : ClassId} {av : List Value} {wc : va_W} {sz : Nat} : FrameBlind (va_Pc av (cPreE K V b D cI cC cQ wc sz)) := fun _ _ _ _ q => ⟨q.1, ⟨q.2.1.1, q.2.1.2.1, kz_same q.2.1.2.2.1, q.2.1.2.2.2⟩, sE_call q.2.2⟩
/-- the JDK's methods -/
def CJ (K V : Nat) (b : Nat → Int32) (l : Launch) (D : va_G) (cI cC cQ : ClassId) (y : MethodName) (ws : List Cond) (rm : Room) (av : List Value) (post : Int32 → Prop) : Prop := ∀ sz : Nat, Met l y ws rm (va_Pc av (cPreE K V b D cI cC cQ [] sz)) (va_Qi (S := Unit) (fun r _ => post r) (fun _ _ => True) (va_A [] sz)) 0 0 (va_A [] sz)
def CJv (K V : Nat) (b : Nat → Int32) (l : Launch) (D : va_G) (cI cC cQ : ClassId) (y : MethodName) (ws : List Cond) (rm : Room) (av : List Value) : Prop := ∀ sz : Nat, Met l y ws rm (va_Pc av (cPreE K V b D cI cC cQ [] sz)) (va_Qv (S := Unit) (fun _ => True) (fun _ _ => True) (va_A [] sz)) 0 0 (va_A [] sz)
/-- the constructors: rm.cells cells of rm.slots slots come -/
def Ck {S : Type} (K V : Nat) (b : Nat → Int32) (l : Launch) (D : va_G) (cI cC cQ : ClassId) (y : MethodName) (ws : List Cond) (rm : Room) (av : List Value) (wc : va_W) (Wd : S → va_W) (post : S → Prop) : Prop := ∀ sz : Nat, Met l y ws rm (va_Pc av (cPreE K V b D cI cC cQ wc sz)) (va_Qv post (cEnd D (va_A wc sz) Wd) (va_A wc sz)) rm.cells rm.slots (va_A wc sz)
theorem CJ_mk {K V : Nat} {b : Nat → Int32} {l : Launch} {D : va_G} {cI cC cQ : ClassId} {y : MethodName} {ws ws' : List Cond} {rm : Room} {av : List Value} {post : Int32 → Prop} {cc : ByteArray} {maxL : Nat} {ty : FieldType}
  (hy : plainName y.cls = true) (hw : ws = Cond.code y cc maxL (some ty) :: ws') (hn : (lg_sl av).length ≤ maxL)
  (body : ∀ (p : Program) (e : Env) (s : State) (m : MethodId) (args : Array Value) (below : List Frame) (meth : Method) (c : Code) (A : Nat → Prop) (Z : State → Prop) (ls : Array Slot),
    p.tables.exec = Jvm.exec → c.code = cc → c.maxLocals = maxL → s.vm.findClass y.cls = some m.cls → (∀ w ∈ ws, w.before args s = true) → kz D cI cC cQ s → sE K V b A s s.heap → (∀ q : Nat, s.heap.size ≤ q → A q) →
    (∀ (r : Int32) (H : Heap) (locs : List Loc) (pc : Nat) (ls : Array Slot), narrow ty (.int r) = .int r → post r → va_S A s.heap H locs → decode cc pc = .ok (.ireturn, 1) → W p l e rm s m args below meth c H locs 0 0 Z (F0 m pc ls [.int r])) →
    lv_has ls maxL (lv_args 0 av) → W p l e rm s m args below meth c s.heap [] 0 0 Z (F0 m 0 ls [])) : CJ K V b l D cI cC cQ y ws rm av post := by
  intro sz
  refine Met.ofW (cc := cc) (maxL := maxL) (ret := (some ty)) hy hw ?_
  intro p e s m args below meth c s₁ B hml hv
  obtain ⟨rfl, ⟨hsz, hP, hK, hD0⟩, hE⟩ := hv
  have hr := B.returns
  have hlocks := B.notSynchronized
  subst hsz
  rw [lg_entry_eq]
  refine body p e s m _ below meth c (va_A [] s.heap.size) _ _ B.exec B.bytes hml (findClass_of_methodNamed B.named) (atoms_spec (ws := ws) B.pre) hK hE (fun q h => Or.inr h) ?_ (lv_entry av hn)
  intro r H locs pc ls hnr hp hS hdg
  exact W.zret (v := r) B.exec B.bytes hr hnr (fun t ht hW => ⟨⟨r, (), rfl, hp, trivial⟩, hS.F ht⟩) hS.2.2 hdg
theorem CJv_mk {K V : Nat} {b : Nat → Int32} {l : Launch} {D : va_G} {cI cC cQ : ClassId} {y : MethodName} {ws ws' : List Cond} {rm : Room} {av : List Value} {cc : ByteArray} {maxL : Nat}
  (hy : plainName y.cls = true) (hw : ws = Cond.code y cc maxL none :: ws') (hn : (lg_sl av).length ≤ maxL)
  (body : ∀ (p : Program) (e : Env) (s : State) (m : MethodId) (args : Array Value) (below : List Frame) (meth : Method) (c : Code) (A : Nat → Prop) (Z : State → Prop) (ls : Array Slot),
    p.tables.exec = Jvm.exec → c.code = cc → c.maxLocals = maxL → s.vm.findClass y.cls = some m.cls → (∀ w ∈ ws, w.before args s = true) → kz D cI cC cQ s → sE K V b A s s.heap → (∀ q : Nat, s.heap.size ≤ q → A q) →
    (∀ (H : Heap) (locs : List Loc) (pc : Nat) (ls : Array Slot), va_S A s.heap H locs → decode cc pc = .ok (.return_, 1) → W p l e rm s m args below meth c H locs 0 0 Z (F0 m pc ls [])) →
    lv_has ls maxL (lv_args 0 av) → W p l e rm s m args below meth c s.heap [] 0 0 Z (F0 m 0 ls [])) : CJv K V b l D cI cC cQ y ws rm av := by
  intro sz
  refine Met.ofW (cc := cc) (maxL := maxL) (ret := none) hy hw ?_
  intro p e s m args below meth c s₁ B hml hv
  obtain ⟨rfl, ⟨hsz, hP, hK, hD0⟩, hE⟩ := hv
  have hr := B.returns
  have hlocks := B.notSynchronized
  subst hsz
  rw [lg_entry_eq]
  refine body p e s m _ below meth c (va_A [] s.heap.size) _ _ B.exec B.bytes hml (findClass_of_methodNamed B.named) (atoms_spec (ws := ws) B.pre) hK hE (fun q h => Or.inr h) ?_ (lv_entry av hn)
  intro H locs pc ls hS hdg
  exact W.vret B.exec B.bytes hr (fun t ht hW => ⟨⟨(), rfl, trivial, trivial⟩, hS.F ht⟩) hS.2.2 hdg
theorem Ck_mk {S : Type} {K V : Nat} {b : Nat → Int32} {l : Launch} {D : va_G} {cI cC cQ : ClassId} {y : MethodName} {ws ws' : List Cond} {rm : Room} {av : List Value} {wc : va_W} {Wd : S → va_W} {post : S → Prop} {cc : ByteArray} {maxL : Nat}
  (hy : plainName y.cls = true) (hw : ws = Cond.code y cc maxL none :: ws') (hn : (lg_sl av).length ≤ maxL) (hyi : y.name = "<init>")
  (body : ∀ (p : Program) (e : Env) (s : State) (m : MethodId) (args : Array Value) (below : List Frame) (meth : Method) (c : Code) (A : Nat → Prop) (Z : State → Prop) (ls : Array Slot),
    p.tables.exec = Jvm.exec → c.code = cc → c.maxLocals = maxL → s.vm.findClass y.cls = some m.cls → (∀ w ∈ ws, w.before args s = true) → kz D cI cC cQ s → sE K V b A s s.heap → (∀ q : Nat, s.heap.size ≤ q → A q) → va_P D vwCl wc s.heap → va_D A wc → meth.name = "<init>" →
    (∀ (u : S) (H : Heap) (locs : List Loc) (pc : Nat) (ls : Array Slot), post u → va_P D vwCl (Wd u) H → va_D A (Wd u) → va_S A s.heap H locs → decode cc pc = .ok (.return_, 1) → W p l e rm s m args below meth c H locs rm.cells rm.slots Z (F0 m pc ls [])) →
    lv_has ls maxL (lv_args 0 av) → W p l e rm s m args below meth c s.heap [] 0 0 Z (F0 m 0 ls [])) : Ck K V b l D cI cC cQ y ws rm av wc Wd post := by
  intro sz
  refine Met.ofW (cc := cc) (maxL := maxL) (ret := none) hy hw ?_
  intro p e s m args below meth c s₁ B hml hv
  obtain ⟨rfl, ⟨hsz, hP, hK, hD0⟩, hE⟩ := hv
  have hr := B.returns
  have hlocks := B.notSynchronized
  have hin : meth.name = "<init>" := ((name_of_methodNamed B.named B.method).1).trans hyi
  subst hsz
  have hD := hD0.self (sz := s.heap.size)
  rw [lg_entry_eq]
  refine body p e s m _ below meth c (va_A wc s.heap.size) _ _ B.exec B.bytes hml (findClass_of_methodNamed B.named) (atoms_spec (ws := ws) B.pre) hK hE (fun q h => Or.inr h) hP hD hin ?_ (lv_entry av hn)
  intro u H locs pc ls hp hP hD hS hdg
  exact W.vret B.exec B.bytes hr (fun t ht hW => ⟨⟨u, rfl, hp, by rw [ht]; exact hP, hD⟩, hS.F ht⟩) hS.2.2 hdg
theorem vaA_nil {A : Nat → Prop} {s : State} {H : Heap} {locs : List Loc} (hS : va_S A s.heap H locs) (hA : ∀ q : Nat, s.heap.size ≤ q → A q) : ∀ q, va_A [] H.size q → A q := fun q h => h.elim (fun ⟨k, e, h⟩ => by simp at h) (fun h => hA q (Nat.le_trans hS.1 h))
theorem vaD_nil {A : Nat → Prop} : va_D A [] := ⟨fun i j p q h => by simp at h, fun k q h => by simp at h⟩
theorem vaP_nil {D : va_G} {H : Heap} : va_P D vwCl [] H := fun k q h => by simp at h
theorem vaP_keep {D : va_G} {ws : va_W} {H H1 : Heap} (hP : va_P D vwCl ws H) (hk : ∀ q : Nat, q < H.size → ¬ va_A [] H.size q → H1[q]? = H[q]?) : va_P D vwCl ws H1 :=
  hP.kept (fun k x hx => hk x.1 (hP k x hx).lt (fun h => h.elim (fun ⟨k, e, h⟩ => by simp at h) (fun h => absurd (hP k x hx).lt (Nat.not_lt.mpr h))))
theorem va_app_end {A : Nat → Prop} {D : va_G} {wr wc w1 : va_W} {H H1 : Heap} (hP : va_P D vwCl (wr ++ wc) H) (hD : va_D A (wr ++ wc)) (hF : ∀ q, va_A wc H.size q → A q) (hk : ∀ q : Nat, q < H.size → ¬ va_A wc H.size q → H1[q]? = H[q]?) (hP1 : va_P D vwCl w1 H1) (hD1 : va_D (va_A wc H.size) w1) : va_P D vwCl (wr ++ w1) H1 ∧ va_D A (wr ++ w1) := by
  have hr : va_P D vwCl wr H := vaP_sub (fun q hq => List.mem_append_left _ hq) hP
  have hout : ∀ x ∈ wr, ¬ va_A wc H.size x.1 := by
    intro x hx h
    rcases h with ⟨k, e, h⟩ | h
    · exact vaD_apart hD x hx (x.1, e) (List.mem_of_getElem? h) rfl
    · exact absurd (vaP_mem.mp hr x hx).lt (Nat.not_lt.mpr h)
  refine ⟨(hr.kept (fun k x hx => hk x.1 (hr k x hx).lt (hout x (List.mem_of_getElem? hx)))).app hP1, vaD_mk (vaD_left hD) (hD1.weaken (fun _ q _ h => hF q.1 h)) ?_⟩
  intro x hx q hq heq
  exact hout x hx (by rw [heq]; exact (vaD_mem.mp hD1).2 q hq)
section KE
variable {p : Program} {l : Launch} {e : Env} {R : Room} {s : State} {m : MethodId} {args : Array Value} {below : List Frame} {meth : Method} {c : Code} {H : Heap} {locs : List Loc} {cells slots : Nat} {Q : State → Prop} {D : va_G} {cI cC cQ : ClassId} {A : Nat → Prop} {pc : Nat} {ls : Array Slot} {rest st0 : List Value} {y : MethodName} {bytes cc : ByteArray} {maxL nL n index : Nat} {ret : Option FieldType} {Ts wsy wsy' : List Cond} {rm : Room} {own : String} {bb : Addr} {As : List Value} {S : Type} {Wd : S → va_W} {wc ws wr : va_W} {K V : Nat} {b : Nat → Int32}
theorem kJS {post : Int32 → Prop} (S0 : CallFix p m c cc nL s args Ts own) (hK : kz D cI cC cQ s) (hE : sE K V b A s s.heap) (hP : va_P D vwCl ws H) (hS : va_S A s.heap H locs) (hA : ∀ q : Nat, s.heap.size ≤ q → A q)
    (hM : CJ K V b l D cI cC cQ y wsy rm As post) (hG : GoodIn Ts (va_wsS own index y wsy)) (hw : wsy = Cond.code y bytes maxL ret :: wsy') (hrc : rm.cells = 0 ∧ rm.slots = 0) (hd : y.cls ≠ "java/lang/invoke/MethodHandle" ∧ y.cls ≠ "java/lang/invoke/VarHandle" ∧ (parseMethodDescriptor y.desc).map (fun d => d.parameters.length) = some n) (hRm : rm.frames + 1 ≤ R.frames ∧ 8 + (maxL + 11) + rm.locals ≤ R.locals) (hn : As.length = n) (hsz : ls.size = nL) (hst : st0 = As.reverse ++ rest) (hcat : (rest.map fun v => v.category).sum ≤ 8) (hdg : decode cc pc = .ok (.invokestatic index, 3)) (hf : cells ≤ R.cells ∧ slots ≤ R.slots)
    (kk : ∀ (r : Int32) (H1 : Heap) (locs1 : List Loc), post r → va_P D vwCl ws H1 → va_S A s.heap H1 locs1 → W p l e R s m args below meth c H1 locs1 cells slots Q (F0 m (pc + 3) ls (.int r :: rest))) : W p l e R s m args below meth c H locs cells slots Q (F0 m pc ls st0) := by
  have hF := vaA_nil hS hA
  refine va_calli (va_runS S0 (hM H.size) (va_cwS n S0.2.2.2.2 hG hw hrc.1 hrc.2 hd hRm) ⟨blind_e, fun U hU hW => ⟨rfl, ⟨by rw [hU], vaP_nil, kz_warm hW hK, vaD_nil⟩, sE_step hW hS hU hF hE⟩⟩ rfl hn hsz hst (lv_room hcat) hdg hf) hS (fun q _ h => hF q h) hF (fun r u t H1 locs1 ht hvm hw hB hz1 hk1 hS1 => ?_)
  exact kk r H1 locs1 hw (vaP_keep hP hk1) hS1
theorem kJSv (S0 : CallFix p m c cc nL s args Ts own) (hK : kz D cI cC cQ s) (hE : sE K V b A s s.heap) (hP : va_P D vwCl ws H) (hS : va_S A s.heap H locs) (hA : ∀ q : Nat, s.heap.size ≤ q → A q)
    (hM : CJv K V b l D cI cC cQ y wsy rm As) (hG : GoodIn Ts (va_wsS own index y wsy)) (hw : wsy = Cond.code y bytes maxL ret :: wsy') (hrc : rm.cells = 0 ∧ rm.slots = 0) (hd : y.cls ≠ "java/lang/invoke/MethodHandle" ∧ y.cls ≠ "java/lang/invoke/VarHandle" ∧ (parseMethodDescriptor y.desc).map (fun d => d.parameters.length) = some n) (hRm : rm.frames + 1 ≤ R.frames ∧ 8 + (maxL + 11) + rm.locals ≤ R.locals) (hn : As.length = n) (hsz : ls.size = nL) (hst : st0 = As.reverse ++ rest) (hcat : (rest.map fun v => v.category).sum ≤ 8) (hdg : decode cc pc = .ok (.invokestatic index, 3)) (hf : cells ≤ R.cells ∧ slots ≤ R.slots)
    (kk : ∀ (H1 : Heap) (locs1 : List Loc), va_P D vwCl ws H1 → va_S A s.heap H1 locs1 → W p l e R s m args below meth c H1 locs1 cells slots Q (F0 m (pc + 3) ls rest)) : W p l e R s m args below meth c H locs cells slots Q (F0 m pc ls st0) := by
  have hF := vaA_nil hS hA
  refine va_callv (va_runS S0 (hM H.size) (va_cwS n S0.2.2.2.2 hG hw hrc.1 hrc.2 hd hRm) ⟨blind_e, fun U hU hW => ⟨rfl, ⟨by rw [hU], vaP_nil, kz_warm hW hK, vaD_nil⟩, sE_step hW hS hU hF hE⟩⟩ rfl hn hsz hst (lv_room hcat) hdg hf) hS (fun q _ h => hF q h) hF (fun u t H1 locs1 ht hvm hw hB hz1 hk1 hS1 => ?_)
  exact kk H1 locs1 (vaP_keep hP hk1) hS1
theorem kJV {post : Int32 → Prop} (S0 : CallFix p m c cc nL s args Ts own) (hK : kz D cI cC cQ s) (hE : sE K V b A s s.heap) (hP : va_P D vwCl ws H) (hS : va_S A s.heap H locs) (hA : ∀ q : Nat, s.heap.size ≤ q → A q)
    (hM : CJ K V b l D cI cC cQ y wsy rm (.ref K :: As) post) (hG : GoodIn Ts (wsV own index "java/lang/String" y wsy)) (hyC : y.cls = "java/lang/String") (hw : wsy = Cond.code y bytes maxL ret :: wsy') (hrc : rm.cells = 0 ∧ rm.slots = 0) (hd : y.cls ≠ "java/lang/invoke/MethodHandle" ∧ y.cls ≠ "java/lang/invoke/VarHandle" ∧ (parseMethodDescriptor y.desc).map (fun d => d.parameters.length) = some n) (hRm : rm.frames + 1 ≤ R.frames ∧ 8 + (maxL + 11) + rm.locals ≤ R.locals) (hn : As.length = n) (hsz : ls.size = nL) (hst : st0 = As.reverse ++ .ref K :: rest) (hcat : (rest.map fun v => v.category).sum ≤ 8) (hdg : decode cc pc = .ok (.invokevirtual index, 3)) (hf : cells ≤ R.cells ∧ slots ≤ R.slots)
    (kk : ∀ (r : Int32) (H1 : Heap) (locs1 : List Loc), post r → va_P D vwCl ws H1 → va_S A s.heap H1 locs1 → W p l e R s m args below meth c H1 locs1 cells slots Q (F0 m (pc + 3) ls (.int r :: rest))) : W p l e R s m args below meth c H locs cells slots Q (F0 m pc ls st0) := by
  have hF := vaA_nil hS hA
  have hrecv : ∃ cell : Cell, H[K]? = some cell ∧ cell.vm.isStatics = false ∧ s.vm.findClass "java/lang/String" = some cell.cls := by
    obtain ⟨cell, h1, h2, h3, -⟩ := hE.2.1.kept hS.2.1
    exact ⟨cell, h1, h2, h3⟩
  refine va_calli (va_runV S0 (hM H.size) (cwV n S0.2.2.2.2 hG hw hrc.1 hrc.2 ⟨hyC, hd⟩ hRm) ⟨blind_e, hrecv, fun U hU hW => ⟨rfl, ⟨by rw [hU], vaP_nil, kz_warm hW hK, vaD_nil⟩, sE_step hW hS hU hF hE⟩⟩ rfl hn hsz hst (lv_room hcat) hdg hf) hS (fun q _ h => hF q h) hF (fun r u t H1 locs1 ht hvm hw hB hz1 hk1 hS1 => ?_)
  exact kk r H1 locs1 hw (vaP_keep hP hk1) hS1
theorem kI {post : S → Prop} (S0 : CallFix p m c cc nL s args Ts own) (hK : kz D cI cC cQ s) (hE : sE K V b A s s.heap) (hP : va_P D vwCl (wr ++ wc) H) (hD : va_D A (wr ++ wc)) (hS : va_S A s.heap H locs) (hA : ∀ q : Nat, s.heap.size ≤ q → A q)
    (hM : Ck K V b l D cI cC cQ y wsy rm (.ref bb :: As) wc Wd post) (hG : GoodIn Ts wsy) (hw : wsy = Cond.code y bytes maxL none :: wsy') (hini : (Cond.initialized y.cls).before args s = true) (hl : (Cond.methodLink own index y).before args s = true) (hin : (Cond.instanceMethod y).before args s = true) (hy1 : y.name = "<init>") (hd : y.cls ≠ "java/lang/invoke/MethodHandle" ∧ y.cls ≠ "java/lang/invoke/VarHandle" ∧ (parseMethodDescriptor y.desc).map (fun d => d.parameters.length) = some n) (hRm : rm.frames + 1 ≤ R.frames ∧ 8 + (maxL + 11) + rm.locals ≤ R.locals) (hn : As.length = n) (hsz : ls.size = nL) (hst : st0 = As.reverse ++ .ref bb :: rest) (hcat : (rest.map fun v => v.category).sum ≤ 8) (hdg : decode cc pc = .ok (.invokespecial index, 3)) (hf : cells + rm.cells ≤ R.cells ∧ slots + rm.slots ≤ R.slots)
    (kk : ∀ (u : S) (H1 : Heap) (locs1 : List Loc), post u → va_P D vwCl (wr ++ Wd u) H1 → va_D A (wr ++ Wd u) → va_S A s.heap H1 locs1 → W p l e R s m args below meth c H1 locs1 (cells + rm.cells) (slots + rm.slots) Q (F0 m (pc + 3) ls rest)) : W p l e R s m args below meth c H locs cells slots Q (F0 m pc ls st0) := by
  have hF : ∀ q, va_A wc H.size q → A q := fun q h => h.elim (fun ⟨k, e, h⟩ => (vaD_mem.mp hD).2 (q, e) (List.mem_append_right _ (List.mem_of_getElem? h))) (fun h => hA q (Nat.le_trans hS.1 h))
  have hPc : va_P D vwCl wc H := vaP_sub (fun q hq => List.mem_append_right _ hq) hP
  refine va_callv (va_runI S0 (hM H.size) (cwI n S0.2.2.2.2 hG hw rfl rfl hini hl hin hy1 hd hRm) ⟨blind_e, fun U hU hW => ⟨rfl, ⟨by rw [hU], by rw [hU]; exact hPc, kz_warm hW hK, (vaD_right hD).weaken (fun _ _ _ _ => trivial)⟩, sE_step hW hS hU hF hE⟩⟩ rfl hn hsz hst (lv_room hcat) hdg hf) hS (fun q _ h => hF q h) hF (fun u t H1 locs1 ht hvm hw hB hz1 hk1 hS1 => ?_)
  obtain ⟨hP1, hD1⟩ := hB
  rw [ht] at hP1
  obtain ⟨g1, g2⟩ := va_app_end hP hD hF hk1 hP1 hD1
  exact kk u H1 locs1 hw g1 g2 hS1
theorem kIN {post : S → Prop} {host : String} (S0 : CallFix p m c cc nL s args Ts own) (hK : kz D cI cC cQ s) (hE : sE K V b A s s.heap) (hP : va_P D vwCl (wr ++ wc) H) (hD : va_D A (wr ++ wc)) (hS : va_S A s.heap H locs) (hA : ∀ q : Nat, s.heap.size ≤ q → A q)
    (hM : Ck K V b l D cI cC cQ y wsy rm (.ref bb :: As) wc Wd post) (hG : GoodIn Ts wsy) (hw : wsy = Cond.code y bytes maxL none :: wsy') (hini : (Cond.initialized y.cls).before args s = true) (hl : va_Nw (.methodLinkNest own index y host) s) (hin : (Cond.instanceMethod y).before args s = true) (hy1 : y.name = "<init>") (hd : y.cls ≠ "java/lang/invoke/MethodHandle" ∧ y.cls ≠ "java/lang/invoke/VarHandle" ∧ (parseMethodDescriptor y.desc).map (fun d => d.parameters.length) = some n) (hRm : rm.frames + 1 ≤ R.frames ∧ 8 + (maxL + 11) + rm.locals ≤ R.locals) (hn : As.length = n) (hsz : ls.size = nL) (hst : st0 = As.reverse ++ .ref bb :: rest) (hcat : (rest.map fun v => v.category).sum ≤ 8) (hdg : decode cc pc = .ok (.invokespecial index, 3)) (hf : cells + rm.cells ≤ R.cells ∧ slots + rm.slots ≤ R.slots)
    (kk : ∀ (u : S) (H1 : Heap) (locs1 : List Loc), post u → va_P D vwCl (wr ++ Wd u) H1 → va_D A (wr ++ Wd u) → va_S A s.heap H1 locs1 → W p l e R s m args below meth c H1 locs1 (cells + rm.cells) (slots + rm.slots) Q (F0 m (pc + 3) ls rest)) : W p l e R s m args below meth c H locs cells slots Q (F0 m pc ls st0) := by
  have hF : ∀ q, va_A wc H.size q → A q := fun q h => h.elim (fun ⟨k, e, h⟩ => (vaD_mem.mp hD).2 (q, e) (List.mem_append_right _ (List.mem_of_getElem? h))) (fun h => hA q (Nat.le_trans hS.1 h))
  have hPc : va_P D vwCl wc H := vaP_sub (fun q hq => List.mem_append_right _ hq) hP
  refine va_callv (va_runIN S0 (hM H.size) ⟨va_cnB n S0.2.2.2.2 hG hw rfl rfl hl hini hd hRm, hy1, hin⟩ ⟨blind_e, fun U hU hW => ⟨rfl, ⟨by rw [hU], by rw [hU]; exact hPc, kz_warm hW hK, (vaD_right hD).weaken (fun _ _ _ _ => trivial)⟩, sE_step hW hS hU hF hE⟩⟩ rfl hn hsz hst (lv_room hcat) hdg hf) hS (fun q _ h => hF q h) hF (fun u t H1 locs1 ht hvm hw hB hz1 hk1 hS1 => ?_)
  obtain ⟨hP1, hD1⟩ := hB
  rw [ht] at hP1
  obtain ⟨g1, g2⟩ := va_app_end hP hD hF hk1 hP1 hD1
  exact kk u H1 locs1 hw g1 g2 hS1
theorem z_newi (hexec : p.tables.exec = Jvm.exec) (hb : c.code = cc) (harr : (Cond.arrayClass .int).before args s = true) (hK : va_K D vwCl (tyz cI cC cQ) s) (hP : va_P D vwCl ws H) (hD : va_D A ws) (hS : va_S A s.heap H locs) (hA : ∀ q : Nat, s.heap.size ≤ q → A q)
    {n : Int32} {N : Nat} (hn : ¬ n < 0) (hN : n.toNatClampNeg = N) (hbytes : N * componentBytes .int ≤ 536870912) (hcells : cells + 1 ≤ R.cells) (hslots : slots + N ≤ R.slots) (hdg : decode cc pc = .ok (.newarray .int, 2))
    (kk : ∀ (q : Nat) (H1 : Heap), va_P D vwCl (ws ++ [(q, .inl (cI, N, .inl (fun _ => 0)))]) H1 → va_D A (ws ++ [(q, .inl (cI, N, .inl (fun _ => 0)))]) → va_S A s.heap H1 locs → W p l e R s m args below meth c H1 locs (cells + 1) (slots + N) Q (F0 m (pc + 2) ls (.ref q :: rest))) : W p l e R s m args below meth c H locs cells slots Q (F0 m pc ls (.int n :: rest)) := by
  refine va_newa (atype := .int) (ty := .int) (a0 := (N, .inl (fun _ => 0))) hexec hb harr rfl hK hP hD hS hA (fun cA => rfl) hn hN hbytes hcells hslots hdg (fun q cA H1 hK1 hP1 hD1 hS1 => ?_)
  have e : cA = cI := Option.some.inj (((hK1.2 3 _ rfl).2).symm.trans ((hK.2 0 _ rfl).2))
  subst e
  exact kk q H1 hP1 hD1 hS1
theorem z_newc (hexec : p.tables.exec = Jvm.exec) (hb : c.code = cc) (harr : (Cond.arrayClass .char).before args s = true) (hK : va_K D vwCl (tyz cI cC cQ) s) (hP : va_P D vwCl ws H) (hD : va_D A ws) (hS : va_S A s.heap H locs) (hA : ∀ q : Nat, s.heap.size ≤ q → A q)
    {n : Int32} {N : Nat} (hn : ¬ n < 0) (hN : n.toNatClampNeg = N) (hbytes : N * componentBytes .char ≤ 536870912) (hcells : cells + 1 ≤ R.cells) (hslots : slots + N ≤ R.slots) (hdg : decode cc pc = .ok (.newarray .char, 2))
    (kk : ∀ (q : Nat) (H1 : Heap), va_P D vwCl (ws ++ [(q, .inl (cC, N, .inl (fun _ => 0)))]) H1 → va_D A (ws ++ [(q, .inl (cC, N, .inl (fun _ => 0)))]) → va_S A s.heap H1 locs → W p l e R s m args below meth c H1 locs (cells + 1) (slots + N) Q (F0 m (pc + 2) ls (.ref q :: rest))) : W p l e R s m args below meth c H locs cells slots Q (F0 m pc ls (.int n :: rest)) := by
  refine va_newa (atype := .char) (ty := .char) (a0 := (N, .inl (fun _ => 0))) hexec hb harr rfl hK hP hD hS hA (fun cA => rfl) hn hN hbytes hcells hslots hdg (fun q cA H1 hK1 hP1 hD1 hS1 => ?_)
  have e : cA = cC := Option.some.inj (((hK1.2 3 _ rfl).2).symm.trans ((hK.2 1 _ rfl).2))
  subst e
  exact kk q H1 hP1 hD1 hS1
theorem z_newq (hexec : p.tables.exec = Jvm.exec) (hb : c.code = cc) (hown : s.vm.findClass own = some m.cls) (hclink : (Cond.classLink own index RX0).before args s = true) (hover : va_AO RX0 s) (hK : va_K D vwCl (tyz cI cC cQ) s) (hP : va_P D vwCl ws H) (hD : va_D A ws) (hS : va_S A s.heap H locs) (hA : ∀ q : Nat, s.heap.size ≤ q → A q)
    {n : Int32} {N : Nat} (hn : ¬ n < 0) (hN : n.toNatClampNeg = N) (hbytes : N * 4 ≤ 536870912) (hcells : cells + 1 ≤ R.cells) (hslots : slots + N ≤ R.slots) (hdg : decode cc pc = .ok (.anewarray index, 3))
    (kk : ∀ (q : Nat) (H1 : Heap), va_P D vwCl (ws ++ [(q, .inl (cQ, N, .inr (.inr (.inr (.inr (fun _ => none))))))]) H1 → va_D A (ws ++ [(q, .inl (cQ, N, .inr (.inr (.inr (.inr (fun _ => none))))))]) → va_S A s.heap H1 locs → W p l e R s m args below meth c H1 locs (cells + 1) (slots + N) Q (F0 m (pc + 3) ls (.ref q :: rest))) : W p l e R s m args below meth c H locs cells slots Q (F0 m pc ls (.int n :: rest)) := by
  refine va_newq hexec hb hown hclink hover hK hP hD hS hA hn hN hbytes hcells hslots hdg (fun q cA H1 hK1 hP1 hD1 hS1 => ?_)
  have e : cA = cQ := by
    obtain ⟨k1, c1, -, -, -, h1⟩ := (hK1.2 3 _ rfl).2
    obtain ⟨k2, c2, -, -, -, h2⟩ := (hK.2 2 _ rfl).2
    exact Option.some.inj (h1.symm.trans h2)
  subst e
  exact kk q H1 hP1 hD1 hS1
end KE
