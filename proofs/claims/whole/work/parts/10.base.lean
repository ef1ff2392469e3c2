def nz_m : List (String × Nat × MethodName × String) := [(RX5, 11, yX4_init, RX5), (RX5, 18, yX0_init, RX5), (RX5, 40, yX3_init, RX5), (RX5, 47, yX1_init, RX5), (RX0, 46, yX5_put, RX5), (RX0, 54, yX5_of, RX5), (RX0, 83, yX5_remainder, RX5), (RX0, 86, yX5_cutBelief, RX5), (RX0, 96, yX5_hasBit, RX5), (RX1, 21, yX5_put, RX5), (RX1, 33, yX5_of, RX5), (RX1, 52, yX5_hasBit, RX5), (RX2, 15, yX0_init, RX5), (RX3, 22, yX5_put, RX5), (RX3, 31, yX5_of, RX5), (RX4, 48, yX5_isIn, RX5)]
def nz_f : List (String × Nat × String × String × String × String) := [(RX5, 101, RX0, "kind", "[I", RX5), (RX5, 109, RX0, "heeded", "[I", RX5), (RX5, 112, RX0, "place", "[I", RX5), (RX5, 125, RX0, "holder", "[I", RX5), (RX5, 135, RX0, "days", "I", RX5), (RX5, 166, RX2, "used", "I", RX5), (RX5, 195, RX3, "used", "I", RX5), (RX5, 82, RX4, "length", "I", RX5), (RX5, 85, RX0, "courtiers", "I", RX5), (RX5, 88, RX0, "newsTold", "I", RX5), (RX1, 15, RX0, "newsTold", "I", RX5), (RX3, 26, RX0, "holder", "[I", RX5), (RX4, 56, RX0, "newsTold", "I", RX5), (RX4, 63, RX0, "courtiers", "I", RX5)]
def nz_ws : List Cond := nz_m.map (fun q => Cond.methodLinkNest q.1 q.2.1 q.2.2.1 q.2.2.2) ++ nz_f.map (fun q => Cond.fieldLinkNest q.1 q.2.1 q.2.2.1 q.2.2.2.1 q.2.2.2.2.1 q.2.2.2.2.2)
/-- the nest mates' links hold -/
def nz (U : State) : Prop := ∀ w ∈ nz_ws, va_Nw w U
theorem nz_warm {s U : State} (hW : s.WarmedH U.vm) (h : nz s) : nz U := by
  intro w hw
  have h1 := h w hw
  rcases List.mem_append.mp hw with h2 | h2
  · obtain ⟨q, -, rfl⟩ := List.mem_map.mp h2
    exact va_Nw.warmM hW h1
  · obtain ⟨q, -, rfl⟩ := List.mem_map.mp h2
    exact va_Nw.warmF hW h1
theorem nz_same {u U : State} (hv : u.vm = U.vm) (h : nz u) : nz U := by
  intro w hw
  have h1 := h w hw
  rcases List.mem_append.mp hw with h2 | h2
  · obtain ⟨q, -, rfl⟩ := List.mem_map.mp h2
    exact va_Nw.same rfl hv h1
  · obtain ⟨q, -, rfl⟩ := List.mem_map.mp h2
    exact va_Nw.same rfl hv h1
abbrev tyz (cI cC cQ : ClassId) : List (ClassId × FieldType) := [(cI, .int), (cC, .char), (cQ, .object RX0)]
/-- what a method knows of the classes -/
def kz (D : va_G) (cI cC cQ : ClassId) (U : State) : Prop := va_K D vwCl (tyz cI cC cQ) U ∧ nz U
theorem kz_warm {D : va_G} {cI cC cQ : ClassId} {s U : State} (hW : s.WarmedH U.vm) (h : kz D cI cC cQ s) : kz D cI cC cQ U := ⟨va_K.moved hW.alike h.1, nz_warm hW h.2⟩
theorem kz_same {D : va_G} {cI cC cQ : ClassId} {a : Array Value} {g : JFrame} {mk : MethodId} {u : State} (h : kz D cI cC cQ u) : kz D cI cC cQ (u.calling g mk a) := ⟨va_K.moved (u := u) (U := u.calling g mk a) (Vm.Alike.refl u.vm) h.1, nz_same (u := u) (U := u.calling g mk a) rfl h.2⟩
/-- a method's start: the cells wc, apart -/
def cPre (D : va_G) (cI cC cQ : ClassId) (wc : va_W) (sz : Nat) : State → Prop := fun U => U.heap.size = sz ∧ va_P D vwCl wc U.heap ∧ kz D cI cC cQ U ∧ va_D (fun _ => True) wc
def cEnd {S : Type} (D : va_G) (A : Nat → Prop) (Wd : S → va_W) : S → State → Prop := fun u t => va_P D vwCl (Wd u) t.heap ∧ va_D A (Wd u)
/-- CONTRACTS: of an int (or a smaller one), of nothing; the post is any predicate of answer and new contents -/
def Ci {S : Type} (l : Launch) (D : va_G) (cI cC cQ : ClassId) (y : MethodName) (ws : List Cond) (rm : Room) (av : List Value) (wc : va_W) (Wd : S → va_W) (post : Int32 → S → Prop) : Prop := ∀ sz : Nat, Met l y ws rm (va_Pc av (cPre D cI cC cQ wc sz)) (va_Qi post (cEnd D (va_A wc sz) Wd) (va_A wc sz)) 0 0 (va_A wc sz)
def Cv {S : Type} (l : Launch) (D : va_G) (cI cC cQ : ClassId) (y : MethodName) (ws : List Cond) (rm : Room) (av : List Value) (wc : va_W) (Wd : S → va_W) (post : S → Prop) : Prop := ∀ sz : Nat, Met l y ws rm (va_Pc av (cPre D cI cC cQ wc sz)) (va_Qv post (cEnd D (va_A wc sz) Wd) (va_A wc sz)) 0 0 (va_A wc sz)
def Cq {S : Type} (l : Launch) (D : va_G) (cI cC cQ : ClassId) (y : MethodName) (ws : List Cond) (rm : Room) (av : List Value) (wc : va_W) (Wd : S → va_W) (post : Option Nat → S → Prop) : Prop := ∀ sz : Nat, Met l y ws rm (va_Pc av (cPre D cI cC cQ wc sz)) (va_Qq post (cEnd D (va_A wc sz) Wd) (va_A wc sz)) 0 0 (va_A wc sz)
theorem blind_z {D : va_G} {cI cC cQ : ClassId} {av : List Value} {wc : va_W} {sz : Nat} : FrameBlind (va_Pc av (cPre D cI cC cQ wc sz)) := fun _ _ _ _ q => ⟨q.1, q.2.1, q.2.2.1, kz_same q.2.2.2.1, q.2.2.2.2⟩
theorem nar_z {r : Int32} (h : r = 0 ∨ r = 1) : narrow .boolean (.int r) = .int r := by rcases h with rfl | rfl <;> rfl

theorem Ci_mk {S : Type} {l : Launch} {D : va_G} {cI cC cQ : ClassId} {y : MethodName} {ws ws' : List Cond} {rm : Room} {av : List Value} {wc : va_W} {Wd : S → va_W} {post : Int32 → S → Prop} {cc : ByteArray} {maxL : Nat}
  (hy : plainName y.cls = true) (hw : ws = Cond.code y cc maxL (some .int) :: ws') (hn : (lg_sl av).length ≤ maxL)
  (body : ∀ (p : Program) (e : Env) (s : State) (m : MethodId) (args : Array Value) (below : List Frame) (meth : Method) (c : Code) (A : Nat → Prop) (Z : State → Prop) (ls : Array Slot),
    p.tables.exec = Jvm.exec → c.code = cc → c.maxLocals = maxL → s.vm.findClass y.cls = some m.cls → (∀ w ∈ ws, w.before args s = true) → kz D cI cC cQ s → (∀ q : Nat, s.heap.size ≤ q → A q) → va_P D vwCl wc s.heap → va_D A wc →
    (∀ (r : Int32) (u : S) (H : Heap) (locs : List Loc) (pc : Nat) (ls : Array Slot), post r u → va_P D vwCl (Wd u) H → va_D A (Wd u) → va_S A s.heap H locs → decode cc pc = .ok (.ireturn, 1) → W p l e rm s m args below meth c H locs 0 0 Z (F0 m pc ls [.int r])) →
    lv_has ls maxL (lv_args 0 av) → W p l e rm s m args below meth c s.heap [] 0 0 Z (F0 m 0 ls [])) : Ci l D cI cC cQ y ws rm av wc Wd post := by
  intro sz
  refine Met.ofW (cc := cc) (maxL := maxL) (ret := (some .int)) hy hw ?_
  intro p e s m args below meth c s₁ B hml hv
  obtain ⟨rfl, hsz, hP, hK, hD0⟩ := hv
  have hr := B.returns
  have hlocks := B.notSynchronized
  subst hsz
  have hD := hD0.self (sz := s.heap.size)
  rw [lg_entry_eq]
  refine body p e s m _ below meth c (va_A wc s.heap.size) _ _ B.exec B.bytes hml (findClass_of_methodNamed B.named) (atoms_spec (ws := ws) B.pre) hK (fun q h => Or.inr h) hP hD ?_ (lv_entry av hn)
  intro r u H locs pc ls hp hP hD hS hdg
  exact W.iret (v := r) B.exec B.bytes hr (fun t ht hW => ⟨⟨r, u, rfl, hp, by rw [ht]; exact hP, hD⟩, hS.F ht⟩) hS.2.2 hdg
theorem Cz_mk {S : Type} {l : Launch} {D : va_G} {cI cC cQ : ClassId} {y : MethodName} {ws ws' : List Cond} {rm : Room} {av : List Value} {wc : va_W} {Wd : S → va_W} {post : Int32 → S → Prop} {cc : ByteArray} {maxL : Nat}
  (hy : plainName y.cls = true) (hw : ws = Cond.code y cc maxL (some .boolean) :: ws') (hn : (lg_sl av).length ≤ maxL)
  (body : ∀ (p : Program) (e : Env) (s : State) (m : MethodId) (args : Array Value) (below : List Frame) (meth : Method) (c : Code) (A : Nat → Prop) (Z : State → Prop) (ls : Array Slot),
    p.tables.exec = Jvm.exec → c.code = cc → c.maxLocals = maxL → s.vm.findClass y.cls = some m.cls → (∀ w ∈ ws, w.before args s = true) → kz D cI cC cQ s → (∀ q : Nat, s.heap.size ≤ q → A q) → va_P D vwCl wc s.heap → va_D A wc →
    (∀ (r : Int32) (u : S) (H : Heap) (locs : List Loc) (pc : Nat) (ls : Array Slot), (r = 0 ∨ r = 1) → post r u → va_P D vwCl (Wd u) H → va_D A (Wd u) → va_S A s.heap H locs → decode cc pc = .ok (.ireturn, 1) → W p l e rm s m args below meth c H locs 0 0 Z (F0 m pc ls [.int r])) →
    lv_has ls maxL (lv_args 0 av) → W p l e rm s m args below meth c s.heap [] 0 0 Z (F0 m 0 ls [])) : Ci l D cI cC cQ y ws rm av wc Wd (fun r u => (r = 0 ∨ r = 1) ∧ post r u) := by
  intro sz
  refine Met.ofW (cc := cc) (maxL := maxL) (ret := (some .boolean)) hy hw ?_
  intro p e s m args below meth c s₁ B hml hv
  obtain ⟨rfl, hsz, hP, hK, hD0⟩ := hv
  have hr := B.returns
  have hlocks := B.notSynchronized
  subst hsz
  have hD := hD0.self (sz := s.heap.size)
  rw [lg_entry_eq]
  refine body p e s m _ below meth c (va_A wc s.heap.size) _ _ B.exec B.bytes hml (findClass_of_methodNamed B.named) (atoms_spec (ws := ws) B.pre) hK (fun q h => Or.inr h) hP hD ?_ (lv_entry av hn)
  intro r u H locs pc ls h01 hp hP hD hS hdg
  exact W.zret (v := r) B.exec B.bytes hr (nar_z h01) (fun t ht hW => ⟨⟨r, u, rfl, ⟨h01, hp⟩, by rw [ht]; exact hP, hD⟩, hS.F ht⟩) hS.2.2 hdg
theorem Cc_mk {S : Type} {l : Launch} {D : va_G} {cI cC cQ : ClassId} {y : MethodName} {ws ws' : List Cond} {rm : Room} {av : List Value} {wc : va_W} {Wd : S → va_W} {post : Int32 → S → Prop} {cc : ByteArray} {maxL : Nat}
  (hy : plainName y.cls = true) (hw : ws = Cond.code y cc maxL (some .char) :: ws') (hn : (lg_sl av).length ≤ maxL)
  (body : ∀ (p : Program) (e : Env) (s : State) (m : MethodId) (args : Array Value) (below : List Frame) (meth : Method) (c : Code) (A : Nat → Prop) (Z : State → Prop) (ls : Array Slot),
    p.tables.exec = Jvm.exec → c.code = cc → c.maxLocals = maxL → s.vm.findClass y.cls = some m.cls → (∀ w ∈ ws, w.before args s = true) → kz D cI cC cQ s → (∀ q : Nat, s.heap.size ≤ q → A q) → va_P D vwCl wc s.heap → va_D A wc →
    (∀ (r : Int32) (u : S) (H : Heap) (locs : List Loc) (pc : Nat) (ls : Array Slot), narrow .char (.int r) = .int r → post r u → va_P D vwCl (Wd u) H → va_D A (Wd u) → va_S A s.heap H locs → decode cc pc = .ok (.ireturn, 1) → W p l e rm s m args below meth c H locs 0 0 Z (F0 m pc ls [.int r])) →
    lv_has ls maxL (lv_args 0 av) → W p l e rm s m args below meth c s.heap [] 0 0 Z (F0 m 0 ls [])) : Ci l D cI cC cQ y ws rm av wc Wd post := by
  intro sz
  refine Met.ofW (cc := cc) (maxL := maxL) (ret := (some .char)) hy hw ?_
  intro p e s m args below meth c s₁ B hml hv
  obtain ⟨rfl, hsz, hP, hK, hD0⟩ := hv
  have hr := B.returns
  have hlocks := B.notSynchronized
  subst hsz
  have hD := hD0.self (sz := s.heap.size)
  rw [lg_entry_eq]
  refine body p e s m _ below meth c (va_A wc s.heap.size) _ _ B.exec B.bytes hml (findClass_of_methodNamed B.named) (atoms_spec (ws := ws) B.pre) hK (fun q h => Or.inr h) hP hD ?_ (lv_entry av hn)
  intro r u H locs pc ls hn hp hP hD hS hdg
  exact W.zret (v := r) B.exec B.bytes hr hn (fun t ht hW => ⟨⟨r, u, rfl, hp, by rw [ht]; exact hP, hD⟩, hS.F ht⟩) hS.2.2 hdg
theorem Cv_mk {S : Type} {l : Launch} {D : va_G} {cI cC cQ : ClassId} {y : MethodName} {ws ws' : List Cond} {rm : Room} {av : List Value} {wc : va_W} {Wd : S → va_W} {post : S → Prop} {cc : ByteArray} {maxL : Nat}
  (hy : plainName y.cls = true) (hw : ws = Cond.code y cc maxL none :: ws') (hn : (lg_sl av).length ≤ maxL)
  (body : ∀ (p : Program) (e : Env) (s : State) (m : MethodId) (args : Array Value) (below : List Frame) (meth : Method) (c : Code) (A : Nat → Prop) (Z : State → Prop) (ls : Array Slot),
    p.tables.exec = Jvm.exec → c.code = cc → c.maxLocals = maxL → s.vm.findClass y.cls = some m.cls → (∀ w ∈ ws, w.before args s = true) → kz D cI cC cQ s → (∀ q : Nat, s.heap.size ≤ q → A q) → va_P D vwCl wc s.heap → va_D A wc →
    (∀ (u : S) (H : Heap) (locs : List Loc) (pc : Nat) (ls : Array Slot), post u → va_P D vwCl (Wd u) H → va_D A (Wd u) → va_S A s.heap H locs → decode cc pc = .ok (.return_, 1) → W p l e rm s m args below meth c H locs 0 0 Z (F0 m pc ls [])) →
    lv_has ls maxL (lv_args 0 av) → W p l e rm s m args below meth c s.heap [] 0 0 Z (F0 m 0 ls [])) : Cv l D cI cC cQ y ws rm av wc Wd post := by
  intro sz
  refine Met.ofW (cc := cc) (maxL := maxL) (ret := none) hy hw ?_
  intro p e s m args below meth c s₁ B hml hv
  obtain ⟨rfl, hsz, hP, hK, hD0⟩ := hv
  have hr := B.returns
  have hlocks := B.notSynchronized
  subst hsz
  have hD := hD0.self (sz := s.heap.size)
  rw [lg_entry_eq]
  refine body p e s m _ below meth c (va_A wc s.heap.size) _ _ B.exec B.bytes hml (findClass_of_methodNamed B.named) (atoms_spec (ws := ws) B.pre) hK (fun q h => Or.inr h) hP hD ?_ (lv_entry av hn)
  intro u H locs pc ls hp hP hD hS hdg
  exact W.vret B.exec B.bytes hr (fun t ht hW => ⟨⟨u, rfl, hp, by rw [ht]; exact hP, hD⟩, hS.F ht⟩) hS.2.2 hdg
theorem Cq_mk {S : Type} {l : Launch} {D : va_G} {cI cC cQ : ClassId} {y : MethodName} {ws ws' : List Cond} {rm : Room} {av : List Value} {wc : va_W} {Wd : S → va_W} {post : Option Nat → S → Prop} {cc : ByteArray} {maxL : Nat}
  (hy : plainName y.cls = true) (hw : ws = Cond.code y cc maxL (some (.object RX0)) :: ws') (hn : (lg_sl av).length ≤ maxL)
  (body : ∀ (p : Program) (e : Env) (s : State) (m : MethodId) (args : Array Value) (below : List Frame) (meth : Method) (c : Code) (A : Nat → Prop) (Z : State → Prop) (ls : Array Slot),
    p.tables.exec = Jvm.exec → c.code = cc → c.maxLocals = maxL → s.vm.findClass y.cls = some m.cls → (∀ w ∈ ws, w.before args s = true) → kz D cI cC cQ s → (∀ q : Nat, s.heap.size ≤ q → A q) → va_P D vwCl wc s.heap → va_D A wc →
    (∀ (r : Option Nat) (u : S) (H : Heap) (locs : List Loc) (pc : Nat) (ls : Array Slot), post r u → va_P D vwCl (Wd u) H → va_D A (Wd u) → va_S A s.heap H locs → decode cc pc = .ok (.areturn, 1) → W p l e rm s m args below meth c H locs 0 0 Z (F0 m pc ls [va_rf r])) →
    lv_has ls maxL (lv_args 0 av) → W p l e rm s m args below meth c s.heap [] 0 0 Z (F0 m 0 ls [])) : Cq l D cI cC cQ y ws rm av wc Wd post := by
  intro sz
  refine Met.ofW (cc := cc) (maxL := maxL) (ret := (some (.object RX0))) hy hw ?_
  intro p e s m args below meth c s₁ B hml hv
  obtain ⟨rfl, hsz, hP, hK, hD0⟩ := hv
  have hr := B.returns
  have hlocks := B.notSynchronized
  subst hsz
  have hD := hD0.self (sz := s.heap.size)
  rw [lg_entry_eq]
  refine body p e s m _ below meth c (va_A wc s.heap.size) _ _ B.exec B.bytes hml (findClass_of_methodNamed B.named) (atoms_spec (ws := ws) B.pre) hK (fun q h => Or.inr h) hP hD ?_ (lv_entry av hn)
  intro r u H locs pc ls hp hP hD hS hdg
  exact W.aret (v := va_rf r) B.exec B.bytes hr (Or.inl ⟨_, rfl⟩) (by cases r with | none => exact Or.inl rfl | some a => exact Or.inr ⟨a, rfl⟩) (fun t ht hW => ⟨⟨r, u, rfl, hp, by rw [ht]; exact hP, hD⟩, hS.F ht⟩) hS.2.2 hdg
section KC
variable {p : Program} {l : Launch} {e : Env} {R : Room} {s : State} {m : MethodId} {args : Array Value} {below : List Frame} {meth : Method} {c : Code} {H : Heap} {locs : List Loc} {cells slots : Nat} {Q : State → Prop} {D : va_G} {cI cC cQ : ClassId} {A : Nat → Prop} {H0 : Heap} {pc : Nat} {ls : Array Slot} {rest st0 : List Value} {y : MethodName} {bytes cc : ByteArray} {maxL nL n index : Nat} {ret : Option FieldType} {Ts wsy wsy' : List Cond} {rm : Room} {own C : String} {b : Addr} {As : List Value} {S : Type} {Wd : S → va_W} {wc ws wr : va_W} {fs : List Value} {ci q0 : Nat} {qc : vw_C}
theorem kr_i {post : Int32 → S → Prop} {a : Array Value} (hP : va_P D vwCl ws H) (hD : va_D A ws) (hS : va_S A H0 H locs) (hA : ∀ q : Nat, H0.size ≤ q → A q) (isC isR : List Nat) (hC : isC.map (fun i => ws[i]?) = wc.map some) (hR : isR.map (fun i => ws[i]?) = wr.map some) (hn : va_nd isR = true) (hdis : ∀ i ∈ isR, i ∉ isC)
    (hr : va_Run p l e R s m args below meth c H locs cells slots 0 0 (F0 m pc ls st0) rest (va_Qi post (cEnd D (va_A wc H.size) Wd) (va_A wc H.size) a) (va_A wc H.size))
    (kk : ∀ (r : Int32) (u : S) (H1 : Heap) (locs1 : List Loc), post r u → va_P D vwCl (wr ++ Wd u) H1 → va_D A (wr ++ Wd u) → va_S A H0 H1 locs1 → W p l e R s m args below meth c H1 locs1 cells slots Q (F0 m (pc + 3) ls (.int r :: rest))) : W p l e R s m args below meth c H locs cells slots Q (F0 m pc ls st0) := by
  have hF := va_free (wc := wc) hD hS hA isC hC
  refine va_calli hr hS (fun q _ h => hF q h) hF (fun r u t H1 locs1 ht hvm hw hB hz1 hk1 hS1 => ?_)
  obtain ⟨hP1, hD1⟩ := hB
  rw [ht] at hP1
  obtain ⟨hP2, hD2⟩ := va_join (wr := wr) hP hD isC isR hC hR hn hdis hk1 hF hP1 hD1
  exact kk r u H1 locs1 hw hP2 hD2 hS1
theorem kr0_i {post : Int32 → S → Prop} {a : Array Value} (hD : va_D A wc) (hS : va_S A H0 H locs) (hA : ∀ q : Nat, H0.size ≤ q → A q)
    (hr : va_Run p l e R s m args below meth c H locs cells slots 0 0 (F0 m pc ls st0) rest (va_Qi post (cEnd D (va_A wc H.size) Wd) (va_A wc H.size) a) (va_A wc H.size))
    (kk : ∀ (r : Int32) (u : S) (H1 : Heap) (locs1 : List Loc), post r u → va_P D vwCl (Wd u) H1 → va_D A (Wd u) → va_S A H0 H1 locs1 → W p l e R s m args below meth c H1 locs1 cells slots Q (F0 m (pc + 3) ls (.int r :: rest))) : W p l e R s m args below meth c H locs cells slots Q (F0 m pc ls st0) := by
  have hF : ∀ q, va_A wc H.size q → A q := fun q h => h.elim (fun ⟨k, e, h⟩ => hD.2 k (q, e) h) (fun h => hA q (Nat.le_trans hS.1 h))
  refine va_calli hr hS (fun q _ h => hF q h) hF (fun r u t H1 locs1 ht hvm hw hB hz1 hk1 hS1 => ?_)
  obtain ⟨hP1, hD1⟩ := hB
  rw [ht] at hP1
  exact kk r u H1 locs1 hw hP1 (hD1.weaken (fun k q _ h => hF q.1 h)) hS1
theorem krq_i {post : Int32 → S → Prop} {a : Array Value} {pl : va_W} (hP : va_P D vwCl (ws ++ pl) H) (hD : va_D A (ws ++ pl)) (hS : va_S A H0 H locs) (hA : ∀ q : Nat, H0.size ≤ q → A q) (isC isR : List Nat) (hC : isC.map (fun i => ws[i]?) = wc.map some) (hR : isR.map (fun i => ws[i]?) = wr.map some) (hn : va_nd isR = true) (hdis : ∀ i ∈ isR, i ∉ isC)
    (hr : va_Run p l e R s m args below meth c H locs cells slots 0 0 (F0 m pc ls st0) rest (va_Qi post (cEnd D (va_A wc H.size) Wd) (va_A wc H.size) a) (va_A wc H.size))
    (kk : ∀ (r : Int32) (u : S) (H1 : Heap) (locs1 : List Loc), post r u → va_P D vwCl ((wr ++ Wd u) ++ pl) H1 → va_D A ((wr ++ Wd u) ++ pl) → va_S A H0 H1 locs1 → W p l e R s m args below meth c H1 locs1 cells slots Q (F0 m (pc + 3) ls (.int r :: rest))) : W p l e R s m args below meth c H locs cells slots Q (F0 m pc ls st0) := by
  have hF : ∀ q, va_A wc H.size q → A q := fun q h => h.elim (fun ⟨k, e, h⟩ => by
    obtain ⟨i, -, h2⟩ := va_in_of isC hC h
    exact hD.2 i (q, e) (by rw [List.getElem?_append_left (List.getElem?_eq_some_iff.mp h2).1]; exact h2)) (fun h => hA q (Nat.le_trans hS.1 h))
  refine va_calli hr hS (fun q _ h => hF q h) hF (fun r u t H1 locs1 ht hvm hw hB hz1 hk1 hS1 => ?_)
  obtain ⟨hP1, hD1⟩ := hB
  rw [ht] at hP1
  obtain ⟨hP2, hD2⟩ := va_joinQ (wr := wr) hP hD isC isR hC hR hn hdis hk1 hF hP1 hD1
  exact kk r u H1 locs1 hw hP2 hD2 hS1
theorem k0V_i {post : Int32 → S → Prop} (S0 : CallFix p m c cc nL s args Ts own) (hK : kz D cI cC cQ s) (hP : va_P D vwCl wc H) (hD : va_D A wc) (hS : va_S A H0 H locs) (hA : ∀ q : Nat, H0.size ≤ q → A q)
    (hM : Ci l D cI cC cQ y wsy rm (.ref b :: As) wc Wd post) (hG : GoodIn Ts (wsV own index C y wsy)) (hyC : y.cls = C) (hw : wsy = Cond.code y bytes maxL ret :: wsy') (hrc : rm.cells = 0 ∧ rm.slots = 0) (hd : y.cls ≠ "java/lang/invoke/MethodHandle" ∧ y.cls ≠ "java/lang/invoke/VarHandle" ∧ (parseMethodDescriptor y.desc).map (fun d => d.parameters.length) = some n) (hRm : rm.frames + 1 ≤ R.frames ∧ 8 + (maxL + 11) + rm.locals ≤ R.locals) (hq : vwCl[ci]? = some qc) (hC0 : qc.1 = C) (hb0 : wc[q0]? = some (b, .inr (ci, fs))) (hn : As.length = n) (hsz : ls.size = nL) (hst : st0 = As.reverse ++ .ref b :: rest) (hcat : (rest.map fun v => v.category).sum ≤ 8) (hdg : decode cc pc = .ok (.invokevirtual index, 3)) (hf : cells ≤ R.cells ∧ slots ≤ R.slots)
    (kk : ∀ (r : Int32) (u : S) (H1 : Heap) (locs1 : List Loc), post r u → va_P D vwCl (Wd u) H1 → va_D A (Wd u) → va_S A H0 H1 locs1 → W p l e R s m args below meth c H1 locs1 cells slots Q (F0 m (pc + 3) ls (.int r :: rest))) : W p l e R s m args below meth c H locs cells slots Q (F0 m pc ls st0) :=
  have hPc := hP
  have hDc := hD
  kr0_i hD hS hA (va_runV S0 (hM H.size) (cwV n S0.2.2.2.2 hG hw hrc.1 hrc.2 ⟨hyC, hd⟩ hRm) ⟨blind_z, by subst hC0; exact va_recv hK.1 hPc hq hb0, fun U hU hW => ⟨rfl, by rw [hU], by rw [hU]; exact hPc, kz_warm hW hK, hDc.weaken (fun _ _ _ _ => trivial)⟩⟩ rfl hn hsz hst (lv_room hcat) hdg hf) kk
theorem kV_i {post : Int32 → S → Prop} (S0 : CallFix p m c cc nL s args Ts own) (hK : kz D cI cC cQ s) (hP : va_P D vwCl ws H) (hD : va_D A ws) (hS : va_S A H0 H locs) (hA : ∀ q : Nat, H0.size ≤ q → A q)
    (hM : Ci l D cI cC cQ y wsy rm (.ref b :: As) wc Wd post) (hG : GoodIn Ts (wsV own index C y wsy)) (hyC : y.cls = C) (hw : wsy = Cond.code y bytes maxL ret :: wsy') (hrc : rm.cells = 0 ∧ rm.slots = 0) (hd : y.cls ≠ "java/lang/invoke/MethodHandle" ∧ y.cls ≠ "java/lang/invoke/VarHandle" ∧ (parseMethodDescriptor y.desc).map (fun d => d.parameters.length) = some n) (hRm : rm.frames + 1 ≤ R.frames ∧ 8 + (maxL + 11) + rm.locals ≤ R.locals) (hq : vwCl[ci]? = some qc) (hC0 : qc.1 = C) (hb0 : wc[q0]? = some (b, .inr (ci, fs))) (hn : As.length = n) (hsz : ls.size = nL) (hst : st0 = As.reverse ++ .ref b :: rest) (hcat : (rest.map fun v => v.category).sum ≤ 8) (hdg : decode cc pc = .ok (.invokevirtual index, 3)) (hf : cells ≤ R.cells ∧ slots ≤ R.slots) (isC isR : List Nat) (hC : isC.map (fun i => ws[i]?) = wc.map some) (hnC : va_nd isC = true) (hR : isR.map (fun i => ws[i]?) = wr.map some) (hnR : va_nd isR = true) (hdis : ∀ i ∈ isR, i ∉ isC)
    (kk : ∀ (r : Int32) (u : S) (H1 : Heap) (locs1 : List Loc), post r u → va_P D vwCl (wr ++ Wd u) H1 → va_D A (wr ++ Wd u) → va_S A H0 H1 locs1 → W p l e R s m args below meth c H1 locs1 cells slots Q (F0 m (pc + 3) ls (.int r :: rest))) : W p l e R s m args below meth c H locs cells slots Q (F0 m pc ls st0) :=
  have hPc : va_P D vwCl wc H := fun k q hk => by
    obtain ⟨i, -, h2⟩ := va_in_of isC hC hk
    exact hP i q h2
  have hDc : va_D A wc := hD.sub isC hnC hC
  kr_i hP hD hS hA isC isR hC hR hnR hdis (va_runV S0 (hM H.size) (cwV n S0.2.2.2.2 hG hw hrc.1 hrc.2 ⟨hyC, hd⟩ hRm) ⟨blind_z, by subst hC0; exact va_recv hK.1 hPc hq hb0, fun U hU hW => ⟨rfl, by rw [hU], by rw [hU]; exact hPc, kz_warm hW hK, hDc.weaken (fun _ _ _ _ => trivial)⟩⟩ rfl hn hsz hst (lv_room hcat) hdg hf) kk
theorem kqV_i {post : Int32 → S → Prop} {pl : va_W} (S0 : CallFix p m c cc nL s args Ts own) (hK : kz D cI cC cQ s) (hP : va_P D vwCl (ws ++ pl) H) (hD : va_D A (ws ++ pl)) (hS : va_S A H0 H locs) (hA : ∀ q : Nat, H0.size ≤ q → A q)
    (hM : Ci l D cI cC cQ y wsy rm (.ref b :: As) wc Wd post) (hG : GoodIn Ts (wsV own index C y wsy)) (hyC : y.cls = C) (hw : wsy = Cond.code y bytes maxL ret :: wsy') (hrc : rm.cells = 0 ∧ rm.slots = 0) (hd : y.cls ≠ "java/lang/invoke/MethodHandle" ∧ y.cls ≠ "java/lang/invoke/VarHandle" ∧ (parseMethodDescriptor y.desc).map (fun d => d.parameters.length) = some n) (hRm : rm.frames + 1 ≤ R.frames ∧ 8 + (maxL + 11) + rm.locals ≤ R.locals) (hq : vwCl[ci]? = some qc) (hC0 : qc.1 = C) (hb0 : wc[q0]? = some (b, .inr (ci, fs))) (hn : As.length = n) (hsz : ls.size = nL) (hst : st0 = As.reverse ++ .ref b :: rest) (hcat : (rest.map fun v => v.category).sum ≤ 8) (hdg : decode cc pc = .ok (.invokevirtual index, 3)) (hf : cells ≤ R.cells ∧ slots ≤ R.slots) (isC isR : List Nat) (hC : isC.map (fun i => ws[i]?) = wc.map some) (hnC : va_nd isC = true) (hR : isR.map (fun i => ws[i]?) = wr.map some) (hnR : va_nd isR = true) (hdis : ∀ i ∈ isR, i ∉ isC)
    (kk : ∀ (r : Int32) (u : S) (H1 : Heap) (locs1 : List Loc), post r u → va_P D vwCl ((wr ++ Wd u) ++ pl) H1 → va_D A ((wr ++ Wd u) ++ pl) → va_S A H0 H1 locs1 → W p l e R s m args below meth c H1 locs1 cells slots Q (F0 m (pc + 3) ls (.int r :: rest))) : W p l e R s m args below meth c H locs cells slots Q (F0 m pc ls st0) :=
  have hPc : va_P D vwCl wc H := fun k q hk => by
    obtain ⟨i, -, h2⟩ := va_in_of isC hC hk
    exact hP i q (by rw [List.getElem?_append_left (List.getElem?_eq_some_iff.mp h2).1]; exact h2)
  have hDw : va_D A ws := ⟨fun i j p q h1 h2 => hD.1 i j p q (by rw [List.getElem?_append_left (List.getElem?_eq_some_iff.mp h1).1]; exact h1) (by rw [List.getElem?_append_left (List.getElem?_eq_some_iff.mp h2).1]; exact h2), fun k q h => hD.2 k q (by rw [List.getElem?_append_left (List.getElem?_eq_some_iff.mp h).1]; exact h)⟩
  have hDc : va_D A wc := hDw.sub isC hnC hC
  krq_i hP hD hS hA isC isR hC hR hnR hdis (va_runV S0 (hM H.size) (cwV n S0.2.2.2.2 hG hw hrc.1 hrc.2 ⟨hyC, hd⟩ hRm) ⟨blind_z, by subst hC0; exact va_recv hK.1 hPc hq hb0, fun U hU hW => ⟨rfl, by rw [hU], by rw [hU]; exact hPc, kz_warm hW hK, hDc.weaken (fun _ _ _ _ => trivial)⟩⟩ rfl hn hsz hst (lv_room hcat) hdg hf) kk
theorem k0VN_i {post : Int32 → S → Prop} {host : String} (S0 : CallFix p m c cc nL s args Ts own) (hK : kz D cI cC cQ s) (hP : va_P D vwCl wc H) (hD : va_D A wc) (hS : va_S A H0 H locs) (hA : ∀ q : Nat, H0.size ≤ q → A q)
    (hM : Ci l D cI cC cQ y wsy rm (.ref b :: As) wc Wd post) (hG : GoodIn Ts wsy) (hl : va_Nw (.methodLinkNest own index y host) s) (hini : (Cond.initialized y.cls).before args s = true) (hin : (Cond.instanceMethod y).before args s = true) (hsel : (Cond.selects C y y).before args s = true) (hw : wsy = Cond.code y bytes maxL ret :: wsy') (hrc : rm.cells = 0 ∧ rm.slots = 0) (hd : y.cls ≠ "java/lang/invoke/MethodHandle" ∧ y.cls ≠ "java/lang/invoke/VarHandle" ∧ (parseMethodDescriptor y.desc).map (fun d => d.parameters.length) = some n) (hRm : rm.frames + 1 ≤ R.frames ∧ 8 + (maxL + 11) + rm.locals ≤ R.locals) (hq : vwCl[ci]? = some qc) (hC0 : qc.1 = C) (hb0 : wc[q0]? = some (b, .inr (ci, fs))) (hn : As.length = n) (hsz : ls.size = nL) (hst : st0 = As.reverse ++ .ref b :: rest) (hcat : (rest.map fun v => v.category).sum ≤ 8) (hdg : decode cc pc = .ok (.invokevirtual index, 3)) (hf : cells ≤ R.cells ∧ slots ≤ R.slots)
    (kk : ∀ (r : Int32) (u : S) (H1 : Heap) (locs1 : List Loc), post r u → va_P D vwCl (Wd u) H1 → va_D A (Wd u) → va_S A H0 H1 locs1 → W p l e R s m args below meth c H1 locs1 cells slots Q (F0 m (pc + 3) ls (.int r :: rest))) : W p l e R s m args below meth c H locs cells slots Q (F0 m pc ls st0) :=
  have hPc := hP
  have hDc := hD
  kr0_i hD hS hA (va_runVN S0 (hM H.size) (⟨va_cnB n S0.2.2.2.2 hG hw hrc.1 hrc.2 hl hini hd hRm, hin, hsel⟩) ⟨blind_z, by subst hC0; exact va_recv hK.1 hPc hq hb0, fun U hU hW => ⟨rfl, by rw [hU], by rw [hU]; exact hPc, kz_warm hW hK, hDc.weaken (fun _ _ _ _ => trivial)⟩⟩ rfl hn hsz hst (lv_room hcat) hdg hf) kk
theorem kVN_i {post : Int32 → S → Prop} {host : String} (S0 : CallFix p m c cc nL s args Ts own) (hK : kz D cI cC cQ s) (hP : va_P D vwCl ws H) (hD : va_D A ws) (hS : va_S A H0 H locs) (hA : ∀ q : Nat, H0.size ≤ q → A q)
    (hM : Ci l D cI cC cQ y wsy rm (.ref b :: As) wc Wd post) (hG : GoodIn Ts wsy) (hl : va_Nw (.methodLinkNest own index y host) s) (hini : (Cond.initialized y.cls).before args s = true) (hin : (Cond.instanceMethod y).before args s = true) (hsel : (Cond.selects C y y).before args s = true) (hw : wsy = Cond.code y bytes maxL ret :: wsy') (hrc : rm.cells = 0 ∧ rm.slots = 0) (hd : y.cls ≠ "java/lang/invoke/MethodHandle" ∧ y.cls ≠ "java/lang/invoke/VarHandle" ∧ (parseMethodDescriptor y.desc).map (fun d => d.parameters.length) = some n) (hRm : rm.frames + 1 ≤ R.frames ∧ 8 + (maxL + 11) + rm.locals ≤ R.locals) (hq : vwCl[ci]? = some qc) (hC0 : qc.1 = C) (hb0 : wc[q0]? = some (b, .inr (ci, fs))) (hn : As.length = n) (hsz : ls.size = nL) (hst : st0 = As.reverse ++ .ref b :: rest) (hcat : (rest.map fun v => v.category).sum ≤ 8) (hdg : decode cc pc = .ok (.invokevirtual index, 3)) (hf : cells ≤ R.cells ∧ slots ≤ R.slots) (isC isR : List Nat) (hC : isC.map (fun i => ws[i]?) = wc.map some) (hnC : va_nd isC = true) (hR : isR.map (fun i => ws[i]?) = wr.map some) (hnR : va_nd isR = true) (hdis : ∀ i ∈ isR, i ∉ isC)
    (kk : ∀ (r : Int32) (u : S) (H1 : Heap) (locs1 : List Loc), post r u → va_P D vwCl (wr ++ Wd u) H1 → va_D A (wr ++ Wd u) → va_S A H0 H1 locs1 → W p l e R s m args below meth c H1 locs1 cells slots Q (F0 m (pc + 3) ls (.int r :: rest))) : W p l e R s m args below meth c H locs cells slots Q (F0 m pc ls st0) :=
  have hPc : va_P D vwCl wc H := fun k q hk => by
    obtain ⟨i, -, h2⟩ := va_in_of isC hC hk
    exact hP i q h2
  have hDc : va_D A wc := hD.sub isC hnC hC
  kr_i hP hD hS hA isC isR hC hR hnR hdis (va_runVN S0 (hM H.size) (⟨va_cnB n S0.2.2.2.2 hG hw hrc.1 hrc.2 hl hini hd hRm, hin, hsel⟩) ⟨blind_z, by subst hC0; exact va_recv hK.1 hPc hq hb0, fun U hU hW => ⟨rfl, by rw [hU], by rw [hU]; exact hPc, kz_warm hW hK, hDc.weaken (fun _ _ _ _ => trivial)⟩⟩ rfl hn hsz hst (lv_room hcat) hdg hf) kk
theorem kqVN_i {post : Int32 → S → Prop} {host : String} {pl : va_W} (S0 : CallFix p m c cc nL s args Ts own) (hK : kz D cI cC cQ s) (hP : va_P D vwCl (ws ++ pl) H) (hD : va_D A (ws ++ pl)) (hS : va_S A H0 H locs) (hA : ∀ q : Nat, H0.size ≤ q → A q)
    (hM : Ci l D cI cC cQ y wsy rm (.ref b :: As) wc Wd post) (hG : GoodIn Ts wsy) (hl : va_Nw (.methodLinkNest own index y host) s) (hini : (Cond.initialized y.cls).before args s = true) (hin : (Cond.instanceMethod y).before args s = true) (hsel : (Cond.selects C y y).before args s = true) (hw : wsy = Cond.code y bytes maxL ret :: wsy') (hrc : rm.cells = 0 ∧ rm.slots = 0) (hd : y.cls ≠ "java/lang/invoke/MethodHandle" ∧ y.cls ≠ "java/lang/invoke/VarHandle" ∧ (parseMethodDescriptor y.desc).map (fun d => d.parameters.length) = some n) (hRm : rm.frames + 1 ≤ R.frames ∧ 8 + (maxL + 11) + rm.locals ≤ R.locals) (hq : vwCl[ci]? = some qc) (hC0 : qc.1 = C) (hb0 : wc[q0]? = some (b, .inr (ci, fs))) (hn : As.length = n) (hsz : ls.size = nL) (hst : st0 = As.reverse ++ .ref b :: rest) (hcat : (rest.map fun v => v.category).sum ≤ 8) (hdg : decode cc pc = .ok (.invokevirtual index, 3)) (hf : cells ≤ R.cells ∧ slots ≤ R.slots) (isC isR : List Nat) (hC : isC.map (fun i => ws[i]?) = wc.map some) (hnC : va_nd isC = true) (hR : isR.map (fun i => ws[i]?) = wr.map some) (hnR : va_nd isR = true) (hdis : ∀ i ∈ isR, i ∉ isC)
    (kk : ∀ (r : Int32) (u : S) (H1 : Heap) (locs1 : List Loc), post r u → va_P D vwCl ((wr ++ Wd u) ++ pl) H1 → va_D A ((wr ++ Wd u) ++ pl) → va_S A H0 H1 locs1 → W p l e R s m args below meth c H1 locs1 cells slots Q (F0 m (pc + 3) ls (.int r :: rest))) : W p l e R s m args below meth c H locs cells slots Q (F0 m pc ls st0) :=
  have hPc : va_P D vwCl wc H := fun k q hk => by
    obtain ⟨i, -, h2⟩ := va_in_of isC hC hk
    exact hP i q (by rw [List.getElem?_append_left (List.getElem?_eq_some_iff.mp h2).1]; exact h2)
  have hDw : va_D A ws := ⟨fun i j p q h1 h2 => hD.1 i j p q (by rw [List.getElem?_append_left (List.getElem?_eq_some_iff.mp h1).1]; exact h1) (by rw [List.getElem?_append_left (List.getElem?_eq_some_iff.mp h2).1]; exact h2), fun k q h => hD.2 k q (by rw [List.getElem?_append_left (List.getElem?_eq_some_iff.mp h).1]; exact h)⟩
  have hDc : va_D A wc := hDw.sub isC hnC hC
  krq_i hP hD hS hA isC isR hC hR hnR hdis (va_runVN S0 (hM H.size) (⟨va_cnB n S0.2.2.2.2 hG hw hrc.1 hrc.2 hl hini hd hRm, hin, hsel⟩) ⟨blind_z, by subst hC0; exact va_recv hK.1 hPc hq hb0, fun U hU hW => ⟨rfl, by rw [hU], by rw [hU]; exact hPc, kz_warm hW hK, hDc.weaken (fun _ _ _ _ => trivial)⟩⟩ rfl hn hsz hst (lv_room hcat) hdg hf) kk
theorem k0S_i {post : Int32 → S → Prop} (S0 : CallFix p m c cc nL s args Ts own) (hK : kz D cI cC cQ s) (hP : va_P D vwCl wc H) (hD : va_D A wc) (hS : va_S A H0 H locs) (hA : ∀ q : Nat, H0.size ≤ q → A q)
    (hM : Ci l D cI cC cQ y wsy rm As wc Wd post) (hG : GoodIn Ts (va_wsS own index y wsy)) (hw : wsy = Cond.code y bytes maxL ret :: wsy') (hrc : rm.cells = 0 ∧ rm.slots = 0) (hd : y.cls ≠ "java/lang/invoke/MethodHandle" ∧ y.cls ≠ "java/lang/invoke/VarHandle" ∧ (parseMethodDescriptor y.desc).map (fun d => d.parameters.length) = some n) (hRm : rm.frames + 1 ≤ R.frames ∧ 8 + (maxL + 11) + rm.locals ≤ R.locals) (hn : As.length = n) (hsz : ls.size = nL) (hst : st0 = As.reverse ++ rest) (hcat : (rest.map fun v => v.category).sum ≤ 8) (hdg : decode cc pc = .ok (.invokestatic index, 3)) (hf : cells ≤ R.cells ∧ slots ≤ R.slots)
    (kk : ∀ (r : Int32) (u : S) (H1 : Heap) (locs1 : List Loc), post r u → va_P D vwCl (Wd u) H1 → va_D A (Wd u) → va_S A H0 H1 locs1 → W p l e R s m args below meth c H1 locs1 cells slots Q (F0 m (pc + 3) ls (.int r :: rest))) : W p l e R s m args below meth c H locs cells slots Q (F0 m pc ls st0) :=
  have hPc := hP
  have hDc := hD
  kr0_i hD hS hA (va_runS S0 (hM H.size) (va_cwS n S0.2.2.2.2 hG hw hrc.1 hrc.2 hd hRm) ⟨blind_z, fun U hU hW => ⟨rfl, by rw [hU], by rw [hU]; exact hPc, kz_warm hW hK, hDc.weaken (fun _ _ _ _ => trivial)⟩⟩ rfl hn hsz hst (lv_room hcat) hdg hf) kk
theorem kS_i {post : Int32 → S → Prop} (S0 : CallFix p m c cc nL s args Ts own) (hK : kz D cI cC cQ s) (hP : va_P D vwCl ws H) (hD : va_D A ws) (hS : va_S A H0 H locs) (hA : ∀ q : Nat, H0.size ≤ q → A q)
    (hM : Ci l D cI cC cQ y wsy rm As wc Wd post) (hG : GoodIn Ts (va_wsS own index y wsy)) (hw : wsy = Cond.code y bytes maxL ret :: wsy') (hrc : rm.cells = 0 ∧ rm.slots = 0) (hd : y.cls ≠ "java/lang/invoke/MethodHandle" ∧ y.cls ≠ "java/lang/invoke/VarHandle" ∧ (parseMethodDescriptor y.desc).map (fun d => d.parameters.length) = some n) (hRm : rm.frames + 1 ≤ R.frames ∧ 8 + (maxL + 11) + rm.locals ≤ R.locals) (hn : As.length = n) (hsz : ls.size = nL) (hst : st0 = As.reverse ++ rest) (hcat : (rest.map fun v => v.category).sum ≤ 8) (hdg : decode cc pc = .ok (.invokestatic index, 3)) (hf : cells ≤ R.cells ∧ slots ≤ R.slots) (isC isR : List Nat) (hC : isC.map (fun i => ws[i]?) = wc.map some) (hnC : va_nd isC = true) (hR : isR.map (fun i => ws[i]?) = wr.map some) (hnR : va_nd isR = true) (hdis : ∀ i ∈ isR, i ∉ isC)
    (kk : ∀ (r : Int32) (u : S) (H1 : Heap) (locs1 : List Loc), post r u → va_P D vwCl (wr ++ Wd u) H1 → va_D A (wr ++ Wd u) → va_S A H0 H1 locs1 → W p l e R s m args below meth c H1 locs1 cells slots Q (F0 m (pc + 3) ls (.int r :: rest))) : W p l e R s m args below meth c H locs cells slots Q (F0 m pc ls st0) :=
  have hPc : va_P D vwCl wc H := fun k q hk => by
    obtain ⟨i, -, h2⟩ := va_in_of isC hC hk
    exact hP i q h2
  have hDc : va_D A wc := hD.sub isC hnC hC
  kr_i hP hD hS hA isC isR hC hR hnR hdis (va_runS S0 (hM H.size) (va_cwS n S0.2.2.2.2 hG hw hrc.1 hrc.2 hd hRm) ⟨blind_z, fun U hU hW => ⟨rfl, by rw [hU], by rw [hU]; exact hPc, kz_warm hW hK, hDc.weaken (fun _ _ _ _ => trivial)⟩⟩ rfl hn hsz hst (lv_room hcat) hdg hf) kk
theorem kqS_i {post : Int32 → S → Prop} {pl : va_W} (S0 : CallFix p m c cc nL s args Ts own) (hK : kz D cI cC cQ s) (hP : va_P D vwCl (ws ++ pl) H) (hD : va_D A (ws ++ pl)) (hS : va_S A H0 H locs) (hA : ∀ q : Nat, H0.size ≤ q → A q)
    (hM : Ci l D cI cC cQ y wsy rm As wc Wd post) (hG : GoodIn Ts (va_wsS own index y wsy)) (hw : wsy = Cond.code y bytes maxL ret :: wsy') (hrc : rm.cells = 0 ∧ rm.slots = 0) (hd : y.cls ≠ "java/lang/invoke/MethodHandle" ∧ y.cls ≠ "java/lang/invoke/VarHandle" ∧ (parseMethodDescriptor y.desc).map (fun d => d.parameters.length) = some n) (hRm : rm.frames + 1 ≤ R.frames ∧ 8 + (maxL + 11) + rm.locals ≤ R.locals) (hn : As.length = n) (hsz : ls.size = nL) (hst : st0 = As.reverse ++ rest) (hcat : (rest.map fun v => v.category).sum ≤ 8) (hdg : decode cc pc = .ok (.invokestatic index, 3)) (hf : cells ≤ R.cells ∧ slots ≤ R.slots) (isC isR : List Nat) (hC : isC.map (fun i => ws[i]?) = wc.map some) (hnC : va_nd isC = true) (hR : isR.map (fun i => ws[i]?) = wr.map some) (hnR : va_nd isR = true) (hdis : ∀ i ∈ isR, i ∉ isC)
    (kk : ∀ (r : Int32) (u : S) (H1 : Heap) (locs1 : List Loc), post r u → va_P D vwCl ((wr ++ Wd u) ++ pl) H1 → va_D A ((wr ++ Wd u) ++ pl) → va_S A H0 H1 locs1 → W p l e R s m args below meth c H1 locs1 cells slots Q (F0 m (pc + 3) ls (.int r :: rest))) : W p l e R s m args below meth c H locs cells slots Q (F0 m pc ls st0) :=
  have hPc : va_P D vwCl wc H := fun k q hk => by
    obtain ⟨i, -, h2⟩ := va_in_of isC hC hk
    exact hP i q (by rw [List.getElem?_append_left (List.getElem?_eq_some_iff.mp h2).1]; exact h2)
  have hDw : va_D A ws := ⟨fun i j p q h1 h2 => hD.1 i j p q (by rw [List.getElem?_append_left (List.getElem?_eq_some_iff.mp h1).1]; exact h1) (by rw [List.getElem?_append_left (List.getElem?_eq_some_iff.mp h2).1]; exact h2), fun k q h => hD.2 k q (by rw [List.getElem?_append_left (List.getElem?_eq_some_iff.mp h).1]; exact h)⟩
  have hDc : va_D A wc := hDw.sub isC hnC hC
  krq_i hP hD hS hA isC isR hC hR hnR hdis (va_runS S0 (hM H.size) (va_cwS n S0.2.2.2.2 hG hw hrc.1 hrc.2 hd hRm) ⟨blind_z, fun U hU hW => ⟨rfl, by rw [hU], by rw [hU]; exact hPc, kz_warm hW hK, hDc.weaken (fun _ _ _ _ => trivial)⟩⟩ rfl hn hsz hst (lv_room hcat) hdg hf) kk
theorem k0SN_i {post : Int32 → S → Prop} {host : String} (S0 : CallFix p m c cc nL s args Ts own) (hK : kz D cI cC cQ s) (hP : va_P D vwCl wc H) (hD : va_D A wc) (hS : va_S A H0 H locs) (hA : ∀ q : Nat, H0.size ≤ q → A q)
    (hM : Ci l D cI cC cQ y wsy rm As wc Wd post) (hG : GoodIn Ts wsy) (hl : va_Nw (.methodLinkNest own index y host) s) (hini : (Cond.initialized y.cls).before args s = true) (hsx : (Cond.static y).before args s = true) (hw : wsy = Cond.code y bytes maxL ret :: wsy') (hrc : rm.cells = 0 ∧ rm.slots = 0) (hd : y.cls ≠ "java/lang/invoke/MethodHandle" ∧ y.cls ≠ "java/lang/invoke/VarHandle" ∧ (parseMethodDescriptor y.desc).map (fun d => d.parameters.length) = some n) (hRm : rm.frames + 1 ≤ R.frames ∧ 8 + (maxL + 11) + rm.locals ≤ R.locals) (hn : As.length = n) (hsz : ls.size = nL) (hst : st0 = As.reverse ++ rest) (hcat : (rest.map fun v => v.category).sum ≤ 8) (hdg : decode cc pc = .ok (.invokestatic index, 3)) (hf : cells ≤ R.cells ∧ slots ≤ R.slots)
    (kk : ∀ (r : Int32) (u : S) (H1 : Heap) (locs1 : List Loc), post r u → va_P D vwCl (Wd u) H1 → va_D A (Wd u) → va_S A H0 H1 locs1 → W p l e R s m args below meth c H1 locs1 cells slots Q (F0 m (pc + 3) ls (.int r :: rest))) : W p l e R s m args below meth c H locs cells slots Q (F0 m pc ls st0) :=
  have hPc := hP
  have hDc := hD
  kr0_i hD hS hA (va_runSN S0 (hM H.size) (⟨va_cnB n S0.2.2.2.2 hG hw hrc.1 hrc.2 hl hini hd hRm, hsx, trivial⟩) ⟨blind_z, fun U hU hW => ⟨rfl, by rw [hU], by rw [hU]; exact hPc, kz_warm hW hK, hDc.weaken (fun _ _ _ _ => trivial)⟩⟩ rfl hn hsz hst (lv_room hcat) hdg hf) kk
theorem kSN_i {post : Int32 → S → Prop} {host : String} (S0 : CallFix p m c cc nL s args Ts own) (hK : kz D cI cC cQ s) (hP : va_P D vwCl ws H) (hD : va_D A ws) (hS : va_S A H0 H locs) (hA : ∀ q : Nat, H0.size ≤ q → A q)
    (hM : Ci l D cI cC cQ y wsy rm As wc Wd post) (hG : GoodIn Ts wsy) (hl : va_Nw (.methodLinkNest own index y host) s) (hini : (Cond.initialized y.cls).before args s = true) (hsx : (Cond.static y).before args s = true) (hw : wsy = Cond.code y bytes maxL ret :: wsy') (hrc : rm.cells = 0 ∧ rm.slots = 0) (hd : y.cls ≠ "java/lang/invoke/MethodHandle" ∧ y.cls ≠ "java/lang/invoke/VarHandle" ∧ (parseMethodDescriptor y.desc).map (fun d => d.parameters.length) = some n) (hRm : rm.frames + 1 ≤ R.frames ∧ 8 + (maxL + 11) + rm.locals ≤ R.locals) (hn : As.length = n) (hsz : ls.size = nL) (hst : st0 = As.reverse ++ rest) (hcat : (rest.map fun v => v.category).sum ≤ 8) (hdg : decode cc pc = .ok (.invokestatic index, 3)) (hf : cells ≤ R.cells ∧ slots ≤ R.slots) (isC isR : List Nat) (hC : isC.map (fun i => ws[i]?) = wc.map some) (hnC : va_nd isC = true) (hR : isR.map (fun i => ws[i]?) = wr.map some) (hnR : va_nd isR = true) (hdis : ∀ i ∈ isR, i ∉ isC)
    (kk : ∀ (r : Int32) (u : S) (H1 : Heap) (locs1 : List Loc), post r u → va_P D vwCl (wr ++ Wd u) H1 → va_D A (wr ++ Wd u) → va_S A H0 H1 locs1 → W p l e R s m args below meth c H1 locs1 cells slots Q (F0 m (pc + 3) ls (.int r :: rest))) : W p l e R s m args below meth c H locs cells slots Q (F0 m pc ls st0) :=
  have hPc : va_P D vwCl wc H := fun k q hk => by
    obtain ⟨i, -, h2⟩ := va_in_of isC hC hk
    exact hP i q h2
  have hDc : va_D A wc := hD.sub isC hnC hC
  kr_i hP hD hS hA isC isR hC hR hnR hdis (va_runSN S0 (hM H.size) (⟨va_cnB n S0.2.2.2.2 hG hw hrc.1 hrc.2 hl hini hd hRm, hsx, trivial⟩) ⟨blind_z, fun U hU hW => ⟨rfl, by rw [hU], by rw [hU]; exact hPc, kz_warm hW hK, hDc.weaken (fun _ _ _ _ => trivial)⟩⟩ rfl hn hsz hst (lv_room hcat) hdg hf) kk
theorem kqSN_i {post : Int32 → S → Prop} {host : String} {pl : va_W} (S0 : CallFix p m c cc nL s args Ts own) (hK : kz D cI cC cQ s) (hP : va_P D vwCl (ws ++ pl) H) (hD : va_D A (ws ++ pl)) (hS : va_S A H0 H locs) (hA : ∀ q : Nat, H0.size ≤ q → A q)
    (hM : Ci l D cI cC cQ y wsy rm As wc Wd post) (hG : GoodIn Ts wsy) (hl : va_Nw (.methodLinkNest own index y host) s) (hini : (Cond.initialized y.cls).before args s = true) (hsx : (Cond.static y).before args s = true) (hw : wsy = Cond.code y bytes maxL ret :: wsy') (hrc : rm.cells = 0 ∧ rm.slots = 0) (hd : y.cls ≠ "java/lang/invoke/MethodHandle" ∧ y.cls ≠ "java/lang/invoke/VarHandle" ∧ (parseMethodDescriptor y.desc).map (fun d => d.parameters.length) = some n) (hRm : rm.frames + 1 ≤ R.frames ∧ 8 + (maxL + 11) + rm.locals ≤ R.locals) (hn : As.length = n) (hsz : ls.size = nL) (hst : st0 = As.reverse ++ rest) (hcat : (rest.map fun v => v.category).sum ≤ 8) (hdg : decode cc pc = .ok (.invokestatic index, 3)) (hf : cells ≤ R.cells ∧ slots ≤ R.slots) (isC isR : List Nat) (hC : isC.map (fun i => ws[i]?) = wc.map some) (hnC : va_nd isC = true) (hR : isR.map (fun i => ws[i]?) = wr.map some) (hnR : va_nd isR = true) (hdis : ∀ i ∈ isR, i ∉ isC)
    (kk : ∀ (r : Int32) (u : S) (H1 : Heap) (locs1 : List Loc), post r u → va_P D vwCl ((wr ++ Wd u) ++ pl) H1 → va_D A ((wr ++ Wd u) ++ pl) → va_S A H0 H1 locs1 → W p l e R s m args below meth c H1 locs1 cells slots Q (F0 m (pc + 3) ls (.int r :: rest))) : W p l e R s m args below meth c H locs cells slots Q (F0 m pc ls st0) :=
  have hPc : va_P D vwCl wc H := fun k q hk => by
    obtain ⟨i, -, h2⟩ := va_in_of isC hC hk
    exact hP i q (by rw [List.getElem?_append_left (List.getElem?_eq_some_iff.mp h2).1]; exact h2)
  have hDw : va_D A ws := ⟨fun i j p q h1 h2 => hD.1 i j p q (by rw [List.getElem?_append_left (List.getElem?_eq_some_iff.mp h1).1]; exact h1) (by rw [List.getElem?_append_left (List.getElem?_eq_some_iff.mp h2).1]; exact h2), fun k q h => hD.2 k q (by rw [List.getElem?_append_left (List.getElem?_eq_some_iff.mp h).1]; exact h)⟩
  have hDc : va_D A wc := hDw.sub isC hnC hC
  krq_i hP hD hS hA isC isR hC hR hnR hdis (va_runSN S0 (hM H.size) (⟨va_cnB n S0.2.2.2.2 hG hw hrc.1 hrc.2 hl hini hd hRm, hsx, trivial⟩) ⟨blind_z, fun U hU hW => ⟨rfl, by rw [hU], by rw [hU]; exact hPc, kz_warm hW hK, hDc.weaken (fun _ _ _ _ => trivial)⟩⟩ rfl hn hsz hst (lv_room hcat) hdg hf) kk
theorem kr_v {post : S → Prop} {a : Array Value} (hP : va_P D vwCl ws H) (hD : va_D A ws) (hS : va_S A H0 H locs) (hA : ∀ q : Nat, H0.size ≤ q → A q) (isC isR : List Nat) (hC : isC.map (fun i => ws[i]?) = wc.map some) (hR : isR.map (fun i => ws[i]?) = wr.map some) (hn : va_nd isR = true) (hdis : ∀ i ∈ isR, i ∉ isC)
    (hr : va_Run p l e R s m args below meth c H locs cells slots 0 0 (F0 m pc ls st0) rest (va_Qv post (cEnd D (va_A wc H.size) Wd) (va_A wc H.size) a) (va_A wc H.size))
    (kk : ∀ (u : S) (H1 : Heap) (locs1 : List Loc), post u → va_P D vwCl (wr ++ Wd u) H1 → va_D A (wr ++ Wd u) → va_S A H0 H1 locs1 → W p l e R s m args below meth c H1 locs1 cells slots Q (F0 m (pc + 3) ls rest)) : W p l e R s m args below meth c H locs cells slots Q (F0 m pc ls st0) := by
  have hF := va_free (wc := wc) hD hS hA isC hC
  refine va_callv hr hS (fun q _ h => hF q h) hF (fun u t H1 locs1 ht hvm hw hB hz1 hk1 hS1 => ?_)
  obtain ⟨hP1, hD1⟩ := hB
  rw [ht] at hP1
  obtain ⟨hP2, hD2⟩ := va_join (wr := wr) hP hD isC isR hC hR hn hdis hk1 hF hP1 hD1
  exact kk u H1 locs1 hw hP2 hD2 hS1
theorem kr0_v {post : S → Prop} {a : Array Value} (hD : va_D A wc) (hS : va_S A H0 H locs) (hA : ∀ q : Nat, H0.size ≤ q → A q)
    (hr : va_Run p l e R s m args below meth c H locs cells slots 0 0 (F0 m pc ls st0) rest (va_Qv post (cEnd D (va_A wc H.size) Wd) (va_A wc H.size) a) (va_A wc H.size))
    (kk : ∀ (u : S) (H1 : Heap) (locs1 : List Loc), post u → va_P D vwCl (Wd u) H1 → va_D A (Wd u) → va_S A H0 H1 locs1 → W p l e R s m args below meth c H1 locs1 cells slots Q (F0 m (pc + 3) ls rest)) : W p l e R s m args below meth c H locs cells slots Q (F0 m pc ls st0) := by
  have hF : ∀ q, va_A wc H.size q → A q := fun q h => h.elim (fun ⟨k, e, h⟩ => hD.2 k (q, e) h) (fun h => hA q (Nat.le_trans hS.1 h))
  refine va_callv hr hS (fun q _ h => hF q h) hF (fun u t H1 locs1 ht hvm hw hB hz1 hk1 hS1 => ?_)
  obtain ⟨hP1, hD1⟩ := hB
  rw [ht] at hP1
  exact kk u H1 locs1 hw hP1 (hD1.weaken (fun k q _ h => hF q.1 h)) hS1
theorem krq_v {post : S → Prop} {a : Array Value} {pl : va_W} (hP : va_P D vwCl (ws ++ pl) H) (hD : va_D A (ws ++ pl)) (hS : va_S A H0 H locs) (hA : ∀ q : Nat, H0.size ≤ q → A q) (isC isR : List Nat) (hC : isC.map (fun i => ws[i]?) = wc.map some) (hR : isR.map (fun i => ws[i]?) = wr.map some) (hn : va_nd isR = true) (hdis : ∀ i ∈ isR, i ∉ isC)
    (hr : va_Run p l e R s m args below meth c H locs cells slots 0 0 (F0 m pc ls st0) rest (va_Qv post (cEnd D (va_A wc H.size) Wd) (va_A wc H.size) a) (va_A wc H.size))
    (kk : ∀ (u : S) (H1 : Heap) (locs1 : List Loc), post u → va_P D vwCl ((wr ++ Wd u) ++ pl) H1 → va_D A ((wr ++ Wd u) ++ pl) → va_S A H0 H1 locs1 → W p l e R s m args below meth c H1 locs1 cells slots Q (F0 m (pc + 3) ls rest)) : W p l e R s m args below meth c H locs cells slots Q (F0 m pc ls st0) := by
  have hF : ∀ q, va_A wc H.size q → A q := fun q h => h.elim (fun ⟨k, e, h⟩ => by
    obtain ⟨i, -, h2⟩ := va_in_of isC hC h
    exact hD.2 i (q, e) (by rw [List.getElem?_append_left (List.getElem?_eq_some_iff.mp h2).1]; exact h2)) (fun h => hA q (Nat.le_trans hS.1 h))
  refine va_callv hr hS (fun q _ h => hF q h) hF (fun u t H1 locs1 ht hvm hw hB hz1 hk1 hS1 => ?_)
  obtain ⟨hP1, hD1⟩ := hB
  rw [ht] at hP1
  obtain ⟨hP2, hD2⟩ := va_joinQ (wr := wr) hP hD isC isR hC hR hn hdis hk1 hF hP1 hD1
  exact kk u H1 locs1 hw hP2 hD2 hS1
theorem k0V_v {post : S → Prop} (S0 : CallFix p m c cc nL s args Ts own) (hK : kz D cI cC cQ s) (hP : va_P D vwCl wc H) (hD : va_D A wc) (hS : va_S A H0 H locs) (hA : ∀ q : Nat, H0.size ≤ q → A q)
    (hM : Cv l D cI cC cQ y wsy rm (.ref b :: As) wc Wd post) (hG : GoodIn Ts (wsV own index C y wsy)) (hyC : y.cls = C) (hw : wsy = Cond.code y bytes maxL ret :: wsy') (hrc : rm.cells = 0 ∧ rm.slots = 0) (hd : y.cls ≠ "java/lang/invoke/MethodHandle" ∧ y.cls ≠ "java/lang/invoke/VarHandle" ∧ (parseMethodDescriptor y.desc).map (fun d => d.parameters.length) = some n) (hRm : rm.frames + 1 ≤ R.frames ∧ 8 + (maxL + 11) + rm.locals ≤ R.locals) (hq : vwCl[ci]? = some qc) (hC0 : qc.1 = C) (hb0 : wc[q0]? = some (b, .inr (ci, fs))) (hn : As.length = n) (hsz : ls.size = nL) (hst : st0 = As.reverse ++ .ref b :: rest) (hcat : (rest.map fun v => v.category).sum ≤ 8) (hdg : decode cc pc = .ok (.invokevirtual index, 3)) (hf : cells ≤ R.cells ∧ slots ≤ R.slots)
    (kk : ∀ (u : S) (H1 : Heap) (locs1 : List Loc), post u → va_P D vwCl (Wd u) H1 → va_D A (Wd u) → va_S A H0 H1 locs1 → W p l e R s m args below meth c H1 locs1 cells slots Q (F0 m (pc + 3) ls rest)) : W p l e R s m args below meth c H locs cells slots Q (F0 m pc ls st0) :=
  have hPc := hP
  have hDc := hD
  kr0_v hD hS hA (va_runV S0 (hM H.size) (cwV n S0.2.2.2.2 hG hw hrc.1 hrc.2 ⟨hyC, hd⟩ hRm) ⟨blind_z, by subst hC0; exact va_recv hK.1 hPc hq hb0, fun U hU hW => ⟨rfl, by rw [hU], by rw [hU]; exact hPc, kz_warm hW hK, hDc.weaken (fun _ _ _ _ => trivial)⟩⟩ rfl hn hsz hst (lv_room hcat) hdg hf) kk
theorem kV_v {post : S → Prop} (S0 : CallFix p m c cc nL s args Ts own) (hK : kz D cI cC cQ s) (hP : va_P D vwCl ws H) (hD : va_D A ws) (hS : va_S A H0 H locs) (hA : ∀ q : Nat, H0.size ≤ q → A q)
    (hM : Cv l D cI cC cQ y wsy rm (.ref b :: As) wc Wd post) (hG : GoodIn Ts (wsV own index C y wsy)) (hyC : y.cls = C) (hw : wsy = Cond.code y bytes maxL ret :: wsy') (hrc : rm.cells = 0 ∧ rm.slots = 0) (hd : y.cls ≠ "java/lang/invoke/MethodHandle" ∧ y.cls ≠ "java/lang/invoke/VarHandle" ∧ (parseMethodDescriptor y.desc).map (fun d => d.parameters.length) = some n) (hRm : rm.frames + 1 ≤ R.frames ∧ 8 + (maxL + 11) + rm.locals ≤ R.locals) (hq : vwCl[ci]? = some qc) (hC0 : qc.1 = C) (hb0 : wc[q0]? = some (b, .inr (ci, fs))) (hn : As.length = n) (hsz : ls.size = nL) (hst : st0 = As.reverse ++ .ref b :: rest) (hcat : (rest.map fun v => v.category).sum ≤ 8) (hdg : decode cc pc = .ok (.invokevirtual index, 3)) (hf : cells ≤ R.cells ∧ slots ≤ R.slots) (isC isR : List Nat) (hC : isC.map (fun i => ws[i]?) = wc.map some) (hnC : va_nd isC = true) (hR : isR.map (fun i => ws[i]?) = wr.map some) (hnR : va_nd isR = true) (hdis : ∀ i ∈ isR, i ∉ isC)
    (kk : ∀ (u : S) (H1 : Heap) (locs1 : List Loc), post u → va_P D vwCl (wr ++ Wd u) H1 → va_D A (wr ++ Wd u) → va_S A H0 H1 locs1 → W p l e R s m args below meth c H1 locs1 cells slots Q (F0 m (pc + 3) ls rest)) : W p l e R s m args below meth c H locs cells slots Q (F0 m pc ls st0) :=
  have hPc : va_P D vwCl wc H := fun k q hk => by
    obtain ⟨i, -, h2⟩ := va_in_of isC hC hk
    exact hP i q h2
  have hDc : va_D A wc := hD.sub isC hnC hC
  kr_v hP hD hS hA isC isR hC hR hnR hdis (va_runV S0 (hM H.size) (cwV n S0.2.2.2.2 hG hw hrc.1 hrc.2 ⟨hyC, hd⟩ hRm) ⟨blind_z, by subst hC0; exact va_recv hK.1 hPc hq hb0, fun U hU hW => ⟨rfl, by rw [hU], by rw [hU]; exact hPc, kz_warm hW hK, hDc.weaken (fun _ _ _ _ => trivial)⟩⟩ rfl hn hsz hst (lv_room hcat) hdg hf) kk
theorem kqV_v {post : S → Prop} {pl : va_W} (S0 : CallFix p m c cc nL s args Ts own) (hK : kz D cI cC cQ s) (hP : va_P D vwCl (ws ++ pl) H) (hD : va_D A (ws ++ pl)) (hS : va_S A H0 H locs) (hA : ∀ q : Nat, H0.size ≤ q → A q)
    (hM : Cv l D cI cC cQ y wsy rm (.ref b :: As) wc Wd post) (hG : GoodIn Ts (wsV own index C y wsy)) (hyC : y.cls = C) (hw : wsy = Cond.code y bytes maxL ret :: wsy') (hrc : rm.cells = 0 ∧ rm.slots = 0) (hd : y.cls ≠ "java/lang/invoke/MethodHandle" ∧ y.cls ≠ "java/lang/invoke/VarHandle" ∧ (parseMethodDescriptor y.desc).map (fun d => d.parameters.length) = some n) (hRm : rm.frames + 1 ≤ R.frames ∧ 8 + (maxL + 11) + rm.locals ≤ R.locals) (hq : vwCl[ci]? = some qc) (hC0 : qc.1 = C) (hb0 : wc[q0]? = some (b, .inr (ci, fs))) (hn : As.length = n) (hsz : ls.size = nL) (hst : st0 = As.reverse ++ .ref b :: rest) (hcat : (rest.map fun v => v.category).sum ≤ 8) (hdg : decode cc pc = .ok (.invokevirtual index, 3)) (hf : cells ≤ R.cells ∧ slots ≤ R.slots) (isC isR : List Nat) (hC : isC.map (fun i => ws[i]?) = wc.map some) (hnC : va_nd isC = true) (hR : isR.map (fun i => ws[i]?) = wr.map some) (hnR : va_nd isR = true) (hdis : ∀ i ∈ isR, i ∉ isC)
    (kk : ∀ (u : S) (H1 : Heap) (locs1 : List Loc), post u → va_P D vwCl ((wr ++ Wd u) ++ pl) H1 → va_D A ((wr ++ Wd u) ++ pl) → va_S A H0 H1 locs1 → W p l e R s m args below meth c H1 locs1 cells slots Q (F0 m (pc + 3) ls rest)) : W p l e R s m args below meth c H locs cells slots Q (F0 m pc ls st0) :=
  have hPc : va_P D vwCl wc H := fun k q hk => by
    obtain ⟨i, -, h2⟩ := va_in_of isC hC hk
    exact hP i q (by rw [List.getElem?_append_left (List.getElem?_eq_some_iff.mp h2).1]; exact h2)
  have hDw : va_D A ws := ⟨fun i j p q h1 h2 => hD.1 i j p q (by rw [List.getElem?_append_left (List.getElem?_eq_some_iff.mp h1).1]; exact h1) (by rw [List.getElem?_append_left (List.getElem?_eq_some_iff.mp h2).1]; exact h2), fun k q h => hD.2 k q (by rw [List.getElem?_append_left (List.getElem?_eq_some_iff.mp h).1]; exact h)⟩
  have hDc : va_D A wc := hDw.sub isC hnC hC
  krq_v hP hD hS hA isC isR hC hR hnR hdis (va_runV S0 (hM H.size) (cwV n S0.2.2.2.2 hG hw hrc.1 hrc.2 ⟨hyC, hd⟩ hRm) ⟨blind_z, by subst hC0; exact va_recv hK.1 hPc hq hb0, fun U hU hW => ⟨rfl, by rw [hU], by rw [hU]; exact hPc, kz_warm hW hK, hDc.weaken (fun _ _ _ _ => trivial)⟩⟩ rfl hn hsz hst (lv_room hcat) hdg hf) kk
theorem k0VN_v {post : S → Prop} {host : String} (S0 : CallFix p m c cc nL s args Ts own) (hK : kz D cI cC cQ s) (hP : va_P D vwCl wc H) (hD : va_D A wc) (hS : va_S A H0 H locs) (hA : ∀ q : Nat, H0.size ≤ q → A q)
    (hM : Cv l D cI cC cQ y wsy rm (.ref b :: As) wc Wd post) (hG : GoodIn Ts wsy) (hl : va_Nw (.methodLinkNest own index y host) s) (hini : (Cond.initialized y.cls).before args s = true) (hin : (Cond.instanceMethod y).before args s = true) (hsel : (Cond.selects C y y).before args s = true) (hw : wsy = Cond.code y bytes maxL ret :: wsy') (hrc : rm.cells = 0 ∧ rm.slots = 0) (hd : y.cls ≠ "java/lang/invoke/MethodHandle" ∧ y.cls ≠ "java/lang/invoke/VarHandle" ∧ (parseMethodDescriptor y.desc).map (fun d => d.parameters.length) = some n) (hRm : rm.frames + 1 ≤ R.frames ∧ 8 + (maxL + 11) + rm.locals ≤ R.locals) (hq : vwCl[ci]? = some qc) (hC0 : qc.1 = C) (hb0 : wc[q0]? = some (b, .inr (ci, fs))) (hn : As.length = n) (hsz : ls.size = nL) (hst : st0 = As.reverse ++ .ref b :: rest) (hcat : (rest.map fun v => v.category).sum ≤ 8) (hdg : decode cc pc = .ok (.invokevirtual index, 3)) (hf : cells ≤ R.cells ∧ slots ≤ R.slots)
    (kk : ∀ (u : S) (H1 : Heap) (locs1 : List Loc), post u → va_P D vwCl (Wd u) H1 → va_D A (Wd u) → va_S A H0 H1 locs1 → W p l e R s m args below meth c H1 locs1 cells slots Q (F0 m (pc + 3) ls rest)) : W p l e R s m args below meth c H locs cells slots Q (F0 m pc ls st0) :=
  have hPc := hP
  have hDc := hD
  kr0_v hD hS hA (va_runVN S0 (hM H.size) (⟨va_cnB n S0.2.2.2.2 hG hw hrc.1 hrc.2 hl hini hd hRm, hin, hsel⟩) ⟨blind_z, by subst hC0; exact va_recv hK.1 hPc hq hb0, fun U hU hW => ⟨rfl, by rw [hU], by rw [hU]; exact hPc, kz_warm hW hK, hDc.weaken (fun _ _ _ _ => trivial)⟩⟩ rfl hn hsz hst (lv_room hcat) hdg hf) kk
theorem kVN_v {post : S → Prop} {host : String} (S0 : CallFix p m c cc nL s args Ts own) (hK : kz D cI cC cQ s) (hP : va_P D vwCl ws H) (hD : va_D A ws) (hS : va_S A H0 H locs) (hA : ∀ q : Nat, H0.size ≤ q → A q)
    (hM : Cv l D cI cC cQ y wsy rm (.ref b :: As) wc Wd post) (hG : GoodIn Ts wsy) (hl : va_Nw (.methodLinkNest own index y host) s) (hini : (Cond.initialized y.cls).before args s = true) (hin : (Cond.instanceMethod y).before args s = true) (hsel : (Cond.selects C y y).before args s = true) (hw : wsy = Cond.code y bytes maxL ret :: wsy') (hrc : rm.cells = 0 ∧ rm.slots = 0) (hd : y.cls ≠ "java/lang/invoke/MethodHandle" ∧ y.cls ≠ "java/lang/invoke/VarHandle" ∧ (parseMethodDescriptor y.desc).map (fun d => d.parameters.length) = some n) (hRm : rm.frames + 1 ≤ R.frames ∧ 8 + (maxL + 11) + rm.locals ≤ R.locals) (hq : vwCl[ci]? = some qc) (hC0 : qc.1 = C) (hb0 : wc[q0]? = some (b, .inr (ci, fs))) (hn : As.length = n) (hsz : ls.size = nL) (hst : st0 = As.reverse ++ .ref b :: rest) (hcat : (rest.map fun v => v.category).sum ≤ 8) (hdg : decode cc pc = .ok (.invokevirtual index, 3)) (hf : cells ≤ R.cells ∧ slots ≤ R.slots) (isC isR : List Nat) (hC : isC.map (fun i => ws[i]?) = wc.map some) (hnC : va_nd isC = true) (hR : isR.map (fun i => ws[i]?) = wr.map some) (hnR : va_nd isR = true) (hdis : ∀ i ∈ isR, i ∉ isC)
    (kk : ∀ (u : S) (H1 : Heap) (locs1 : List Loc), post u → va_P D vwCl (wr ++ Wd u) H1 → va_D A (wr ++ Wd u) → va_S A H0 H1 locs1 → W p l e R s m args below meth c H1 locs1 cells slots Q (F0 m (pc + 3) ls rest)) : W p l e R s m args below meth c H locs cells slots Q (F0 m pc ls st0) :=
  have hPc : va_P D vwCl wc H := fun k q hk => by
    obtain ⟨i, -, h2⟩ := va_in_of isC hC hk
    exact hP i q h2
  have hDc : va_D A wc := hD.sub isC hnC hC
  kr_v hP hD hS hA isC isR hC hR hnR hdis (va_runVN S0 (hM H.size) (⟨va_cnB n S0.2.2.2.2 hG hw hrc.1 hrc.2 hl hini hd hRm, hin, hsel⟩) ⟨blind_z, by subst hC0; exact va_recv hK.1 hPc hq hb0, fun U hU hW => ⟨rfl, by rw [hU], by rw [hU]; exact hPc, kz_warm hW hK, hDc.weaken (fun _ _ _ _ => trivial)⟩⟩ rfl hn hsz hst (lv_room hcat) hdg hf) kk
theorem kqVN_v {post : S → Prop} {host : String} {pl : va_W} (S0 : CallFix p m c cc nL s args Ts own) (hK : kz D cI cC cQ s) (hP : va_P D vwCl (ws ++ pl) H) (hD : va_D A (ws ++ pl)) (hS : va_S A H0 H locs) (hA : ∀ q : Nat, H0.size ≤ q → A q)
    (hM : Cv l D cI cC cQ y wsy rm (.ref b :: As) wc Wd post) (hG : GoodIn Ts wsy) (hl : va_Nw (.methodLinkNest own index y host) s) (hini : (Cond.initialized y.cls).before args s = true) (hin : (Cond.instanceMethod y).before args s = true) (hsel : (Cond.selects C y y).before args s = true) (hw : wsy = Cond.code y bytes maxL ret :: wsy') (hrc : rm.cells = 0 ∧ rm.slots = 0) (hd : y.cls ≠ "java/lang/invoke/MethodHandle" ∧ y.cls ≠ "java/lang/invoke/VarHandle" ∧ (parseMethodDescriptor y.desc).map (fun d => d.parameters.length) = some n) (hRm : rm.frames + 1 ≤ R.frames ∧ 8 + (maxL + 11) + rm.locals ≤ R.locals) (hq : vwCl[ci]? = some qc) (hC0 : qc.1 = C) (hb0 : wc[q0]? = some (b, .inr (ci, fs))) (hn : As.length = n) (hsz : ls.size = nL) (hst : st0 = As.reverse ++ .ref b :: rest) (hcat : (rest.map fun v => v.category).sum ≤ 8) (hdg : decode cc pc = .ok (.invokevirtual index, 3)) (hf : cells ≤ R.cells ∧ slots ≤ R.slots) (isC isR : List Nat) (hC : isC.map (fun i => ws[i]?) = wc.map some) (hnC : va_nd isC = true) (hR : isR.map (fun i => ws[i]?) = wr.map some) (hnR : va_nd isR = true) (hdis : ∀ i ∈ isR, i ∉ isC)
    (kk : ∀ (u : S) (H1 : Heap) (locs1 : List Loc), post u → va_P D vwCl ((wr ++ Wd u) ++ pl) H1 → va_D A ((wr ++ Wd u) ++ pl) → va_S A H0 H1 locs1 → W p l e R s m args below meth c H1 locs1 cells slots Q (F0 m (pc + 3) ls rest)) : W p l e R s m args below meth c H locs cells slots Q (F0 m pc ls st0) :=
  have hPc : va_P D vwCl wc H := fun k q hk => by
    obtain ⟨i, -, h2⟩ := va_in_of isC hC hk
    exact hP i q (by rw [List.getElem?_append_left (List.getElem?_eq_some_iff.mp h2).1]; exact h2)
  have hDw : va_D A ws := ⟨fun i j p q h1 h2 => hD.1 i j p q (by rw [List.getElem?_append_left (List.getElem?_eq_some_iff.mp h1).1]; exact h1) (by rw [List.getElem?_append_left (List.getElem?_eq_some_iff.mp h2).1]; exact h2), fun k q h => hD.2 k q (by rw [List.getElem?_append_left (List.getElem?_eq_some_iff.mp h).1]; exact h)⟩
  have hDc : va_D A wc := hDw.sub isC hnC hC
  krq_v hP hD hS hA isC isR hC hR hnR hdis (va_runVN S0 (hM H.size) (⟨va_cnB n S0.2.2.2.2 hG hw hrc.1 hrc.2 hl hini hd hRm, hin, hsel⟩) ⟨blind_z, by subst hC0; exact va_recv hK.1 hPc hq hb0, fun U hU hW => ⟨rfl, by rw [hU], by rw [hU]; exact hPc, kz_warm hW hK, hDc.weaken (fun _ _ _ _ => trivial)⟩⟩ rfl hn hsz hst (lv_room hcat) hdg hf) kk
theorem k0S_v {post : S → Prop} (S0 : CallFix p m c cc nL s args Ts own) (hK : kz D cI cC cQ s) (hP : va_P D vwCl wc H) (hD : va_D A wc) (hS : va_S A H0 H locs) (hA : ∀ q : Nat, H0.size ≤ q → A q)
    (hM : Cv l D cI cC cQ y wsy rm As wc Wd post) (hG : GoodIn Ts (va_wsS own index y wsy)) (hw : wsy = Cond.code y bytes maxL ret :: wsy') (hrc : rm.cells = 0 ∧ rm.slots = 0) (hd : y.cls ≠ "java/lang/invoke/MethodHandle" ∧ y.cls ≠ "java/lang/invoke/VarHandle" ∧ (parseMethodDescriptor y.desc).map (fun d => d.parameters.length) = some n) (hRm : rm.frames + 1 ≤ R.frames ∧ 8 + (maxL + 11) + rm.locals ≤ R.locals) (hn : As.length = n) (hsz : ls.size = nL) (hst : st0 = As.reverse ++ rest) (hcat : (rest.map fun v => v.category).sum ≤ 8) (hdg : decode cc pc = .ok (.invokestatic index, 3)) (hf : cells ≤ R.cells ∧ slots ≤ R.slots)
    (kk : ∀ (u : S) (H1 : Heap) (locs1 : List Loc), post u → va_P D vwCl (Wd u) H1 → va_D A (Wd u) → va_S A H0 H1 locs1 → W p l e R s m args below meth c H1 locs1 cells slots Q (F0 m (pc + 3) ls rest)) : W p l e R s m args below meth c H locs cells slots Q (F0 m pc ls st0) :=
  have hPc := hP
  have hDc := hD
  kr0_v hD hS hA (va_runS S0 (hM H.size) (va_cwS n S0.2.2.2.2 hG hw hrc.1 hrc.2 hd hRm) ⟨blind_z, fun U hU hW => ⟨rfl, by rw [hU], by rw [hU]; exact hPc, kz_warm hW hK, hDc.weaken (fun _ _ _ _ => trivial)⟩⟩ rfl hn hsz hst (lv_room hcat) hdg hf) kk
theorem kS_v {post : S → Prop} (S0 : CallFix p m c cc nL s args Ts own) (hK : kz D cI cC cQ s) (hP : va_P D vwCl ws H) (hD : va_D A ws) (hS : va_S A H0 H locs) (hA : ∀ q : Nat, H0.size ≤ q → A q)
    (hM : Cv l D cI cC cQ y wsy rm As wc Wd post) (hG : GoodIn Ts (va_wsS own index y wsy)) (hw : wsy = Cond.code y bytes maxL ret :: wsy') (hrc : rm.cells = 0 ∧ rm.slots = 0) (hd : y.cls ≠ "java/lang/invoke/MethodHandle" ∧ y.cls ≠ "java/lang/invoke/VarHandle" ∧ (parseMethodDescriptor y.desc).map (fun d => d.parameters.length) = some n) (hRm : rm.frames + 1 ≤ R.frames ∧ 8 + (maxL + 11) + rm.locals ≤ R.locals) (hn : As.length = n) (hsz : ls.size = nL) (hst : st0 = As.reverse ++ rest) (hcat : (rest.map fun v => v.category).sum ≤ 8) (hdg : decode cc pc = .ok (.invokestatic index, 3)) (hf : cells ≤ R.cells ∧ slots ≤ R.slots) (isC isR : List Nat) (hC : isC.map (fun i => ws[i]?) = wc.map some) (hnC : va_nd isC = true) (hR : isR.map (fun i => ws[i]?) = wr.map some) (hnR : va_nd isR = true) (hdis : ∀ i ∈ isR, i ∉ isC)
    (kk : ∀ (u : S) (H1 : Heap) (locs1 : List Loc), post u → va_P D vwCl (wr ++ Wd u) H1 → va_D A (wr ++ Wd u) → va_S A H0 H1 locs1 → W p l e R s m args below meth c H1 locs1 cells slots Q (F0 m (pc + 3) ls rest)) : W p l e R s m args below meth c H locs cells slots Q (F0 m pc ls st0) :=
  have hPc : va_P D vwCl wc H := fun k q hk => by
    obtain ⟨i, -, h2⟩ := va_in_of isC hC hk
    exact hP i q h2
  have hDc : va_D A wc := hD.sub isC hnC hC
  kr_v hP hD hS hA isC isR hC hR hnR hdis (va_runS S0 (hM H.size) (va_cwS n S0.2.2.2.2 hG hw hrc.1 hrc.2 hd hRm) ⟨blind_z, fun U hU hW => ⟨rfl, by rw [hU], by rw [hU]; exact hPc, kz_warm hW hK, hDc.weaken (fun _ _ _ _ => trivial)⟩⟩ rfl hn hsz hst (lv_room hcat) hdg hf) kk
theorem kqS_v {post : S → Prop} {pl : va_W} (S0 : CallFix p m c cc nL s args Ts own) (hK : kz D cI cC cQ s) (hP : va_P D vwCl (ws ++ pl) H) (hD : va_D A (ws ++ pl)) (hS : va_S A H0 H locs) (hA : ∀ q : Nat, H0.size ≤ q → A q)
    (hM : Cv l D cI cC cQ y wsy rm As wc Wd post) (hG : GoodIn Ts (va_wsS own index y wsy)) (hw : wsy = Cond.code y bytes maxL ret :: wsy') (hrc : rm.cells = 0 ∧ rm.slots = 0) (hd : y.cls ≠ "java/lang/invoke/MethodHandle" ∧ y.cls ≠ "java/lang/invoke/VarHandle" ∧ (parseMethodDescriptor y.desc).map (fun d => d.parameters.length) = some n) (hRm : rm.frames + 1 ≤ R.frames ∧ 8 + (maxL + 11) + rm.locals ≤ R.locals) (hn : As.length = n) (hsz : ls.size = nL) (hst : st0 = As.reverse ++ rest) (hcat : (rest.map fun v => v.category).sum ≤ 8) (hdg : decode cc pc = .ok (.invokestatic index, 3)) (hf : cells ≤ R.cells ∧ slots ≤ R.slots) (isC isR : List Nat) (hC : isC.map (fun i => ws[i]?) = wc.map some) (hnC : va_nd isC = true) (hR : isR.map (fun i => ws[i]?) = wr.map some) (hnR : va_nd isR = true) (hdis : ∀ i ∈ isR, i ∉ isC)
    (kk : ∀ (u : S) (H1 : Heap) (locs1 : List Loc), post u → va_P D vwCl ((wr ++ Wd u) ++ pl) H1 → va_D A ((wr ++ Wd u) ++ pl) → va_S A H0 H1 locs1 → W p l e R s m args below meth c H1 locs1 cells slots Q (F0 m (pc + 3) ls rest)) : W p l e R s m args below meth c H locs cells slots Q (F0 m pc ls st0) :=
  have hPc : va_P D vwCl wc H := fun k q hk => by
    obtain ⟨i, -, h2⟩ := va_in_of isC hC hk
    exact hP i q (by rw [List.getElem?_append_left (List.getElem?_eq_some_iff.mp h2).1]; exact h2)
  have hDw : va_D A ws := ⟨fun i j p q h1 h2 => hD.1 i j p q (by rw [List.getElem?_append_left (List.getElem?_eq_some_iff.mp h1).1]; exact h1) (by rw [List.getElem?_append_left (List.getElem?_eq_some_iff.mp h2).1]; exact h2), fun k q h => hD.2 k q (by rw [List.getElem?_append_left (List.getElem?_eq_some_iff.mp h).1]; exact h)⟩
  have hDc : va_D A wc := hDw.sub isC hnC hC
  krq_v hP hD hS hA isC isR hC hR hnR hdis (va_runS S0 (hM H.size) (va_cwS n S0.2.2.2.2 hG hw hrc.1 hrc.2 hd hRm) ⟨blind_z, fun U hU hW => ⟨rfl, by rw [hU], by rw [hU]; exact hPc, kz_warm hW hK, hDc.weaken (fun _ _ _ _ => trivial)⟩⟩ rfl hn hsz hst (lv_room hcat) hdg hf) kk
theorem k0SN_v {post : S → Prop} {host : String} (S0 : CallFix p m c cc nL s args Ts own) (hK : kz D cI cC cQ s) (hP : va_P D vwCl wc H) (hD : va_D A wc) (hS : va_S A H0 H locs) (hA : ∀ q : Nat, H0.size ≤ q → A q)
    (hM : Cv l D cI cC cQ y wsy rm As wc Wd post) (hG : GoodIn Ts wsy) (hl : va_Nw (.methodLinkNest own index y host) s) (hini : (Cond.initialized y.cls).before args s = true) (hsx : (Cond.static y).before args s = true) (hw : wsy = Cond.code y bytes maxL ret :: wsy') (hrc : rm.cells = 0 ∧ rm.slots = 0) (hd : y.cls ≠ "java/lang/invoke/MethodHandle" ∧ y.cls ≠ "java/lang/invoke/VarHandle" ∧ (parseMethodDescriptor y.desc).map (fun d => d.parameters.length) = some n) (hRm : rm.frames + 1 ≤ R.frames ∧ 8 + (maxL + 11) + rm.locals ≤ R.locals) (hn : As.length = n) (hsz : ls.size = nL) (hst : st0 = As.reverse ++ rest) (hcat : (rest.map fun v => v.category).sum ≤ 8) (hdg : decode cc pc = .ok (.invokestatic index, 3)) (hf : cells ≤ R.cells ∧ slots ≤ R.slots)
    (kk : ∀ (u : S) (H1 : Heap) (locs1 : List Loc), post u → va_P D vwCl (Wd u) H1 → va_D A (Wd u) → va_S A H0 H1 locs1 → W p l e R s m args below meth c H1 locs1 cells slots Q (F0 m (pc + 3) ls rest)) : W p l e R s m args below meth c H locs cells slots Q (F0 m pc ls st0) :=
  have hPc := hP
  have hDc := hD
  kr0_v hD hS hA (va_runSN S0 (hM H.size) (⟨va_cnB n S0.2.2.2.2 hG hw hrc.1 hrc.2 hl hini hd hRm, hsx, trivial⟩) ⟨blind_z, fun U hU hW => ⟨rfl, by rw [hU], by rw [hU]; exact hPc, kz_warm hW hK, hDc.weaken (fun _ _ _ _ => trivial)⟩⟩ rfl hn hsz hst (lv_room hcat) hdg hf) kk
theorem kSN_v {post : S → Prop} {host : String} (S0 : CallFix p m c cc nL s args Ts own) (hK : kz D cI cC cQ s) (hP : va_P D vwCl ws H) (hD : va_D A ws) (hS : va_S A H0 H locs) (hA : ∀ q : Nat, H0.size ≤ q → A q)
    (hM : Cv l D cI cC cQ y wsy rm As wc Wd post) (hG : GoodIn Ts wsy) (hl : va_Nw (.methodLinkNest own index y host) s) (hini : (Cond.initialized y.cls).before args s = true) (hsx : (Cond.static y).before args s = true) (hw : wsy = Cond.code y bytes maxL ret :: wsy') (hrc : rm.cells = 0 ∧ rm.slots = 0) (hd : y.cls ≠ "java/lang/invoke/MethodHandle" ∧ y.cls ≠ "java/lang/invoke/VarHandle" ∧ (parseMethodDescriptor y.desc).map (fun d => d.parameters.length) = some n) (hRm : rm.frames + 1 ≤ R.frames ∧ 8 + (maxL + 11) + rm.locals ≤ R.locals) (hn : As.length = n) (hsz : ls.size = nL) (hst : st0 = As.reverse ++ rest) (hcat : (rest.map fun v => v.category).sum ≤ 8) (hdg : decode cc pc = .ok (.invokestatic index, 3)) (hf : cells ≤ R.cells ∧ slots ≤ R.slots) (isC isR : List Nat) (hC : isC.map (fun i => ws[i]?) = wc.map some) (hnC : va_nd isC = true) (hR : isR.map (fun i => ws[i]?) = wr.map some) (hnR : va_nd isR = true) (hdis : ∀ i ∈ isR, i ∉ isC)
    (kk : ∀ (u : S) (H1 : Heap) (locs1 : List Loc), post u → va_P D vwCl (wr ++ Wd u) H1 → va_D A (wr ++ Wd u) → va_S A H0 H1 locs1 → W p l e R s m args below meth c H1 locs1 cells slots Q (F0 m (pc + 3) ls rest)) : W p l e R s m args below meth c H locs cells slots Q (F0 m pc ls st0) :=
  have hPc : va_P D vwCl wc H := fun k q hk => by
    obtain ⟨i, -, h2⟩ := va_in_of isC hC hk
    exact hP i q h2
  have hDc : va_D A wc := hD.sub isC hnC hC
  kr_v hP hD hS hA isC isR hC hR hnR hdis (va_runSN S0 (hM H.size) (⟨va_cnB n S0.2.2.2.2 hG hw hrc.1 hrc.2 hl hini hd hRm, hsx, trivial⟩) ⟨blind_z, fun U hU hW => ⟨rfl, by rw [hU], by rw [hU]; exact hPc, kz_warm hW hK, hDc.weaken (fun _ _ _ _ => trivial)⟩⟩ rfl hn hsz hst (lv_room hcat) hdg hf) kk
theorem kqSN_v {post : S → Prop} {host : String} {pl : va_W} (S0 : CallFix p m c cc nL s args Ts own) (hK : kz D cI cC cQ s) (hP : va_P D vwCl (ws ++ pl) H) (hD : va_D A (ws ++ pl)) (hS : va_S A H0 H locs) (hA : ∀ q : Nat, H0.size ≤ q → A q)
    (hM : Cv l D cI cC cQ y wsy rm As wc Wd post) (hG : GoodIn Ts wsy) (hl : va_Nw (.methodLinkNest own index y host) s) (hini : (Cond.initialized y.cls).before args s = true) (hsx : (Cond.static y).before args s = true) (hw : wsy = Cond.code y bytes maxL ret :: wsy') (hrc : rm.cells = 0 ∧ rm.slots = 0) (hd : y.cls ≠ "java/lang/invoke/MethodHandle" ∧ y.cls ≠ "java/lang/invoke/VarHandle" ∧ (parseMethodDescriptor y.desc).map (fun d => d.parameters.length) = some n) (hRm : rm.frames + 1 ≤ R.frames ∧ 8 + (maxL + 11) + rm.locals ≤ R.locals) (hn : As.length = n) (hsz : ls.size = nL) (hst : st0 = As.reverse ++ rest) (hcat : (rest.map fun v => v.category).sum ≤ 8) (hdg : decode cc pc = .ok (.invokestatic index, 3)) (hf : cells ≤ R.cells ∧ slots ≤ R.slots) (isC isR : List Nat) (hC : isC.map (fun i => ws[i]?) = wc.map some) (hnC : va_nd isC = true) (hR : isR.map (fun i => ws[i]?) = wr.map some) (hnR : va_nd isR = true) (hdis : ∀ i ∈ isR, i ∉ isC)
    (kk : ∀ (u : S) (H1 : Heap) (locs1 : List Loc), post u → va_P D vwCl ((wr ++ Wd u) ++ pl) H1 → va_D A ((wr ++ Wd u) ++ pl) → va_S A H0 H1 locs1 → W p l e R s m args below meth c H1 locs1 cells slots Q (F0 m (pc + 3) ls rest)) : W p l e R s m args below meth c H locs cells slots Q (F0 m pc ls st0) :=
  have hPc : va_P D vwCl wc H := fun k q hk => by
    obtain ⟨i, -, h2⟩ := va_in_of isC hC hk
    exact hP i q (by rw [List.getElem?_append_left (List.getElem?_eq_some_iff.mp h2).1]; exact h2)
  have hDw : va_D A ws := ⟨fun i j p q h1 h2 => hD.1 i j p q (by rw [List.getElem?_append_left (List.getElem?_eq_some_iff.mp h1).1]; exact h1) (by rw [List.getElem?_append_left (List.getElem?_eq_some_iff.mp h2).1]; exact h2), fun k q h => hD.2 k q (by rw [List.getElem?_append_left (List.getElem?_eq_some_iff.mp h).1]; exact h)⟩
  have hDc : va_D A wc := hDw.sub isC hnC hC
  krq_v hP hD hS hA isC isR hC hR hnR hdis (va_runSN S0 (hM H.size) (⟨va_cnB n S0.2.2.2.2 hG hw hrc.1 hrc.2 hl hini hd hRm, hsx, trivial⟩) ⟨blind_z, fun U hU hW => ⟨rfl, by rw [hU], by rw [hU]; exact hPc, kz_warm hW hK, hDc.weaken (fun _ _ _ _ => trivial)⟩⟩ rfl hn hsz hst (lv_room hcat) hdg hf) kk
theorem kr_q {post : Option Nat → S → Prop} {a : Array Value} (hP : va_P D vwCl ws H) (hD : va_D A ws) (hS : va_S A H0 H locs) (hA : ∀ q : Nat, H0.size ≤ q → A q) (isC isR : List Nat) (hC : isC.map (fun i => ws[i]?) = wc.map some) (hR : isR.map (fun i => ws[i]?) = wr.map some) (hn : va_nd isR = true) (hdis : ∀ i ∈ isR, i ∉ isC)
    (hr : va_Run p l e R s m args below meth c H locs cells slots 0 0 (F0 m pc ls st0) rest (va_Qq post (cEnd D (va_A wc H.size) Wd) (va_A wc H.size) a) (va_A wc H.size))
    (kk : ∀ (r : Option Nat) (u : S) (H1 : Heap) (locs1 : List Loc), post r u → va_P D vwCl (wr ++ Wd u) H1 → va_D A (wr ++ Wd u) → va_S A H0 H1 locs1 → W p l e R s m args below meth c H1 locs1 cells slots Q (F0 m (pc + 3) ls (va_rf r :: rest))) : W p l e R s m args below meth c H locs cells slots Q (F0 m pc ls st0) := by
  have hF := va_free (wc := wc) hD hS hA isC hC
  refine va_callq hr hS (fun q _ h => hF q h) hF (fun r u t H1 locs1 ht hvm hw hB hz1 hk1 hS1 => ?_)
  obtain ⟨hP1, hD1⟩ := hB
  rw [ht] at hP1
  obtain ⟨hP2, hD2⟩ := va_join (wr := wr) hP hD isC isR hC hR hn hdis hk1 hF hP1 hD1
  exact kk r u H1 locs1 hw hP2 hD2 hS1
theorem kr0_q {post : Option Nat → S → Prop} {a : Array Value} (hD : va_D A wc) (hS : va_S A H0 H locs) (hA : ∀ q : Nat, H0.size ≤ q → A q)
    (hr : va_Run p l e R s m args below meth c H locs cells slots 0 0 (F0 m pc ls st0) rest (va_Qq post (cEnd D (va_A wc H.size) Wd) (va_A wc H.size) a) (va_A wc H.size))
    (kk : ∀ (r : Option Nat) (u : S) (H1 : Heap) (locs1 : List Loc), post r u → va_P D vwCl (Wd u) H1 → va_D A (Wd u) → va_S A H0 H1 locs1 → W p l e R s m args below meth c H1 locs1 cells slots Q (F0 m (pc + 3) ls (va_rf r :: rest))) : W p l e R s m args below meth c H locs cells slots Q (F0 m pc ls st0) := by
  have hF : ∀ q, va_A wc H.size q → A q := fun q h => h.elim (fun ⟨k, e, h⟩ => hD.2 k (q, e) h) (fun h => hA q (Nat.le_trans hS.1 h))
  refine va_callq hr hS (fun q _ h => hF q h) hF (fun r u t H1 locs1 ht hvm hw hB hz1 hk1 hS1 => ?_)
  obtain ⟨hP1, hD1⟩ := hB
  rw [ht] at hP1
  exact kk r u H1 locs1 hw hP1 (hD1.weaken (fun k q _ h => hF q.1 h)) hS1
theorem krq_q {post : Option Nat → S → Prop} {a : Array Value} {pl : va_W} (hP : va_P D vwCl (ws ++ pl) H) (hD : va_D A (ws ++ pl)) (hS : va_S A H0 H locs) (hA : ∀ q : Nat, H0.size ≤ q → A q) (isC isR : List Nat) (hC : isC.map (fun i => ws[i]?) = wc.map some) (hR : isR.map (fun i => ws[i]?) = wr.map some) (hn : va_nd isR = true) (hdis : ∀ i ∈ isR, i ∉ isC)
    (hr : va_Run p l e R s m args below meth c H locs cells slots 0 0 (F0 m pc ls st0) rest (va_Qq post (cEnd D (va_A wc H.size) Wd) (va_A wc H.size) a) (va_A wc H.size))
    (kk : ∀ (r : Option Nat) (u : S) (H1 : Heap) (locs1 : List Loc), post r u → va_P D vwCl ((wr ++ Wd u) ++ pl) H1 → va_D A ((wr ++ Wd u) ++ pl) → va_S A H0 H1 locs1 → W p l e R s m args below meth c H1 locs1 cells slots Q (F0 m (pc + 3) ls (va_rf r :: rest))) : W p l e R s m args below meth c H locs cells slots Q (F0 m pc ls st0) := by
  have hF : ∀ q, va_A wc H.size q → A q := fun q h => h.elim (fun ⟨k, e, h⟩ => by
    obtain ⟨i, -, h2⟩ := va_in_of isC hC h
    exact hD.2 i (q, e) (by rw [List.getElem?_append_left (List.getElem?_eq_some_iff.mp h2).1]; exact h2)) (fun h => hA q (Nat.le_trans hS.1 h))
  refine va_callq hr hS (fun q _ h => hF q h) hF (fun r u t H1 locs1 ht hvm hw hB hz1 hk1 hS1 => ?_)
  obtain ⟨hP1, hD1⟩ := hB
  rw [ht] at hP1
  obtain ⟨hP2, hD2⟩ := va_joinQ (wr := wr) hP hD isC isR hC hR hn hdis hk1 hF hP1 hD1
  exact kk r u H1 locs1 hw hP2 hD2 hS1
theorem k0V_q {post : Option Nat → S → Prop} (S0 : CallFix p m c cc nL s args Ts own) (hK : kz D cI cC cQ s) (hP : va_P D vwCl wc H) (hD : va_D A wc) (hS : va_S A H0 H locs) (hA : ∀ q : Nat, H0.size ≤ q → A q)
    (hM : Cq l D cI cC cQ y wsy rm (.ref b :: As) wc Wd post) (hG : GoodIn Ts (wsV own index C y wsy)) (hyC : y.cls = C) (hw : wsy = Cond.code y bytes maxL ret :: wsy') (hrc : rm.cells = 0 ∧ rm.slots = 0) (hd : y.cls ≠ "java/lang/invoke/MethodHandle" ∧ y.cls ≠ "java/lang/invoke/VarHandle" ∧ (parseMethodDescriptor y.desc).map (fun d => d.parameters.length) = some n) (hRm : rm.frames + 1 ≤ R.frames ∧ 8 + (maxL + 11) + rm.locals ≤ R.locals) (hq : vwCl[ci]? = some qc) (hC0 : qc.1 = C) (hb0 : wc[q0]? = some (b, .inr (ci, fs))) (hn : As.length = n) (hsz : ls.size = nL) (hst : st0 = As.reverse ++ .ref b :: rest) (hcat : (rest.map fun v => v.category).sum ≤ 8) (hdg : decode cc pc = .ok (.invokevirtual index, 3)) (hf : cells ≤ R.cells ∧ slots ≤ R.slots)
    (kk : ∀ (r : Option Nat) (u : S) (H1 : Heap) (locs1 : List Loc), post r u → va_P D vwCl (Wd u) H1 → va_D A (Wd u) → va_S A H0 H1 locs1 → W p l e R s m args below meth c H1 locs1 cells slots Q (F0 m (pc + 3) ls (va_rf r :: rest))) : W p l e R s m args below meth c H locs cells slots Q (F0 m pc ls st0) :=
  have hPc := hP
  have hDc := hD
  kr0_q hD hS hA (va_runV S0 (hM H.size) (cwV n S0.2.2.2.2 hG hw hrc.1 hrc.2 ⟨hyC, hd⟩ hRm) ⟨blind_z, by subst hC0; exact va_recv hK.1 hPc hq hb0, fun U hU hW => ⟨rfl, by rw [hU], by rw [hU]; exact hPc, kz_warm hW hK, hDc.weaken (fun _ _ _ _ => trivial)⟩⟩ rfl hn hsz hst (lv_room hcat) hdg hf) kk
theorem kV_q {post : Option Nat → S → Prop} (S0 : CallFix p m c cc nL s args Ts own) (hK : kz D cI cC cQ s) (hP : va_P D vwCl ws H) (hD : va_D A ws) (hS : va_S A H0 H locs) (hA : ∀ q : Nat, H0.size ≤ q → A q)
    (hM : Cq l D cI cC cQ y wsy rm (.ref b :: As) wc Wd post) (hG : GoodIn Ts (wsV own index C y wsy)) (hyC : y.cls = C) (hw : wsy = Cond.code y bytes maxL ret :: wsy') (hrc : rm.cells = 0 ∧ rm.slots = 0) (hd : y.cls ≠ "java/lang/invoke/MethodHandle" ∧ y.cls ≠ "java/lang/invoke/VarHandle" ∧ (parseMethodDescriptor y.desc).map (fun d => d.parameters.length) = some n) (hRm : rm.frames + 1 ≤ R.frames ∧ 8 + (maxL + 11) + rm.locals ≤ R.locals) (hq : vwCl[ci]? = some qc) (hC0 : qc.1 = C) (hb0 : wc[q0]? = some (b, .inr (ci, fs))) (hn : As.length = n) (hsz : ls.size = nL) (hst : st0 = As.reverse ++ .ref b :: rest) (hcat : (rest.map fun v => v.category).sum ≤ 8) (hdg : decode cc pc = .ok (.invokevirtual index, 3)) (hf : cells ≤ R.cells ∧ slots ≤ R.slots) (isC isR : List Nat) (hC : isC.map (fun i => ws[i]?) = wc.map some) (hnC : va_nd isC = true) (hR : isR.map (fun i => ws[i]?) = wr.map some) (hnR : va_nd isR = true) (hdis : ∀ i ∈ isR, i ∉ isC)
    (kk : ∀ (r : Option Nat) (u : S) (H1 : Heap) (locs1 : List Loc), post r u → va_P D vwCl (wr ++ Wd u) H1 → va_D A (wr ++ Wd u) → va_S A H0 H1 locs1 → W p l e R s m args below meth c H1 locs1 cells slots Q (F0 m (pc + 3) ls (va_rf r :: rest))) : W p l e R s m args below meth c H locs cells slots Q (F0 m pc ls st0) :=
  have hPc : va_P D vwCl wc H := fun k q hk => by
    obtain ⟨i, -, h2⟩ := va_in_of isC hC hk
    exact hP i q h2
  have hDc : va_D A wc := hD.sub isC hnC hC
  kr_q hP hD hS hA isC isR hC hR hnR hdis (va_runV S0 (hM H.size) (cwV n S0.2.2.2.2 hG hw hrc.1 hrc.2 ⟨hyC, hd⟩ hRm) ⟨blind_z, by subst hC0; exact va_recv hK.1 hPc hq hb0, fun U hU hW => ⟨rfl, by rw [hU], by rw [hU]; exact hPc, kz_warm hW hK, hDc.weaken (fun _ _ _ _ => trivial)⟩⟩ rfl hn hsz hst (lv_room hcat) hdg hf) kk
theorem kqV_q {post : Option Nat → S → Prop} {pl : va_W} (S0 : CallFix p m c cc nL s args Ts own) (hK : kz D cI cC cQ s) (hP : va_P D vwCl (ws ++ pl) H) (hD : va_D A (ws ++ pl)) (hS : va_S A H0 H locs) (hA : ∀ q : Nat, H0.size ≤ q → A q)
    (hM : Cq l D cI cC cQ y wsy rm (.ref b :: As) wc Wd post) (hG : GoodIn Ts (wsV own index C y wsy)) (hyC : y.cls = C) (hw : wsy = Cond.code y bytes maxL ret :: wsy') (hrc : rm.cells = 0 ∧ rm.slots = 0) (hd : y.cls ≠ "java/lang/invoke/MethodHandle" ∧ y.cls ≠ "java/lang/invoke/VarHandle" ∧ (parseMethodDescriptor y.desc).map (fun d => d.parameters.length) = some n) (hRm : rm.frames + 1 ≤ R.frames ∧ 8 + (maxL + 11) + rm.locals ≤ R.locals) (hq : vwCl[ci]? = some qc) (hC0 : qc.1 = C) (hb0 : wc[q0]? = some (b, .inr (ci, fs))) (hn : As.length = n) (hsz : ls.size = nL) (hst : st0 = As.reverse ++ .ref b :: rest) (hcat : (rest.map fun v => v.category).sum ≤ 8) (hdg : decode cc pc = .ok (.invokevirtual index, 3)) (hf : cells ≤ R.cells ∧ slots ≤ R.slots) (isC isR : List Nat) (hC : isC.map (fun i => ws[i]?) = wc.map some) (hnC : va_nd isC = true) (hR : isR.map (fun i => ws[i]?) = wr.map some) (hnR : va_nd isR = true) (hdis : ∀ i ∈ isR, i ∉ isC)
    (kk : ∀ (r : Option Nat) (u : S) (H1 : Heap) (locs1 : List Loc), post r u → va_P D vwCl ((wr ++ Wd u) ++ pl) H1 → va_D A ((wr ++ Wd u) ++ pl) → va_S A H0 H1 locs1 → W p l e R s m args below meth c H1 locs1 cells slots Q (F0 m (pc + 3) ls (va_rf r :: rest))) : W p l e R s m args below meth c H locs cells slots Q (F0 m pc ls st0) :=
  have hPc : va_P D vwCl wc H := fun k q hk => by
    obtain ⟨i, -, h2⟩ := va_in_of isC hC hk
    exact hP i q (by rw [List.getElem?_append_left (List.getElem?_eq_some_iff.mp h2).1]; exact h2)
  have hDw : va_D A ws := ⟨fun i j p q h1 h2 => hD.1 i j p q (by rw [List.getElem?_append_left (List.getElem?_eq_some_iff.mp h1).1]; exact h1) (by rw [List.getElem?_append_left (List.getElem?_eq_some_iff.mp h2).1]; exact h2), fun k q h => hD.2 k q (by rw [List.getElem?_append_left (List.getElem?_eq_some_iff.mp h).1]; exact h)⟩
  have hDc : va_D A wc := hDw.sub isC hnC hC
  krq_q hP hD hS hA isC isR hC hR hnR hdis (va_runV S0 (hM H.size) (cwV n S0.2.2.2.2 hG hw hrc.1 hrc.2 ⟨hyC, hd⟩ hRm) ⟨blind_z, by subst hC0; exact va_recv hK.1 hPc hq hb0, fun U hU hW => ⟨rfl, by rw [hU], by rw [hU]; exact hPc, kz_warm hW hK, hDc.weaken (fun _ _ _ _ => trivial)⟩⟩ rfl hn hsz hst (lv_room hcat) hdg hf) kk
theorem k0VN_q {post : Option Nat → S → Prop} {host : String} (S0 : CallFix p m c cc nL s args Ts own) (hK : kz D cI cC cQ s) (hP : va_P D vwCl wc H) (hD : va_D A wc) (hS : va_S A H0 H locs) (hA : ∀ q : Nat, H0.size ≤ q → A q)
    (hM : Cq l D cI cC cQ y wsy rm (.ref b :: As) wc Wd post) (hG : GoodIn Ts wsy) (hl : va_Nw (.methodLinkNest own index y host) s) (hini : (Cond.initialized y.cls).before args s = true) (hin : (Cond.instanceMethod y).before args s = true) (hsel : (Cond.selects C y y).before args s = true) (hw : wsy = Cond.code y bytes maxL ret :: wsy') (hrc : rm.cells = 0 ∧ rm.slots = 0) (hd : y.cls ≠ "java/lang/invoke/MethodHandle" ∧ y.cls ≠ "java/lang/invoke/VarHandle" ∧ (parseMethodDescriptor y.desc).map (fun d => d.parameters.length) = some n) (hRm : rm.frames + 1 ≤ R.frames ∧ 8 + (maxL + 11) + rm.locals ≤ R.locals) (hq : vwCl[ci]? = some qc) (hC0 : qc.1 = C) (hb0 : wc[q0]? = some (b, .inr (ci, fs))) (hn : As.length = n) (hsz : ls.size = nL) (hst : st0 = As.reverse ++ .ref b :: rest) (hcat : (rest.map fun v => v.category).sum ≤ 8) (hdg : decode cc pc = .ok (.invokevirtual index, 3)) (hf : cells ≤ R.cells ∧ slots ≤ R.slots)
    (kk : ∀ (r : Option Nat) (u : S) (H1 : Heap) (locs1 : List Loc), post r u → va_P D vwCl (Wd u) H1 → va_D A (Wd u) → va_S A H0 H1 locs1 → W p l e R s m args below meth c H1 locs1 cells slots Q (F0 m (pc + 3) ls (va_rf r :: rest))) : W p l e R s m args below meth c H locs cells slots Q (F0 m pc ls st0) :=
  have hPc := hP
  have hDc := hD
  kr0_q hD hS hA (va_runVN S0 (hM H.size) (⟨va_cnB n S0.2.2.2.2 hG hw hrc.1 hrc.2 hl hini hd hRm, hin, hsel⟩) ⟨blind_z, by subst hC0; exact va_recv hK.1 hPc hq hb0, fun U hU hW => ⟨rfl, by rw [hU], by rw [hU]; exact hPc, kz_warm hW hK, hDc.weaken (fun _ _ _ _ => trivial)⟩⟩ rfl hn hsz hst (lv_room hcat) hdg hf) kk
theorem kVN_q {post : Option Nat → S → Prop} {host : String} (S0 : CallFix p m c cc nL s args Ts own) (hK : kz D cI cC cQ s) (hP : va_P D vwCl ws H) (hD : va_D A ws) (hS : va_S A H0 H locs) (hA : ∀ q : Nat, H0.size ≤ q → A q)
    (hM : Cq l D cI cC cQ y wsy rm (.ref b :: As) wc Wd post) (hG : GoodIn Ts wsy) (hl : va_Nw (.methodLinkNest own index y host) s) (hini : (Cond.initialized y.cls).before args s = true) (hin : (Cond.instanceMethod y).before args s = true) (hsel : (Cond.selects C y y).before args s = true) (hw : wsy = Cond.code y bytes maxL ret :: wsy') (hrc : rm.cells = 0 ∧ rm.slots = 0) (hd : y.cls ≠ "java/lang/invoke/MethodHandle" ∧ y.cls ≠ "java/lang/invoke/VarHandle" ∧ (parseMethodDescriptor y.desc).map (fun d => d.parameters.length) = some n) (hRm : rm.frames + 1 ≤ R.frames ∧ 8 + (maxL + 11) + rm.locals ≤ R.locals) (hq : vwCl[ci]? = some qc) (hC0 : qc.1 = C) (hb0 : wc[q0]? = some (b, .inr (ci, fs))) (hn : As.length = n) (hsz : ls.size = nL) (hst : st0 = As.reverse ++ .ref b :: rest) (hcat : (rest.map fun v => v.category).sum ≤ 8) (hdg : decode cc pc = .ok (.invokevirtual index, 3)) (hf : cells ≤ R.cells ∧ slots ≤ R.slots) (isC isR : List Nat) (hC : isC.map (fun i => ws[i]?) = wc.map some) (hnC : va_nd isC = true) (hR : isR.map (fun i => ws[i]?) = wr.map some) (hnR : va_nd isR = true) (hdis : ∀ i ∈ isR, i ∉ isC)
    (kk : ∀ (r : Option Nat) (u : S) (H1 : Heap) (locs1 : List Loc), post r u → va_P D vwCl (wr ++ Wd u) H1 → va_D A (wr ++ Wd u) → va_S A H0 H1 locs1 → W p l e R s m args below meth c H1 locs1 cells slots Q (F0 m (pc + 3) ls (va_rf r :: rest))) : W p l e R s m args below meth c H locs cells slots Q (F0 m pc ls st0) :=
  have hPc : va_P D vwCl wc H := fun k q hk => by
    obtain ⟨i, -, h2⟩ := va_in_of isC hC hk
    exact hP i q h2
  have hDc : va_D A wc := hD.sub isC hnC hC
  kr_q hP hD hS hA isC isR hC hR hnR hdis (va_runVN S0 (hM H.size) (⟨va_cnB n S0.2.2.2.2 hG hw hrc.1 hrc.2 hl hini hd hRm, hin, hsel⟩) ⟨blind_z, by subst hC0; exact va_recv hK.1 hPc hq hb0, fun U hU hW => ⟨rfl, by rw [hU], by rw [hU]; exact hPc, kz_warm hW hK, hDc.weaken (fun _ _ _ _ => trivial)⟩⟩ rfl hn hsz hst (lv_room hcat) hdg hf) kk
theorem kqVN_q {post : Option Nat → S → Prop} {host : String} {pl : va_W} (S0 : CallFix p m c cc nL s args Ts own) (hK : kz D cI cC cQ s) (hP : va_P D vwCl (ws ++ pl) H) (hD : va_D A (ws ++ pl)) (hS : va_S A H0 H locs) (hA : ∀ q : Nat, H0.size ≤ q → A q)
    (hM : Cq l D cI cC cQ y wsy rm (.ref b :: As) wc Wd post) (hG : GoodIn Ts wsy) (hl : va_Nw (.methodLinkNest own index y host) s) (hini : (Cond.initialized y.cls).before args s = true) (hin : (Cond.instanceMethod y).before args s = true) (hsel : (Cond.selects C y y).before args s = true) (hw : wsy = Cond.code y bytes maxL ret :: wsy') (hrc : rm.cells = 0 ∧ rm.slots = 0) (hd : y.cls ≠ "java/lang/invoke/MethodHandle" ∧ y.cls ≠ "java/lang/invoke/VarHandle" ∧ (parseMethodDescriptor y.desc).map (fun d => d.parameters.length) = some n) (hRm : rm.frames + 1 ≤ R.frames ∧ 8 + (maxL + 11) + rm.locals ≤ R.locals) (hq : vwCl[ci]? = some qc) (hC0 : qc.1 = C) (hb0 : wc[q0]? = some (b, .inr (ci, fs))) (hn : As.length = n) (hsz : ls.size = nL) (hst : st0 = As.reverse ++ .ref b :: rest) (hcat : (rest.map fun v => v.category).sum ≤ 8) (hdg : decode cc pc = .ok (.invokevirtual index, 3)) (hf : cells ≤ R.cells ∧ slots ≤ R.slots) (isC isR : List Nat) (hC : isC.map (fun i => ws[i]?) = wc.map some) (hnC : va_nd isC = true) (hR : isR.map (fun i => ws[i]?) = wr.map some) (hnR : va_nd isR = true) (hdis : ∀ i ∈ isR, i ∉ isC)
    (kk : ∀ (r : Option Nat) (u : S) (H1 : Heap) (locs1 : List Loc), post r u → va_P D vwCl ((wr ++ Wd u) ++ pl) H1 → va_D A ((wr ++ Wd u) ++ pl) → va_S A H0 H1 locs1 → W p l e R s m args below meth c H1 locs1 cells slots Q (F0 m (pc + 3) ls (va_rf r :: rest))) : W p l e R s m args below meth c H locs cells slots Q (F0 m pc ls st0) :=
  have hPc : va_P D vwCl wc H := fun k q hk => by
    obtain ⟨i, -, h2⟩ := va_in_of isC hC hk
    exact hP i q (by rw [List.getElem?_append_left (List.getElem?_eq_some_iff.mp h2).1]; exact h2)
  have hDw : va_D A ws := ⟨fun i j p q h1 h2 => hD.1 i j p q (by rw [List.getElem?_append_left (List.getElem?_eq_some_iff.mp h1).1]; exact h1) (by rw [List.getElem?_append_left (List.getElem?_eq_some_iff.mp h2).1]; exact h2), fun k q h => hD.2 k q (by rw [List.getElem?_append_left (List.getElem?_eq_some_iff.mp h).1]; exact h)⟩
  have hDc : va_D A wc := hDw.sub isC hnC hC
  krq_q hP hD hS hA isC isR hC hR hnR hdis (va_runVN S0 (hM H.size) (⟨va_cnB n S0.2.2.2.2 hG hw hrc.1 hrc.2 hl hini hd hRm, hin, hsel⟩) ⟨blind_z, by subst hC0; exact va_recv hK.1 hPc hq hb0, fun U hU hW => ⟨rfl, by rw [hU], by rw [hU]; exact hPc, kz_warm hW hK, hDc.weaken (fun _ _ _ _ => trivial)⟩⟩ rfl hn hsz hst (lv_room hcat) hdg hf) kk
theorem k0S_q {post : Option Nat → S → Prop} (S0 : CallFix p m c cc nL s args Ts own) (hK : kz D cI cC cQ s) (hP : va_P D vwCl wc H) (hD : va_D A wc) (hS : va_S A H0 H locs) (hA : ∀ q : Nat, H0.size ≤ q → A q)
    (hM : Cq l D cI cC cQ y wsy rm As wc Wd post) (hG : GoodIn Ts (va_wsS own index y wsy)) (hw : wsy = Cond.code y bytes maxL ret :: wsy') (hrc : rm.cells = 0 ∧ rm.slots = 0) (hd : y.cls ≠ "java/lang/invoke/MethodHandle" ∧ y.cls ≠ "java/lang/invoke/VarHandle" ∧ (parseMethodDescriptor y.desc).map (fun d => d.parameters.length) = some n) (hRm : rm.frames + 1 ≤ R.frames ∧ 8 + (maxL + 11) + rm.locals ≤ R.locals) (hn : As.length = n) (hsz : ls.size = nL) (hst : st0 = As.reverse ++ rest) (hcat : (rest.map fun v => v.category).sum ≤ 8) (hdg : decode cc pc = .ok (.invokestatic index, 3)) (hf : cells ≤ R.cells ∧ slots ≤ R.slots)
    (kk : ∀ (r : Option Nat) (u : S) (H1 : Heap) (locs1 : List Loc), post r u → va_P D vwCl (Wd u) H1 → va_D A (Wd u) → va_S A H0 H1 locs1 → W p l e R s m args below meth c H1 locs1 cells slots Q (F0 m (pc + 3) ls (va_rf r :: rest))) : W p l e R s m args below meth c H locs cells slots Q (F0 m pc ls st0) :=
  have hPc := hP
  have hDc := hD
  kr0_q hD hS hA (va_runS S0 (hM H.size) (va_cwS n S0.2.2.2.2 hG hw hrc.1 hrc.2 hd hRm) ⟨blind_z, fun U hU hW => ⟨rfl, by rw [hU], by rw [hU]; exact hPc, kz_warm hW hK, hDc.weaken (fun _ _ _ _ => trivial)⟩⟩ rfl hn hsz hst (lv_room hcat) hdg hf) kk
theorem kS_q {post : Option Nat → S → Prop} (S0 : CallFix p m c cc nL s args Ts own) (hK : kz D cI cC cQ s) (hP : va_P D vwCl ws H) (hD : va_D A ws) (hS : va_S A H0 H locs) (hA : ∀ q : Nat, H0.size ≤ q → A q)
    (hM : Cq l D cI cC cQ y wsy rm As wc Wd post) (hG : GoodIn Ts (va_wsS own index y wsy)) (hw : wsy = Cond.code y bytes maxL ret :: wsy') (hrc : rm.cells = 0 ∧ rm.slots = 0) (hd : y.cls ≠ "java/lang/invoke/MethodHandle" ∧ y.cls ≠ "java/lang/invoke/VarHandle" ∧ (parseMethodDescriptor y.desc).map (fun d => d.parameters.length) = some n) (hRm : rm.frames + 1 ≤ R.frames ∧ 8 + (maxL + 11) + rm.locals ≤ R.locals) (hn : As.length = n) (hsz : ls.size = nL) (hst : st0 = As.reverse ++ rest) (hcat : (rest.map fun v => v.category).sum ≤ 8) (hdg : decode cc pc = .ok (.invokestatic index, 3)) (hf : cells ≤ R.cells ∧ slots ≤ R.slots) (isC isR : List Nat) (hC : isC.map (fun i => ws[i]?) = wc.map some) (hnC : va_nd isC = true) (hR : isR.map (fun i => ws[i]?) = wr.map some) (hnR : va_nd isR = true) (hdis : ∀ i ∈ isR, i ∉ isC)
    (kk : ∀ (r : Option Nat) (u : S) (H1 : Heap) (locs1 : List Loc), post r u → va_P D vwCl (wr ++ Wd u) H1 → va_D A (wr ++ Wd u) → va_S A H0 H1 locs1 → W p l e R s m args below meth c H1 locs1 cells slots Q (F0 m (pc + 3) ls (va_rf r :: rest))) : W p l e R s m args below meth c H locs cells slots Q (F0 m pc ls st0) :=
  have hPc : va_P D vwCl wc H := fun k q hk => by
    obtain ⟨i, -, h2⟩ := va_in_of isC hC hk
    exact hP i q h2
  have hDc : va_D A wc := hD.sub isC hnC hC
  kr_q hP hD hS hA isC isR hC hR hnR hdis (va_runS S0 (hM H.size) (va_cwS n S0.2.2.2.2 hG hw hrc.1 hrc.2 hd hRm) ⟨blind_z, fun U hU hW => ⟨rfl, by rw [hU], by rw [hU]; exact hPc, kz_warm hW hK, hDc.weaken (fun _ _ _ _ => trivial)⟩⟩ rfl hn hsz hst (lv_room hcat) hdg hf) kk
theorem kqS_q {post : Option Nat → S → Prop} {pl : va_W} (S0 : CallFix p m c cc nL s args Ts own) (hK : kz D cI cC cQ s) (hP : va_P D vwCl (ws ++ pl) H) (hD : va_D A (ws ++ pl)) (hS : va_S A H0 H locs) (hA : ∀ q : Nat, H0.size ≤ q → A q)
    (hM : Cq l D cI cC cQ y wsy rm As wc Wd post) (hG : GoodIn Ts (va_wsS own index y wsy)) (hw : wsy = Cond.code y bytes maxL ret :: wsy') (hrc : rm.cells = 0 ∧ rm.slots = 0) (hd : y.cls ≠ "java/lang/invoke/MethodHandle" ∧ y.cls ≠ "java/lang/invoke/VarHandle" ∧ (parseMethodDescriptor y.desc).map (fun d => d.parameters.length) = some n) (hRm : rm.frames + 1 ≤ R.frames ∧ 8 + (maxL + 11) + rm.locals ≤ R.locals) (hn : As.length = n) (hsz : ls.size = nL) (hst : st0 = As.reverse ++ rest) (hcat : (rest.map fun v => v.category).sum ≤ 8) (hdg : decode cc pc = .ok (.invokestatic index, 3)) (hf : cells ≤ R.cells ∧ slots ≤ R.slots) (isC isR : List Nat) (hC : isC.map (fun i => ws[i]?) = wc.map some) (hnC : va_nd isC = true) (hR : isR.map (fun i => ws[i]?) = wr.map some) (hnR : va_nd isR = true) (hdis : ∀ i ∈ isR, i ∉ isC)
    (kk : ∀ (r : Option Nat) (u : S) (H1 : Heap) (locs1 : List Loc), post r u → va_P D vwCl ((wr ++ Wd u) ++ pl) H1 → va_D A ((wr ++ Wd u) ++ pl) → va_S A H0 H1 locs1 → W p l e R s m args below meth c H1 locs1 cells slots Q (F0 m (pc + 3) ls (va_rf r :: rest))) : W p l e R s m args below meth c H locs cells slots Q (F0 m pc ls st0) :=
  have hPc : va_P D vwCl wc H := fun k q hk => by
    obtain ⟨i, -, h2⟩ := va_in_of isC hC hk
    exact hP i q (by rw [List.getElem?_append_left (List.getElem?_eq_some_iff.mp h2).1]; exact h2)
  have hDw : va_D A ws := ⟨fun i j p q h1 h2 => hD.1 i j p q (by rw [List.getElem?_append_left (List.getElem?_eq_some_iff.mp h1).1]; exact h1) (by rw [List.getElem?_append_left (List.getElem?_eq_some_iff.mp h2).1]; exact h2), fun k q h => hD.2 k q (by rw [List.getElem?_append_left (List.getElem?_eq_some_iff.mp h).1]; exact h)⟩
  have hDc : va_D A wc := hDw.sub isC hnC hC
  krq_q hP hD hS hA isC isR hC hR hnR hdis (va_runS S0 (hM H.size) (va_cwS n S0.2.2.2.2 hG hw hrc.1 hrc.2 hd hRm) ⟨blind_z, fun U hU hW => ⟨rfl, by rw [hU], by rw [hU]; exact hPc, kz_warm hW hK, hDc.weaken (fun _ _ _ _ => trivial)⟩⟩ rfl hn hsz hst (lv_room hcat) hdg hf) kk
theorem k0SN_q {post : Option Nat → S → Prop} {host : String} (S0 : CallFix p m c cc nL s args Ts own) (hK : kz D cI cC cQ s) (hP : va_P D vwCl wc H) (hD : va_D A wc) (hS : va_S A H0 H locs) (hA : ∀ q : Nat, H0.size ≤ q → A q)
    (hM : Cq l D cI cC cQ y wsy rm As wc Wd post) (hG : GoodIn Ts wsy) (hl : va_Nw (.methodLinkNest own index y host) s) (hini : (Cond.initialized y.cls).before args s = true) (hsx : (Cond.static y).before args s = true) (hw : wsy = Cond.code y bytes maxL ret :: wsy') (hrc : rm.cells = 0 ∧ rm.slots = 0) (hd : y.cls ≠ "java/lang/invoke/MethodHandle" ∧ y.cls ≠ "java/lang/invoke/VarHandle" ∧ (parseMethodDescriptor y.desc).map (fun d => d.parameters.length) = some n) (hRm : rm.frames + 1 ≤ R.frames ∧ 8 + (maxL + 11) + rm.locals ≤ R.locals) (hn : As.length = n) (hsz : ls.size = nL) (hst : st0 = As.reverse ++ rest) (hcat : (rest.map fun v => v.category).sum ≤ 8) (hdg : decode cc pc = .ok (.invokestatic index, 3)) (hf : cells ≤ R.cells ∧ slots ≤ R.slots)
    (kk : ∀ (r : Option Nat) (u : S) (H1 : Heap) (locs1 : List Loc), post r u → va_P D vwCl (Wd u) H1 → va_D A (Wd u) → va_S A H0 H1 locs1 → W p l e R s m args below meth c H1 locs1 cells slots Q (F0 m (pc + 3) ls (va_rf r :: rest))) : W p l e R s m args below meth c H locs cells slots Q (F0 m pc ls st0) :=
  have hPc := hP
  have hDc := hD
  kr0_q hD hS hA (va_runSN S0 (hM H.size) (⟨va_cnB n S0.2.2.2.2 hG hw hrc.1 hrc.2 hl hini hd hRm, hsx, trivial⟩) ⟨blind_z, fun U hU hW => ⟨rfl, by rw [hU], by rw [hU]; exact hPc, kz_warm hW hK, hDc.weaken (fun _ _ _ _ => trivial)⟩⟩ rfl hn hsz hst (lv_room hcat) hdg hf) kk
theorem kSN_q {post : Option Nat → S → Prop} {host : String} (S0 : CallFix p m c cc nL s args Ts own) (hK : kz D cI cC cQ s) (hP : va_P D vwCl ws H) (hD : va_D A ws) (hS : va_S A H0 H locs) (hA : ∀ q : Nat, H0.size ≤ q → A q)
    (hM : Cq l D cI cC cQ y wsy rm As wc Wd post) (hG : GoodIn Ts wsy) (hl : va_Nw (.methodLinkNest own index y host) s) (hini : (Cond.initialized y.cls).before args s = true) (hsx : (Cond.static y).before args s = true) (hw : wsy = Cond.code y bytes maxL ret :: wsy') (hrc : rm.cells = 0 ∧ rm.slots = 0) (hd : y.cls ≠ "java/lang/invoke/MethodHandle" ∧ y.cls ≠ "java/lang/invoke/VarHandle" ∧ (parseMethodDescriptor y.desc).map (fun d => d.parameters.length) = some n) (hRm : rm.frames + 1 ≤ R.frames ∧ 8 + (maxL + 11) + rm.locals ≤ R.locals) (hn : As.length = n) (hsz : ls.size = nL) (hst : st0 = As.reverse ++ rest) (hcat : (rest.map fun v => v.category).sum ≤ 8) (hdg : decode cc pc = .ok (.invokestatic index, 3)) (hf : cells ≤ R.cells ∧ slots ≤ R.slots) (isC isR : List Nat) (hC : isC.map (fun i => ws[i]?) = wc.map some) (hnC : va_nd isC = true) (hR : isR.map (fun i => ws[i]?) = wr.map some) (hnR : va_nd isR = true) (hdis : ∀ i ∈ isR, i ∉ isC)
    (kk : ∀ (r : Option Nat) (u : S) (H1 : Heap) (locs1 : List Loc), post r u → va_P D vwCl (wr ++ Wd u) H1 → va_D A (wr ++ Wd u) → va_S A H0 H1 locs1 → W p l e R s m args below meth c H1 locs1 cells slots Q (F0 m (pc + 3) ls (va_rf r :: rest))) : W p l e R s m args below meth c H locs cells slots Q (F0 m pc ls st0) :=
  have hPc : va_P D vwCl wc H := fun k q hk => by
    obtain ⟨i, -, h2⟩ := va_in_of isC hC hk
    exact hP i q h2
  have hDc : va_D A wc := hD.sub isC hnC hC
  kr_q hP hD hS hA isC isR hC hR hnR hdis (va_runSN S0 (hM H.size) (⟨va_cnB n S0.2.2.2.2 hG hw hrc.1 hrc.2 hl hini hd hRm, hsx, trivial⟩) ⟨blind_z, fun U hU hW => ⟨rfl, by rw [hU], by rw [hU]; exact hPc, kz_warm hW hK, hDc.weaken (fun _ _ _ _ => trivial)⟩⟩ rfl hn hsz hst (lv_room hcat) hdg hf) kk
theorem kqSN_q {post : Option Nat → S → Prop} {host : String} {pl : va_W} (S0 : CallFix p m c cc nL s args Ts own) (hK : kz D cI cC cQ s) (hP : va_P D vwCl (ws ++ pl) H) (hD : va_D A (ws ++ pl)) (hS : va_S A H0 H locs) (hA : ∀ q : Nat, H0.size ≤ q → A q)
    (hM : Cq l D cI cC cQ y wsy rm As wc Wd post) (hG : GoodIn Ts wsy) (hl : va_Nw (.methodLinkNest own index y host) s) (hini : (Cond.initialized y.cls).before args s = true) (hsx : (Cond.static y).before args s = true) (hw : wsy = Cond.code y bytes maxL ret :: wsy') (hrc : rm.cells = 0 ∧ rm.slots = 0) (hd : y.cls ≠ "java/lang/invoke/MethodHandle" ∧ y.cls ≠ "java/lang/invoke/VarHandle" ∧ (parseMethodDescriptor y.desc).map (fun d => d.parameters.length) = some n) (hRm : rm.frames + 1 ≤ R.frames ∧ 8 + (maxL + 11) + rm.locals ≤ R.locals) (hn : As.length = n) (hsz : ls.size = nL) (hst : st0 = As.reverse ++ rest) (hcat : (rest.map fun v => v.category).sum ≤ 8) (hdg : decode cc pc = .ok (.invokestatic index, 3)) (hf : cells ≤ R.cells ∧ slots ≤ R.slots) (isC isR : List Nat) (hC : isC.map (fun i => ws[i]?) = wc.map some) (hnC : va_nd isC = true) (hR : isR.map (fun i => ws[i]?) = wr.map some) (hnR : va_nd isR = true) (hdis : ∀ i ∈ isR, i ∉ isC)
    (kk : ∀ (r : Option Nat) (u : S) (H1 : Heap) (locs1 : List Loc), post r u → va_P D vwCl ((wr ++ Wd u) ++ pl) H1 → va_D A ((wr ++ Wd u) ++ pl) → va_S A H0 H1 locs1 → W p l e R s m args below meth c H1 locs1 cells slots Q (F0 m (pc + 3) ls (va_rf r :: rest))) : W p l e R s m args below meth c H locs cells slots Q (F0 m pc ls st0) :=
  have hPc : va_P D vwCl wc H := fun k q hk => by
    obtain ⟨i, -, h2⟩ := va_in_of isC hC hk
    exact hP i q (by rw [List.getElem?_append_left (List.getElem?_eq_some_iff.mp h2).1]; exact h2)
  have hDw : va_D A ws := ⟨fun i j p q h1 h2 => hD.1 i j p q (by rw [List.getElem?_append_left (List.getElem?_eq_some_iff.mp h1).1]; exact h1) (by rw [List.getElem?_append_left (List.getElem?_eq_some_iff.mp h2).1]; exact h2), fun k q h => hD.2 k q (by rw [List.getElem?_append_left (List.getElem?_eq_some_iff.mp h).1]; exact h)⟩
  have hDc : va_D A wc := hDw.sub isC hnC hC
  krq_q hP hD hS hA isC isR hC hR hnR hdis (va_runSN S0 (hM H.size) (⟨va_cnB n S0.2.2.2.2 hG hw hrc.1 hrc.2 hl hini hd hRm, hsx, trivial⟩) ⟨blind_z, fun U hU hW => ⟨rfl, by rw [hU], by rw [hU]; exact hPc, kz_warm hW hK, hDc.weaken (fun _ _ _ _ => trivial)⟩⟩ rfl hn hsz hst (lv_room hcat) hdg hf) kk
end KC
theorem sw_2 (x : Int32) : (x.toInt < 0 ∨ 2 < x.toInt) ∨ x = 0 ∨ x = 1 ∨ x = 2 := by
  have key : ∀ k : Int32, x.toInt = k.toInt → x = k := fun k h => Int32.toInt_inj.mp h
  by_cases h0 : x.toInt < 0
  · exact Or.inl (Or.inl h0)
  by_cases h1 : 2 < x.toInt
  · exact Or.inl (Or.inr h1)
  have h2 : x.toInt = 0 ∨ x.toInt = 1 ∨ x.toInt = 2 := by omega
  rcases h2 with h | h | h
  · exact Or.inr (Or.inl (key 0 h))
  · exact Or.inr (Or.inr (Or.inl (key 1 h)))
  · exact Or.inr (Or.inr (Or.inr ((key 2 h))))
theorem sw_3 (x : Int32) : (x.toInt < 0 ∨ 3 < x.toInt) ∨ x = 0 ∨ x = 1 ∨ x = 2 ∨ x = 3 := by
  have key : ∀ k : Int32, x.toInt = k.toInt → x = k := fun k h => Int32.toInt_inj.mp h
  by_cases h0 : x.toInt < 0
  · exact Or.inl (Or.inl h0)
  by_cases h1 : 3 < x.toInt
  · exact Or.inl (Or.inr h1)
  have h2 : x.toInt = 0 ∨ x.toInt = 1 ∨ x.toInt = 2 ∨ x.toInt = 3 := by omega
  rcases h2 with h | h | h | h
  · exact Or.inr (Or.inl (key 0 h))
  · exact Or.inr (Or.inr (Or.inl (key 1 h)))
  · exact Or.inr (Or.inr (Or.inr (Or.inl (key 2 h))))
  · exact Or.inr (Or.inr (Or.inr (Or.inr ((key 3 h)))))
theorem sw_4 (x : Int32) : (x.toInt < 0 ∨ 4 < x.toInt) ∨ x = 0 ∨ x = 1 ∨ x = 2 ∨ x = 3 ∨ x = 4 := by
  have key : ∀ k : Int32, x.toInt = k.toInt → x = k := fun k h => Int32.toInt_inj.mp h
  by_cases h0 : x.toInt < 0
  · exact Or.inl (Or.inl h0)
  by_cases h1 : 4 < x.toInt
  · exact Or.inl (Or.inr h1)
  have h2 : x.toInt = 0 ∨ x.toInt = 1 ∨ x.toInt = 2 ∨ x.toInt = 3 ∨ x.toInt = 4 := by omega
  rcases h2 with h | h | h | h | h
  · exact Or.inr (Or.inl (key 0 h))
  · exact Or.inr (Or.inr (Or.inl (key 1 h)))
  · exact Or.inr (Or.inr (Or.inr (Or.inl (key 2 h))))
  · exact Or.inr (Or.inr (Or.inr (Or.inr (Or.inl (key 3 h)))))
  · exact Or.inr (Or.inr (Or.inr (Or.inr (Or.inr ((key 4 h))))))
theorem sw_8 (x : Int32) : (x.toInt < 0 ∨ 8 < x.toInt) ∨ x = 0 ∨ x = 1 ∨ x = 2 ∨ x = 3 ∨ x = 4 ∨ x = 5 ∨ x = 6 ∨ x = 7 ∨ x = 8 := by
  have key : ∀ k : Int32, x.toInt = k.toInt → x = k := fun k h => Int32.toInt_inj.mp h
  by_cases h0 : x.toInt < 0
  · exact Or.inl (Or.inl h0)
  by_cases h1 : 8 < x.toInt
  · exact Or.inl (Or.inr h1)
  have h2 : x.toInt = 0 ∨ x.toInt = 1 ∨ x.toInt = 2 ∨ x.toInt = 3 ∨ x.toInt = 4 ∨ x.toInt = 5 ∨ x.toInt = 6 ∨ x.toInt = 7 ∨ x.toInt = 8 := by omega
  rcases h2 with h | h | h | h | h | h | h | h | h
  · exact Or.inr (Or.inl (key 0 h))
  · exact Or.inr (Or.inr (Or.inl (key 1 h)))
  · exact Or.inr (Or.inr (Or.inr (Or.inl (key 2 h))))
  · exact Or.inr (Or.inr (Or.inr (Or.inr (Or.inl (key 3 h)))))
  · exact Or.inr (Or.inr (Or.inr (Or.inr (Or.inr (Or.inl (key 4 h))))))
  · exact Or.inr (Or.inr (Or.inr (Or.inr (Or.inr (Or.inr (Or.inl (key 5 h)))))))
  · exact Or.inr (Or.inr (Or.inr (Or.inr (Or.inr (Or.inr (Or.inr (Or.inl (key 6 h))))))))
  · exact Or.inr (Or.inr (Or.inr (Or.inr (Or.inr (Or.inr (Or.inr (Or.inr (Or.inl (key 7 h)))))))))
  · exact Or.inr (Or.inr (Or.inr (Or.inr (Or.inr (Or.inr (Or.inr (Or.inr (Or.inr ((key 8 h))))))))))
theorem sw_28 (x : Int32) : (x.toInt < 0 ∨ 28 < x.toInt) ∨ x = 0 ∨ x = 1 ∨ x = 2 ∨ x = 3 ∨ x = 4 ∨ x = 5 ∨ x = 6 ∨ x = 7 ∨ x = 8 ∨ x = 9 ∨ x = 10 ∨ x = 11 ∨ x = 12 ∨ x = 13 ∨ x = 14 ∨ x = 15 ∨ x = 16 ∨ x = 17 ∨ x = 18 ∨ x = 19 ∨ x = 20 ∨ x = 21 ∨ x = 22 ∨ x = 23 ∨ x = 24 ∨ x = 25 ∨ x = 26 ∨ x = 27 ∨ x = 28 := by
  have key : ∀ k : Int32, x.toInt = k.toInt → x = k := fun k h => Int32.toInt_inj.mp h
  by_cases h0 : x.toInt < 0
  · exact Or.inl (Or.inl h0)
  by_cases h1 : 28 < x.toInt
  · exact Or.inl (Or.inr h1)
  have h2 : x.toInt = 0 ∨ x.toInt = 1 ∨ x.toInt = 2 ∨ x.toInt = 3 ∨ x.toInt = 4 ∨ x.toInt = 5 ∨ x.toInt = 6 ∨ x.toInt = 7 ∨ x.toInt = 8 ∨ x.toInt = 9 ∨ x.toInt = 10 ∨ x.toInt = 11 ∨ x.toInt = 12 ∨ x.toInt = 13 ∨ x.toInt = 14 ∨ x.toInt = 15 ∨ x.toInt = 16 ∨ x.toInt = 17 ∨ x.toInt = 18 ∨ x.toInt = 19 ∨ x.toInt = 20 ∨ x.toInt = 21 ∨ x.toInt = 22 ∨ x.toInt = 23 ∨ x.toInt = 24 ∨ x.toInt = 25 ∨ x.toInt = 26 ∨ x.toInt = 27 ∨ x.toInt = 28 := by omega
  rcases h2 with h | h | h | h | h | h | h | h | h | h | h | h | h | h | h | h | h | h | h | h | h | h | h | h | h | h | h | h | h
  · exact Or.inr (Or.inl (key 0 h))
  · exact Or.inr (Or.inr (Or.inl (key 1 h)))
  · exact Or.inr (Or.inr (Or.inr (Or.inl (key 2 h))))
  · exact Or.inr (Or.inr (Or.inr (Or.inr (Or.inl (key 3 h)))))
  · exact Or.inr (Or.inr (Or.inr (Or.inr (Or.inr (Or.inl (key 4 h))))))
  · exact Or.inr (Or.inr (Or.inr (Or.inr (Or.inr (Or.inr (Or.inl (key 5 h)))))))
  · exact Or.inr (Or.inr (Or.inr (Or.inr (Or.inr (Or.inr (Or.inr (Or.inl (key 6 h))))))))
  · exact Or.inr (Or.inr (Or.inr (Or.inr (Or.inr (Or.inr (Or.inr (Or.inr (Or.inl (key 7 h)))))))))
  · exact Or.inr (Or.inr (Or.inr (Or.inr (Or.inr (Or.inr (Or.inr (Or.inr (Or.inr (Or.inl (key 8 h))))))))))
  · exact Or.inr (Or.inr (Or.inr (Or.inr (Or.inr (Or.inr (Or.inr (Or.inr (Or.inr (Or.inr (Or.inl (key 9 h)))))))))))
  · exact Or.inr (Or.inr (Or.inr (Or.inr (Or.inr (Or.inr (Or.inr (Or.inr (Or.inr (Or.inr (Or.inr (Or.inl (key 10 h))))))))))))
  · exact Or.inr (Or.inr (Or.inr (Or.inr (Or.inr (Or.inr (Or.inr (Or.inr (Or.inr (Or.inr (Or.inr (Or.inr (Or.inl (key 11 h)))))))))))))
  · exact Or.inr (Or.inr (Or.inr (Or.inr (Or.inr (Or.inr (Or.inr (Or.inr (Or.inr (Or.inr (Or.inr (Or.inr (Or.inr (Or.inl (key 12 h))))))))))))))
  · exact Or.inr (Or.inr (Or.inr (Or.inr (Or.inr (Or.inr (Or.inr (Or.inr (Or.inr (Or.inr (Or.inr (Or.inr (Or.inr (Or.inr (Or.inl (key 13 h)))))))))))))))
  · exact Or.inr (Or.inr (Or.inr (Or.inr (Or.inr (Or.inr (Or.inr (Or.inr (Or.inr (Or.inr (Or.inr (Or.inr (Or.inr (Or.inr (Or.inr (Or.inl (key 14 h))))))))))))))))
  · exact Or.inr (Or.inr (Or.inr (Or.inr (Or.inr (Or.inr (Or.inr (Or.inr (Or.inr (Or.inr (Or.inr (Or.inr (Or.inr (Or.inr (Or.inr (Or.inr (Or.inl (key 15 h)))))))))))))))))
  · exact Or.inr (Or.inr (Or.inr (Or.inr (Or.inr (Or.inr (Or.inr (Or.inr (Or.inr (Or.inr (Or.inr (Or.inr (Or.inr (Or.inr (Or.inr (Or.inr (Or.inr (Or.inl (key 16 h))))))))))))))))))
  · exact Or.inr (Or.inr (Or.inr (Or.inr (Or.inr (Or.inr (Or.inr (Or.inr (Or.inr (Or.inr (Or.inr (Or.inr (Or.inr (Or.inr (Or.inr (Or.inr (Or.inr (Or.inr (Or.inl (key 17 h)))))))))))))))))))
  · exact Or.inr (Or.inr (Or.inr (Or.inr (Or.inr (Or.inr (Or.inr (Or.inr (Or.inr (Or.inr (Or.inr (Or.inr (Or.inr (Or.inr (Or.inr (Or.inr (Or.inr (Or.inr (Or.inr (Or.inl (key 18 h))))))))))))))))))))
  · exact Or.inr (Or.inr (Or.inr (Or.inr (Or.inr (Or.inr (Or.inr (Or.inr (Or.inr (Or.inr (Or.inr (Or.inr (Or.inr (Or.inr (Or.inr (Or.inr (Or.inr (Or.inr (Or.inr (Or.inr (Or.inl (key 19 h)))))))))))))))))))))
  · exact Or.inr (Or.inr (Or.inr (Or.inr (Or.inr (Or.inr (Or.inr (Or.inr (Or.inr (Or.inr (Or.inr (Or.inr (Or.inr (Or.inr (Or.inr (Or.inr (Or.inr (Or.inr (Or.inr (Or.inr (Or.inr (Or.inl (key 20 h))))))))))))))))))))))
  · exact Or.inr (Or.inr (Or.inr (Or.inr (Or.inr (Or.inr (Or.inr (Or.inr (Or.inr (Or.inr (Or.inr (Or.inr (Or.inr (Or.inr (Or.inr (Or.inr (Or.inr (Or.inr (Or.inr (Or.inr (Or.inr (Or.inr (Or.inl (key 21 h)))))))))))))))))))))))
  · exact Or.inr (Or.inr (Or.inr (Or.inr (Or.inr (Or.inr (Or.inr (Or.inr (Or.inr (Or.inr (Or.inr (Or.inr (Or.inr (Or.inr (Or.inr (Or.inr (Or.inr (Or.inr (Or.inr (Or.inr (Or.inr (Or.inr (Or.inr (Or.inl (key 22 h))))))))))))))))))))))))
  · exact Or.inr (Or.inr (Or.inr (Or.inr (Or.inr (Or.inr (Or.inr (Or.inr (Or.inr (Or.inr (Or.inr (Or.inr (Or.inr (Or.inr (Or.inr (Or.inr (Or.inr (Or.inr (Or.inr (Or.inr (Or.inr (Or.inr (Or.inr (Or.inr (Or.inl (key 23 h)))))))))))))))))))))))))
  · exact Or.inr (Or.inr (Or.inr (Or.inr (Or.inr (Or.inr (Or.inr (Or.inr (Or.inr (Or.inr (Or.inr (Or.inr (Or.inr (Or.inr (Or.inr (Or.inr (Or.inr (Or.inr (Or.inr (Or.inr (Or.inr (Or.inr (Or.inr (Or.inr (Or.inr (Or.inl (key 24 h))))))))))))))))))))))))))
  · exact Or.inr (Or.inr (Or.inr (Or.inr (Or.inr (Or.inr (Or.inr (Or.inr (Or.inr (Or.inr (Or.inr (Or.inr (Or.inr (Or.inr (Or.inr (Or.inr (Or.inr (Or.inr (Or.inr (Or.inr (Or.inr (Or.inr (Or.inr (Or.inr (Or.inr (Or.inr (Or.inl (key 25 h)))))))))))))))))))))))))))
  · exact Or.inr (Or.inr (Or.inr (Or.inr (Or.inr (Or.inr (Or.inr (Or.inr (Or.inr (Or.inr (Or.inr (Or.inr (Or.inr (Or.inr (Or.inr (Or.inr (Or.inr (Or.inr (Or.inr (Or.inr (Or.inr (Or.inr (Or.inr (Or.inr (Or.inr (Or.inr (Or.inr (Or.inl (key 26 h))))))))))))))))))))))))))))
  · exact Or.inr (Or.inr (Or.inr (Or.inr (Or.inr (Or.inr (Or.inr (Or.inr (Or.inr (Or.inr (Or.inr (Or.inr (Or.inr (Or.inr (Or.inr (Or.inr (Or.inr (Or.inr (Or.inr (Or.inr (Or.inr (Or.inr (Or.inr (Or.inr (Or.inr (Or.inr (Or.inr (Or.inr (Or.inl (key 27 h)))))))))))))))))))))))))))))
  · exact Or.inr (Or.inr (Or.inr (Or.inr (Or.inr (Or.inr (Or.inr (Or.inr (Or.inr (Or.inr (Or.inr (Or.inr (Or.inr (Or.inr (Or.inr (Or.inr (Or.inr (Or.inr (Or.inr (Or.inr (Or.inr (Or.inr (Or.inr (Or.inr (Or.inr (Or.inr (Or.inr (Or.inr (Or.inr ((key 28 h))))))))))))))))))))))))))))))
theorem vi_0_16 : vp_in (0 : Int32) 16 := by unfold vp_in; decide
theorem vi_1_16 : vp_in (1 : Int32) 16 := by unfold vp_in; decide
theorem vi_0_56 : vp_in (0 : Int32) 56 := by unfold vp_in; decide
theorem vi_0_6 : vp_in (0 : Int32) 6 := by unfold vp_in; decide
section ZA
variable {p : Program} {l : Launch} {e : Env} {R : Room} {s : State} {m : MethodId} {args : Array Value} {below : List Frame} {meth : Method} {c : Code} {H : Heap} {locs : List Loc} {cells slots : Nat} {Q : State → Prop}
variable {cc : ByteArray} {pc : Nat} {ls : Array Slot} {rest : List Value} {D : va_G} {A : Nat → Prop} {a : Nat} {cI cC cQ : ClassId} {ws : va_W} {H0 : Heap} {n k : Nat} {f : Nat → Int32} {i : Int32}
theorem z_iald (hexec : p.tables.exec = Jvm.exec) (hb : c.code = cc) (hK : va_K D vwCl (tyz cI cC cQ) s) (hP : va_P D vwCl ws H) (q0 : Nat) (ha : ws[q0]? = some (a, .inl (cI, n, .inl f))) (hk : i.toNatClampNeg = k) (hin : vp_in i n) (hdg : decode cc pc = .ok (.iaload, 1))
    (kk : W p l e R s m args below meth c H locs cells slots Q (F0 m (pc + 1) ls (.int (f k) :: rest))) : W p l e R s m args below meth c H locs cells slots Q (F0 m pc ls (.int i :: .ref a :: rest)) := by
  subst hk
  exact va_iald hexec hb hK hP q0 0 ha rfl hin hdg kk
theorem z_cald (hexec : p.tables.exec = Jvm.exec) (hb : c.code = cc) (hK : va_K D vwCl (tyz cI cC cQ) s) (hP : va_P D vwCl ws H) (q0 : Nat) (ha : ws[q0]? = some (a, .inl (cC, n, .inl f))) (hk : i.toNatClampNeg = k) (hin : vp_in i n) (hdg : decode cc pc = .ok (.caload, 1))
    (kk : W p l e R s m args below meth c H locs cells slots Q (F0 m (pc + 1) ls (.int (f k) :: rest))) : W p l e R s m args below meth c H locs cells slots Q (F0 m pc ls (.int i :: .ref a :: rest)) := by
  subst hk
  exact va_cald hexec hb hK hP q0 1 ha rfl hin hdg kk
theorem z_iast {x : Int32} (hexec : p.tables.exec = Jvm.exec) (hb : c.code = cc) (hK : va_K D vwCl (tyz cI cC cQ) s) (hP : va_P D vwCl ws H) (hD : va_D A ws) (hS : va_S A H0 H locs) (q0 : Nat) (ha : ws[q0]? = some (a, .inl (cI, n, .inl f))) (hk : i.toNatClampNeg = k) (hin : vp_in i n) (hdg : decode cc pc = .ok (.iastore, 1))
    (kk : ∀ (H1 : Heap) (locs1 : List Loc), va_P D vwCl (ws.set q0 (a, .inl (cI, n, .inl (upd f k x)))) H1 → va_D A (ws.set q0 (a, .inl (cI, n, .inl (upd f k x)))) → va_S A H0 H1 locs1 → W p l e R s m args below meth c H1 locs1 cells slots Q (F0 m (pc + 1) ls rest)) : W p l e R s m args below meth c H locs cells slots Q (F0 m pc ls (.int x :: .int i :: .ref a :: rest)) := by
  subst hk
  exact va_iast hexec hb hK hP hD hS q0 0 ha rfl hin hdg kk
theorem z_cast {x : Int32} (hexec : p.tables.exec = Jvm.exec) (hb : c.code = cc) (hK : va_K D vwCl (tyz cI cC cQ) s) (hP : va_P D vwCl ws H) (hD : va_D A ws) (hS : va_S A H0 H locs) (q0 : Nat) (ha : ws[q0]? = some (a, .inl (cC, n, .inl f))) (hk : i.toNatClampNeg = k) (hin : vp_in i n) (hdg : decode cc pc = .ok (.castore, 1))
    (kk : ∀ (H1 : Heap) (locs1 : List Loc), va_P D vwCl (ws.set q0 (a, .inl (cC, n, .inl (upd f k (vp_nar .char x))))) H1 → va_D A (ws.set q0 (a, .inl (cC, n, .inl (upd f k (vp_nar .char x))))) → va_S A H0 H1 locs1 → W p l e R s m args below meth c H1 locs1 cells slots Q (F0 m (pc + 1) ls rest)) : W p l e R s m args below meth c H locs cells slots Q (F0 m pc ls (.int x :: .int i :: .ref a :: rest)) := by
  subst hk
  exact va_cast hexec hb hK hP hD hS q0 1 ha rfl hin hdg kk
theorem z_copy {own : String} {index a0 n0 n1 sn dn nn : Nat} {g : Nat → Int32} {sp dp n : Int32} (hexec : p.tables.exec = Jvm.exec) (hb : c.code = cc) (hml : c.maxLocals = ls.size) (hown : s.vm.findClass own = some m.cls) (hlink : (Cond.methodLink own index arraycopyName).before args s = true) (hnat : (Cond.native arraycopyName).before args s = true) (hstat : (Cond.static arraycopyName).before args s = true) (hini : (Cond.initialized "java/lang/System").before args s = true)
    (hK : va_K D vwCl (tyz cI cC cQ) s) (hP : va_P D vwCl ws H) (hD : va_D A ws) (hS : va_S A H0 H locs) (q0 q1 : Nat) (ha0 : ws[q0]? = some (a0, .inl (cI, n0, .inl f))) (ha1 : ws[q1]? = some (a, .inl (cI, n1, .inl g)))
    (h1 : ¬ sp < 0) (h2 : ¬ dp < 0) (h3 : ¬ n < 0) (e1 : sp.toNatClampNeg = sn) (e2 : dp.toNatClampNeg = dn) (e3 : n.toNatClampNeg = nn) (h4 : sn + nn ≤ n0) (h5 : dn + nn ≤ n1)
    (hframes : 1 ≤ R.frames) (hlocals : (rest.map fun v => v.category).sum + (nativeFrameWords "java/lang/System" "arraycopy" 5 + 11) ≤ R.locals) (hdg : decode cc pc = .ok (.invokestatic index, 3))
    (kk : ∀ (H1 : Heap) (locs1 : List Loc), va_P D vwCl (ws.set q1 (a, .inl (cI, n1, .inl (va_cpy f g sn dn nn)))) H1 → va_D A (ws.set q1 (a, .inl (cI, n1, .inl (va_cpy f g sn dn nn)))) → va_S A H0 H1 locs1 → W p l e R s m args below meth c H1 locs1 cells slots Q (F0 m (pc + 3) ls rest)) : W p l e R s m args below meth c H locs cells slots Q (F0 m pc ls (.int n :: .int dp :: .ref a :: .int sp :: .ref a0 :: rest)) := by
  subst e1; subst e2; subst e3
  exact va_copyi hexec hb hml hown hlink hnat hstat hini hK hP hD hS q0 q1 0 0 ha0 ha1 rfl rfl rfl h1 h2 h3 h4 h5 (fun _ _ => rfl) hframes hlocals hdg kk
end ZA
