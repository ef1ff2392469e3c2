abbrev CV : Type := (Nat → Int32) × (Nat → Int32) × (Nat → Int32) × (Nat → Int32) × (Nat → Int32) × (Nat → Int32) × Int32 × Int32 × Int32
abbrev CA : Type := Nat × Nat × Nat × Nat × Nat × Nat × Nat
/-- a court's cells -/
def cb (cI : ClassId) (a : CA) (v : CV) : va_W := [(a.1, .inr (0, [.ref a.2.1, .ref a.2.2.1, .ref a.2.2.2.1, .ref a.2.2.2.2.1, .ref a.2.2.2.2.2.1, .ref a.2.2.2.2.2.2, .int v.2.2.2.2.2.2.1, .int v.2.2.2.2.2.2.2.1, .int v.2.2.2.2.2.2.2.2])), (a.2.1, .inl (cI, 7, .inl v.1)), (a.2.2.1, .inl (cI, 7, .inl v.2.1)), (a.2.2.2.1, .inl (cI, 7, .inl v.2.2.1)), (a.2.2.2.2.1, .inl (cI, 7, .inl v.2.2.2.1)), (a.2.2.2.2.2.1, .inl (cI, 6, .inl v.2.2.2.2.1)), (a.2.2.2.2.2.2, .inl (cI, 42, .inl v.2.2.2.2.2.1))]
def pool (cI : ClassId) (as : List CA) (vs : List CV) : va_W := (as.zip vs).flatMap (fun b => cb cI b.1 b.2)
def rwf (as : List CA) : Nat → Option Nat := fun i => (as[i]?).map (fun a => a.1)
abbrev shc (cQ : ClassId) (h2 a_rw N : Nat) (rw : Nat → Option Nat) (ru : Int32) : va_W := [(h2, .inr (2, [.ref a_rw, .int ru])), (a_rw, .inl (cQ, N, .inr (.inr (.inr (.inr rw)))))]
def rot {α : Type} (l : List α) : List α := l.drop 1 ++ l.take 1
def cpyCV (new old : CV) : CV := (va_cpy new.1 old.1 0 0 7, va_cpy new.2.1 old.2.1 0 0 7, va_cpy new.2.2.1 old.2.2.1 0 0 7, va_cpy new.2.2.2.1 old.2.2.2.1 0 0 7, va_cpy new.2.2.2.2.1 old.2.2.2.2.1 0 0 6, va_cpy new.2.2.2.2.2.1 old.2.2.2.2.2.1 0 0 42, new.2.2.2.2.2.2.1, new.2.2.2.2.2.2.2.1, new.2.2.2.2.2.2.2.2)
theorem vaP_mem {D : va_G} {cl : List vw_C} {ws : va_W} {H : Heap} : va_P D cl ws H ↔ ∀ q ∈ ws, va_at D cl q H := ⟨fun h q hq => by
    obtain ⟨k, hk⟩ := List.getElem?_of_mem hq
    exact h k q hk, fun h k q hk => h q (List.mem_of_getElem? hk)⟩
theorem vaP_sub {D : va_G} {cl : List vw_C} {ws ws' : va_W} {H : Heap} (hs : ∀ q ∈ ws', q ∈ ws) (h : va_P D cl ws H) : va_P D cl ws' H := vaP_mem.mpr (fun q hq => vaP_mem.mp h q (hs q hq))
theorem vaP_perm {D : va_G} {cl : List vw_C} {ws ws' : va_W} {H : Heap} (hs : ws.Perm ws') (h : va_P D cl ws H) : va_P D cl ws' H := vaP_sub (fun q hq => hs.mem_iff.mpr hq) h
theorem vaD_mem {A : Nat → Prop} {ws : va_W} : va_D A ws ↔ (ws.map (fun q => q.1)).Nodup ∧ ∀ q ∈ ws, A q.1 := by
  constructor
  · intro h
    refine ⟨List.pairwise_iff_getElem.mpr (fun i j hi hj hij heq => ?_), fun q hq => ?_⟩
    · rw [List.length_map] at hi hj
      rw [List.getElem_map, List.getElem_map] at heq
      have := h.1 i j _ _ (List.getElem?_eq_getElem hi) (List.getElem?_eq_getElem hj) heq
      omega
    · obtain ⟨k, hk⟩ := List.getElem?_of_mem hq
      exact h.2 k q hk
  · intro h
    refine ⟨fun i j p q hp hq hpq => ?_, fun k q hk => h.2 q (List.mem_of_getElem? hk)⟩
    obtain ⟨hi, ei⟩ := List.getElem?_eq_some_iff.mp hp
    obtain ⟨hj, ej⟩ := List.getElem?_eq_some_iff.mp hq
    have hn := List.pairwise_iff_getElem.mp h.1
    rcases Nat.lt_trichotomy i j with hlt | heq | hlt
    · exact absurd (by rw [List.getElem_map, List.getElem_map, ei, ej]; exact hpq) (hn i j (by rw [List.length_map]; exact hi) (by rw [List.length_map]; exact hj) hlt)
    · exact heq
    · exact absurd (by rw [List.getElem_map, List.getElem_map, ei, ej]; exact hpq.symm) (hn j i (by rw [List.length_map]; exact hj) (by rw [List.length_map]; exact hi) hlt)
theorem vaD_perm {A : Nat → Prop} {ws ws' : va_W} (hs : ws.Perm ws') (h : va_D A ws) : va_D A ws' := by
  obtain ⟨h1, h2⟩ := vaD_mem.mp h
  exact vaD_mem.mpr ⟨(hs.map (fun q => q.1)).nodup_iff.mp h1, fun q hq => h2 q (hs.mem_iff.mpr hq)⟩
theorem vaD_left {A : Nat → Prop} {w1 w2 : va_W} (h : va_D A (w1 ++ w2)) : va_D A w1 := by
  obtain ⟨h1, h2⟩ := vaD_mem.mp h
  rw [List.map_append] at h1
  exact vaD_mem.mpr ⟨(List.nodup_append.mp h1).1, fun q hq => h2 q (List.mem_append_left _ hq)⟩
theorem vaD_right {A : Nat → Prop} {w1 w2 : va_W} (h : va_D A (w1 ++ w2)) : va_D A w2 := by
  obtain ⟨h1, h2⟩ := vaD_mem.mp h
  rw [List.map_append] at h1
  exact vaD_mem.mpr ⟨(List.nodup_append.mp h1).2.1, fun q hq => h2 q (List.mem_append_right _ hq)⟩
theorem vaD_apart {A : Nat → Prop} {w1 w2 : va_W} (h : va_D A (w1 ++ w2)) : ∀ p ∈ w1, ∀ q ∈ w2, p.1 ≠ q.1 := by
  obtain ⟨h1, -⟩ := vaD_mem.mp h
  rw [List.map_append] at h1
  exact fun p hp q hq => (List.nodup_append.mp h1).2.2 p.1 (List.mem_map.mpr ⟨p, hp, rfl⟩) q.1 (List.mem_map.mpr ⟨q, hq, rfl⟩)
theorem vaD_mk {A : Nat → Prop} {w1 w2 : va_W} (h1 : va_D A w1) (h2 : va_D A w2) (hx : ∀ p ∈ w1, ∀ q ∈ w2, p.1 ≠ q.1) : va_D A (w1 ++ w2) :=
  h1.app h2 (fun _ _ p q hp hq => hx p (List.mem_of_getElem? hp) q (List.mem_of_getElem? hq))
/-- what a contract's end says, beside a part of the world that it had not -/
theorem frame_end {S : Type} {D : va_G} {wc R : va_W} {Wd : S → va_W} {s t : State} {u : S} (hP : va_P D vwCl (wc ++ R) s.heap) (hD : va_D (fun _ => True) (wc ++ R)) (hF : va_F (va_A wc s.heap.size) s t) (he : cEnd D (va_A wc s.heap.size) Wd u t) :
    cEnd D (va_A (wc ++ R) s.heap.size) (fun u => Wd u ++ R) u t ∧ va_F (va_A (wc ++ R) s.heap.size) s t := by
  have hlt : ∀ q ∈ R, q.1 < s.heap.size := fun q hq => (vaP_mem.mp hP q (List.mem_append_right _ hq)).lt
  have hout : ∀ q ∈ R, ¬ va_A wc s.heap.size q.1 := by
    intro q hq h
    rcases h with ⟨k, e, h⟩ | h
    · exact vaD_apart hD (q.1, e) (List.mem_of_getElem? h) q hq rfl
    · have := hlt q hq
      omega
  have hsub : ∀ q, va_A wc s.heap.size q → va_A (wc ++ R) s.heap.size q := by
    intro q h
    rcases h with ⟨k, e, h⟩ | h
    · exact Or.inl ⟨k, e, by rw [List.getElem?_append_left (List.getElem?_eq_some_iff.mp h).1]; exact h⟩
    · exact Or.inr h
  refine ⟨⟨vaP_mem.mpr (fun q hq => ?_), ?_⟩, hF.1, fun q h1 h2 => hF.2 q h1 (fun h => h2 (hsub q h))⟩
  · rcases List.mem_append.mp hq with h | h
    · exact vaP_mem.mp he.1 q h
    · exact (vaP_mem.mp hP q (List.mem_append_right _ h)).kept (hF.2 q.1 (hlt q h) (hout q h))
  · have h2 := he.2
    refine vaD_mk (h2.weaken (fun _ q _ h => hsub q.1 h)) ?_ ?_
    · exact (vaD_right hD).weaken (fun k q hk _ => Or.inl ⟨wc.length + k, q.2, by rw [List.getElem?_append_right (Nat.le_add_right _ _), Nat.add_sub_cancel_left]; exact hk⟩)
    · intro p hp q hq heq
      exact hout q hq (by rw [← heq]; exact (vaD_mem.mp h2).2 p hp)
theorem frame_pre {D : va_G} {cI cC cQ : ClassId} {wc R : va_W} {sz : Nat} {U : State} (h : cPre D cI cC cQ (wc ++ R) sz U) : cPre D cI cC cQ wc sz U := ⟨h.1, vaP_sub (fun _ hq => List.mem_append_left _ hq) h.2.1, h.2.2.1, vaD_left h.2.2.2⟩

theorem frame_Ci {S : Type} {l : Launch} {D : va_G} {cI cC cQ : ClassId} {y : MethodName} {ws : List Cond} {rm : Room} {av : List Value} {wc : va_W} {Wd : S → va_W} {post : Int32 → S → Prop} (h : Ci l D cI cC cQ y ws rm av wc Wd post) (R : va_W) : Ci l D cI cC cQ y ws rm av (wc ++ R) (fun u => Wd u ++ R) post := by
  intro sz
  refine MetFree.mono (h sz) (fun a s hp => ⟨hp.1, frame_pre hp.2⟩) (fun _ _ _ _ _ hk => hk) ?_
  intro a s oc t hp hq
  obtain ⟨⟨⟨r, u, e1, e2, e3⟩, hF⟩, L, hL, hfree⟩ := hq
  obtain ⟨hsz, hP, -, hD⟩ := hp.2
  subst hsz
  obtain ⟨g1, g2⟩ := frame_end hP hD hF e3
  refine ⟨⟨⟨r, u, e1, e2, g1⟩, g2⟩, L, hL, fun q hq => ?_⟩
  rcases hfree q hq with ⟨k, e, h⟩ | h
  · exact Or.inl ⟨k, e, by rw [List.getElem?_append_left (List.getElem?_eq_some_iff.mp h).1]; exact h⟩
  · exact Or.inr h
theorem perm_Ci {S : Type} {l : Launch} {D : va_G} {cI cC cQ : ClassId} {y : MethodName} {ws : List Cond} {rm : Room} {av : List Value} {wc wc' : va_W} {Wd Wd' : S → va_W} {post : Int32 → S → Prop} (h : Ci l D cI cC cQ y ws rm av wc Wd post) (h1 : wc'.Perm wc) (h2 : ∀ u, (Wd u).Perm (Wd' u)) : Ci l D cI cC cQ y ws rm av wc' Wd' post := by
  intro sz
  have hA : ∀ q, va_A wc sz q → va_A wc' sz q := by
    intro q hq
    rcases hq with ⟨k, e, h⟩ | h
    · obtain ⟨j, hj⟩ := List.getElem?_of_mem (h1.mem_iff.mpr (List.mem_of_getElem? h))
      exact Or.inl ⟨j, e, hj⟩
    · exact Or.inr h
  refine MetFree.mono (h sz) (fun a s hp => ⟨hp.1, hp.2.1, vaP_perm h1 hp.2.2.1, hp.2.2.2.1, vaD_perm h1 hp.2.2.2.2⟩) (fun _ _ _ _ _ hk => hk) ?_
  intro a s oc t hp hq
  obtain ⟨⟨⟨r, u, e1, e2, e3⟩, hF⟩, L, hL, hfree⟩ := hq
  exact ⟨⟨⟨r, u, e1, e2, vaP_perm (h2 u) e3.1, vaD_perm (h2 u) (e3.2.weaken (fun _ q _ h => hA q.1 h))⟩, hF.1, fun q g1 g2 => hF.2 q g1 (fun h => g2 (hA q h))⟩, L, hL, fun q hq => hA _ (hfree q hq)⟩
theorem frame_Cv {S : Type} {l : Launch} {D : va_G} {cI cC cQ : ClassId} {y : MethodName} {ws : List Cond} {rm : Room} {av : List Value} {wc : va_W} {Wd : S → va_W} {post : S → Prop} (h : Cv l D cI cC cQ y ws rm av wc Wd post) (R : va_W) : Cv l D cI cC cQ y ws rm av (wc ++ R) (fun u => Wd u ++ R) post := by
  intro sz
  refine MetFree.mono (h sz) (fun a s hp => ⟨hp.1, frame_pre hp.2⟩) (fun _ _ _ _ _ hk => hk) ?_
  intro a s oc t hp hq
  obtain ⟨⟨⟨u, e1, e2, e3⟩, hF⟩, L, hL, hfree⟩ := hq
  obtain ⟨hsz, hP, -, hD⟩ := hp.2
  subst hsz
  obtain ⟨g1, g2⟩ := frame_end hP hD hF e3
  refine ⟨⟨⟨u, e1, e2, g1⟩, g2⟩, L, hL, fun q hq => ?_⟩
  rcases hfree q hq with ⟨k, e, h⟩ | h
  · exact Or.inl ⟨k, e, by rw [List.getElem?_append_left (List.getElem?_eq_some_iff.mp h).1]; exact h⟩
  · exact Or.inr h
theorem perm_Cv {S : Type} {l : Launch} {D : va_G} {cI cC cQ : ClassId} {y : MethodName} {ws : List Cond} {rm : Room} {av : List Value} {wc wc' : va_W} {Wd Wd' : S → va_W} {post : S → Prop} (h : Cv l D cI cC cQ y ws rm av wc Wd post) (h1 : wc'.Perm wc) (h2 : ∀ u, (Wd u).Perm (Wd' u)) : Cv l D cI cC cQ y ws rm av wc' Wd' post := by
  intro sz
  have hA : ∀ q, va_A wc sz q → va_A wc' sz q := by
    intro q hq
    rcases hq with ⟨k, e, h⟩ | h
    · obtain ⟨j, hj⟩ := List.getElem?_of_mem (h1.mem_iff.mpr (List.mem_of_getElem? h))
      exact Or.inl ⟨j, e, hj⟩
    · exact Or.inr h
  refine MetFree.mono (h sz) (fun a s hp => ⟨hp.1, hp.2.1, vaP_perm h1 hp.2.2.1, hp.2.2.2.1, vaD_perm h1 hp.2.2.2.2⟩) (fun _ _ _ _ _ hk => hk) ?_
  intro a s oc t hp hq
  obtain ⟨⟨⟨u, e1, e2, e3⟩, hF⟩, L, hL, hfree⟩ := hq
  exact ⟨⟨⟨u, e1, e2, vaP_perm (h2 u) e3.1, vaD_perm (h2 u) (e3.2.weaken (fun _ q _ h => hA q.1 h))⟩, hF.1, fun q g1 g2 => hF.2 q g1 (fun h => g2 (hA q h))⟩, L, hL, fun q hq => hA _ (hfree q hq)⟩
theorem frame_Cq {S : Type} {l : Launch} {D : va_G} {cI cC cQ : ClassId} {y : MethodName} {ws : List Cond} {rm : Room} {av : List Value} {wc : va_W} {Wd : S → va_W} {post : Option Nat → S → Prop} (h : Cq l D cI cC cQ y ws rm av wc Wd post) (R : va_W) : Cq l D cI cC cQ y ws rm av (wc ++ R) (fun u => Wd u ++ R) post := by
  intro sz
  refine MetFree.mono (h sz) (fun a s hp => ⟨hp.1, frame_pre hp.2⟩) (fun _ _ _ _ _ hk => hk) ?_
  intro a s oc t hp hq
  obtain ⟨⟨⟨r, u, e1, e2, e3⟩, hF⟩, L, hL, hfree⟩ := hq
  obtain ⟨hsz, hP, -, hD⟩ := hp.2
  subst hsz
  obtain ⟨g1, g2⟩ := frame_end hP hD hF e3
  refine ⟨⟨⟨r, u, e1, e2, g1⟩, g2⟩, L, hL, fun q hq => ?_⟩
  rcases hfree q hq with ⟨k, e, h⟩ | h
  · exact Or.inl ⟨k, e, by rw [List.getElem?_append_left (List.getElem?_eq_some_iff.mp h).1]; exact h⟩
  · exact Or.inr h
theorem perm_Cq {S : Type} {l : Launch} {D : va_G} {cI cC cQ : ClassId} {y : MethodName} {ws : List Cond} {rm : Room} {av : List Value} {wc wc' : va_W} {Wd Wd' : S → va_W} {post : Option Nat → S → Prop} (h : Cq l D cI cC cQ y ws rm av wc Wd post) (h1 : wc'.Perm wc) (h2 : ∀ u, (Wd u).Perm (Wd' u)) : Cq l D cI cC cQ y ws rm av wc' Wd' post := by
  intro sz
  have hA : ∀ q, va_A wc sz q → va_A wc' sz q := by
    intro q hq
    rcases hq with ⟨k, e, h⟩ | h
    · obtain ⟨j, hj⟩ := List.getElem?_of_mem (h1.mem_iff.mpr (List.mem_of_getElem? h))
      exact Or.inl ⟨j, e, hj⟩
    · exact Or.inr h
  refine MetFree.mono (h sz) (fun a s hp => ⟨hp.1, hp.2.1, vaP_perm h1 hp.2.2.1, hp.2.2.2.1, vaD_perm h1 hp.2.2.2.2⟩) (fun _ _ _ _ _ hk => hk) ?_
  intro a s oc t hp hq
  obtain ⟨⟨⟨r, u, e1, e2, e3⟩, hF⟩, L, hL, hfree⟩ := hq
  exact ⟨⟨⟨r, u, e1, e2, vaP_perm (h2 u) e3.1, vaD_perm (h2 u) (e3.2.weaken (fun _ q _ h => hA q.1 h))⟩, hF.1, fun q g1 g2 => hF.2 q g1 (fun h => g2 (hA q h))⟩, L, hL, fun q hq => hA _ (hfree q hq)⟩
theorem perm8 {α : Type} (a r p : List α) : ((a ++ r) ++ p).Perm ((a ++ p) ++ r) := by
  simp only [List.append_assoc]
  exact List.perm_append_comm.append_left a
theorem perm4 {α : Type} (C O b p : List α) : ((C ++ O) ++ (b ++ p)).Perm ((b ++ C) ++ (O ++ p)) := by
  simp only [List.append_assoc]
  exact ((List.perm_append_comm_assoc O b p).append_left C).trans (List.perm_append_comm_assoc C b (O ++ p))
theorem pool_perm (cI : ClassId) : ∀ (k : Nat) (as : List CA) (vs : List CV) (a : CA) (v : CV), as[k]? = some a → vs[k]? = some v → (pool cI as vs).Perm (cb cI a v ++ pool cI (as.eraseIdx k) (vs.eraseIdx k))
  | _, [], _, _, _, h, _ => by simp at h
  | _, _ :: _, [], _, _, _, h => by simp at h
  | 0, x :: as, y :: vs, a, v, h1, h2 => by
    simp only [List.getElem?_cons_zero, Option.some.injEq] at h1 h2
    subst h1; subst h2
    exact List.Perm.refl _
  | k + 1, x :: as, y :: vs, a, v, h1, h2 => by
    rw [List.getElem?_cons_succ] at h1 h2
    exact ((pool_perm cI k as vs a v h1 h2).append_left (cb cI x y)).trans (List.perm_append_comm_assoc _ _ _)
theorem pool_set (cI : ClassId) (k : Nat) (as : List CA) (vs : List CV) (a : CA) (v : CV) (h1 : as[k]? = some a) (h2 : k < vs.length) : (pool cI as (vs.set k v)).Perm (cb cI a v ++ pool cI (as.eraseIdx k) (vs.eraseIdx k)) := by
  have h := pool_perm cI k as (vs.set k v) a v h1 (by rw [List.getElem?_set_self h2])
  rwa [List.eraseIdx_set_eq] at h
theorem pool_append (cI : ClassId) : ∀ (as as' : List CA) (vs vs' : List CV), as.length = vs.length → pool cI (as ++ as') (vs ++ vs') = pool cI as vs ++ pool cI as' vs' := by
  intro as as' vs vs' h
  simp [pool, List.zip_append h, List.flatMap_append]
theorem pool_rot (cI : ClassId) (as : List CA) (vs : List CV) (h : as.length = vs.length) : (pool cI as vs).Perm (pool cI (rot as) (rot vs)) := by
  match as, vs, h with
  | [], [], _ => exact List.Perm.refl _
  | a :: as, v :: vs, h =>
    have h' : as.length = vs.length := by simpa using h
    have e : pool cI (rot (a :: as)) (rot (v :: vs)) = pool cI as vs ++ pool cI [a] [v] := by
      show pool cI (as ++ [a]) (vs ++ [v]) = _
      exact pool_append cI as [a] vs [v] h'
    rw [e]
    have e2 : pool cI (a :: as) (v :: vs) = pool cI [a] [v] ++ pool cI as vs := pool_append cI [a] as [v] vs rfl
    rw [e2]
    exact List.perm_append_comm
theorem pool_obj (cI : ClassId) (as : List CA) (vs : List CV) (h : as.length = vs.length) {k : Nat} {a : CA} (ha : as[k]? = some a) : ∃ fs : List Value, (a.1, (.inr (0, fs) : va_E)) ∈ pool cI as vs := by
  obtain ⟨hk, -⟩ := List.getElem?_eq_some_iff.mp ha
  have hv : vs[k]? = some vs[k] := List.getElem?_eq_getElem (h ▸ hk)
  exact ⟨_, ((pool_perm cI k as vs a _ ha hv).mem_iff).mpr (List.mem_append_left _ (List.mem_cons_self))⟩
theorem rot_len {α : Type} (l : List α) : (rot l).length = l.length := by
  cases l with
  | nil => rfl
  | cons a t => simp [rot]
theorem rwf_rot (as : List CA) (a : CA) (ha : as[0]? = some a) (t : Nat) : rwf (rot as) t = if t + 1 < as.length then rwf as (t + 1) else if t + 1 = as.length then some a.1 else none := by
  cases as with
  | nil => simp at ha
  | cons b l =>
    simp only [List.getElem?_cons_zero, Option.some.injEq] at ha
    subst ha
    show ((l ++ [b])[t]?).map (fun a => a.1) = _
    by_cases h1 : t < l.length
    · rw [List.getElem?_append_left h1, if_pos (by simp; omega)]
      show _ = ((b :: l)[t + 1]?).map (fun a => a.1)
      rw [List.getElem?_cons_succ]
    · by_cases h2 : t = l.length
      · subst h2
        rw [List.getElem?_append_right (Nat.le_refl _), if_neg (by simp), if_pos (by simp)]
        simp
      · rw [if_neg (by simp; omega), if_neg (by simp; omega), List.getElem?_eq_none (by simp; omega)]
        rfl

