/-- 'chances' comes to Q: what it is asked of, where it stands -/
def wX5_chances (x1 x2 x3 : Int32) (v : CV) (Q : Int32 → List CV → Prop) : Prop := ∃ (m0 kn : Nat) (K H0 : Nat → Nat) (E : Dy) (n d x : Nat), x1 = nI n ∧ x2 = nI d ∧ x3 = nI x ∧ x ≤ 10 ∧ n < kn ∧ d ≤ 8 ∧ okD m0 kn K H0 E ∧ dd E + d < 4000 ∧ ctV m0 kn K H0 E v ∧ ∀ (r : Int32) (u : List CV), r = nI (chD m0 kn K H0 n x d E) → u.length = 9 → Q r u
theorem c_X5_chancesW (l : Launch) (D : va_G) (cI cC cQ : ClassId) (h2 a_rw : Nat) (x1 x2 x3 : Int32) (m0 kn : Nat) (K H0 : Nat → Nat) (E : Dy) (n d x : Nat) (as : List CA) (hla : as.length = 9) (sv : List CV) (cv : CV) (hsv : sv.length = 9) (e1 : x1 = nI n) (e2 : x2 = nI d) (e3 : x3 = nI x) (hx : x ≤ 10) (hn : n < kn) (hd8 : d ≤ 8) (ok : okD m0 kn K H0 E) (hdd : dd E + d < 4000) (hct : ctV m0 kn K H0 E cv) :
    Ci (S := List CV) l D cI cC cQ yX5_chances wsX5_chances (rmCh d) [.ref h2, .int x1, .int x2, .int x3] ([(h2, .inr (2, [.ref a_rw, .int (nI (pushK 9 0))])), (a_rw, .inl (cQ, 9, .inr (.inr (.inr (.inr (rwf as))))))] ++ pool cI as (pushV 9 0 sv cv)) (fun u => [(h2, .inr (2, [.ref a_rw, .int (nI (pushK 9 0))])), (a_rw, .inl (cQ, 9, .inr (.inr (.inr (.inr (rwf as))))))] ++ pool cI as u) (fun r u => r = nI (chD m0 kn K H0 n x d E) ∧ u.length = 9 ∧ ∀ j, j < 1 → u[j]? = (pushV 9 0 sv cv)[j]?) := by
  subst e1 e2 e3
  have hv : pushV 9 0 sv cv = sv.set 0 (cpyCV cv (sv.getD 0 cv)) := rfl
  obtain ⟨a2, ha2⟩ : ∃ a, as[1 - 1]? = some a := ⟨as[0]'(by omega), List.getElem?_eq_getElem (by omega)⟩
  have hv2 : (pushV 9 0 sv cv)[1 - 1]? = some (cpyCV cv (sv.getD 0 cv)) := by
    rw [hv]
    exact List.getElem?_set_self (by omega)
  have hl : (pushV 9 0 sv cv).length = 9 := by rw [hv, List.length_set]; exact hsv
  exact c_X5_chances l D cI cC cQ h2 a_rw m0 kn n x K H0 as hx hn hla d hd8 1 (pushV 9 0 sv cv) a2 _ E ok hdd (ctV_cpy ok.1.2.1 ok.2.2.1 hct) (by omega) (by omega) hl ha2 hv2
