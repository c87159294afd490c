/-! the reference's edges as sets -/
theorem m_ed {x : Nat × Int32 × Int32} {f : Nat} {s d : Int32} {E : eL_T} : x ∈ edF f s d E ↔ ((x = (f, s, d) ∧ ¬ s = -1) ∨ x ∈ E) := by
  unfold edF
  by_cases c : s = -1
  · rw [if_pos c]
    exact ⟨Or.inr, fun u => u.resolve_left (fun v => v.2 c)⟩
  · rw [if_neg c, List.mem_cons]
    exact ⟨fun u => u.imp_left (fun v => ⟨v, c⟩), fun u => u.imp_left (fun v => v.1)⟩
theorem m_en {x : Nat × Int32 × Int32} {p : Nat} {s f : Int32} {E : eL_T} : x ∈ enF p s f E ↔ ((x = (5 * p + 2, f, 0) ∧ ¬ f = -1) ∨ (x = (5 * p + 1, s, 0) ∧ ¬ s = -1) ∨ x ∈ E) := by
  unfold enF
  rw [m_ed, m_ed]
/-- the edges of a chain -/
def chM (ID : Nat → Nat) : List Nat → Nat → Int32 → Nat × Int32 × Int32 → Prop
  | [], f, s, x => x = (f, s, 0) ∧ ¬ s = -1
  | r :: L, f, s, x => x = (f, nI (5 * ID r + 0), 0) ∨ chM ID L (5 * ID r + 3) s x
theorem nN (k : Nat) (h : k < 2 ^ 31) : ¬ nI k = -1 := nI_ne_m1 h
theorem m_cn {ID : Nat → Nat} {x : Nat × Int32 × Int32} {s : Int32} : ∀ (L : List Nat) (f : Nat) (E : eL_T), (∀ r ∈ L, ID r < 1000) → (x ∈ edF (cnE ID L f E).1 s 0 (cnE ID L f E).2 ↔ (chM ID L f s x ∨ x ∈ E))
  | [], f, E, _ => m_ed
  | r :: L, f, E, h => by
    have ih := m_cn (x := x) (s := s) L (5 * ID r + 3) (edF f (nI (5 * ID r + 0)) 0 E) (fun y hy => h y (List.mem_cons_of_mem _ hy))
    have hr := h r List.mem_cons_self
    show x ∈ edF (cnE ID L (5 * ID r + 3) (edF f (nI (5 * ID r + 0)) 0 E)).1 s 0 (cnE ID L (5 * ID r + 3) (edF f (nI (5 * ID r + 0)) 0 E)).2 ↔ _
    rw [ih, m_ed]
    show _ ↔ ((x = (f, nI (5 * ID r + 0), 0) ∨ chM ID L (5 * ID r + 3) s x) ∨ x ∈ E)
    constructor
    · rintro (u | ⟨u, -⟩ | u)
      · exact Or.inl (Or.inr u)
      · exact Or.inl (Or.inl u)
      · exact Or.inr u
    · rintro ((u | u) | u)
      · exact Or.inr (Or.inl ⟨u, nN _ (by omega)⟩)
      · exact Or.inl u
      · exact Or.inr (Or.inr u)
/-- the edges of the items of an S, from the ends of e; last: the end ahead (one more) -/
def bcJ (ID : Nat → Nat) (mk : Nat → Nat) (e : Nat) (af : Nat) : List Nat → Nat → Nat × Int32 × Int32 → Prop
  | [], last, x => ¬ last = 0 ∧ x = (last - 1, nI af, 0)
  | r :: L, last, x => (¬ mk r = 0 ∧ (x = (5 * e + 1, nI (5 * ID r + 0), 0) ∨ x = (5 * e + 2, nI (5 * ID r + 0), 0))) ∨ (¬ last = 0 ∧ x = (last - 1, nI (5 * ID r + 0), 0)) ∨ bcJ ID mk e af L (5 * ID r + 3 + 1) x
theorem m_bc {ID mk : Nat → Nat} {e af : Nat} (haf : af < 10000) {x : Nat × Int32 × Int32} : ∀ (L : List Nat) (last : Nat) (E : eL_T), (∀ r ∈ L, ID r < 1000) → (x ∈ (if (bcE ID mk e L last E).1 = 0 then (bcE ID mk e L last E).2 else edF ((bcE ID mk e L last E).1 - 1) (nI af) 0 (bcE ID mk e L last E).2) ↔ (bcJ ID mk e af L last x ∨ x ∈ E))
  | [], last, E, _ => by
    show x ∈ (if last = 0 then E else edF (last - 1) (nI af) 0 E) ↔ (¬ last = 0 ∧ x = (last - 1, nI af, 0)) ∨ x ∈ E
    by_cases c : last = 0
    · rw [if_pos c]
      exact ⟨Or.inr, fun u => u.resolve_left (fun v => v.1 c)⟩
    · rw [if_neg c, m_ed]
      exact ⟨fun u => u.imp_left (fun v => ⟨c, v.1⟩), fun u => u.imp_left (fun v => ⟨v.2, nN _ (by omega)⟩)⟩
  | r :: L, last, E, h => by
    have hr := h r List.mem_cons_self
    have ih := fun E' => m_bc (mk := mk) (e := e) haf (x := x) L (5 * ID r + 3 + 1) E' (fun y hy => h y (List.mem_cons_of_mem _ hy))
    have e0 : ∀ E, x ∈ (if mk r = 0 then E else enF e (nI (5 * ID r + 0)) (nI (5 * ID r + 0)) E) ↔ ((¬ mk r = 0 ∧ (x = (5 * e + 1, nI (5 * ID r + 0), 0) ∨ x = (5 * e + 2, nI (5 * ID r + 0), 0))) ∨ x ∈ E) := by
      intro E
      by_cases c : mk r = 0
      · rw [if_pos c]
        exact ⟨Or.inr, fun u => u.resolve_left (fun v => v.1 c)⟩
      · rw [if_neg c, m_en]
        constructor
        · rintro (⟨u, -⟩ | ⟨u, -⟩ | u)
          · exact Or.inl ⟨c, Or.inr u⟩
          · exact Or.inl ⟨c, Or.inl u⟩
          · exact Or.inr u
        · rintro (⟨-, u | u⟩ | u)
          · exact Or.inr (Or.inl ⟨u, nN _ (by omega)⟩)
          · exact Or.inl ⟨u, nN _ (by omega)⟩
          · exact Or.inr (Or.inr u)
    have e1 : ∀ E, x ∈ (if last = 0 then (if mk r = 0 then E else enF e (nI (5 * ID r + 0)) (nI (5 * ID r + 0)) E) else edF (last - 1) (nI (5 * ID r + 0)) 0 (if mk r = 0 then E else enF e (nI (5 * ID r + 0)) (nI (5 * ID r + 0)) E)) ↔ ((¬ last = 0 ∧ x = (last - 1, nI (5 * ID r + 0), 0)) ∨ (¬ mk r = 0 ∧ (x = (5 * e + 1, nI (5 * ID r + 0), 0) ∨ x = (5 * e + 2, nI (5 * ID r + 0), 0))) ∨ x ∈ E) := by
      intro E
      by_cases c : last = 0
      · rw [if_pos c, e0]
        exact ⟨Or.inr, fun u => u.resolve_left (fun v => v.1 c)⟩
      · rw [if_neg c, m_ed, e0]
        exact ⟨fun u => u.imp_left (fun v => ⟨c, v.1⟩), fun u => u.imp_left (fun v => ⟨v.2, nN _ (by omega)⟩)⟩
    have := ih (if last = 0 then (if mk r = 0 then E else enF e (nI (5 * ID r + 0)) (nI (5 * ID r + 0)) E) else edF (last - 1) (nI (5 * ID r + 0)) 0 (if mk r = 0 then E else enF e (nI (5 * ID r + 0)) (nI (5 * ID r + 0)) E))
    rw [e1] at this
    refine Iff.trans this ?_
    show _ ↔ (((¬ mk r = 0 ∧ (x = (5 * e + 1, nI (5 * ID r + 0), 0) ∨ x = (5 * e + 2, nI (5 * ID r + 0), 0))) ∨ (¬ last = 0 ∧ x = (last - 1, nI (5 * ID r + 0), 0)) ∨ bcJ ID mk e af L (5 * ID r + 3 + 1) x) ∨ x ∈ E)
    constructor
    · rintro (u | u | u | u)
      · exact Or.inl (Or.inr (Or.inr u))
      · exact Or.inl (Or.inr (Or.inl u))
      · exact Or.inl (Or.inl u)
      · exact Or.inr u
    · rintro ((u | u | u) | u)
      · exact Or.inr (Or.inr (Or.inl u))
      · exact Or.inr (Or.inl u)
      · exact Or.inl u
      · exact Or.inr (Or.inr (Or.inr u))
/-- a function on lists of edges that adds some -/
def addE (F : eL_T → eL_T) (S : Nat × Int32 × Int32 → Prop) : Prop := ∀ E x, x ∈ F E ↔ (S x ∨ x ∈ E)
/-- the edges of node p, the ways known -/
def stX (a : Nat → Nat → Int32) (N k p : Nat) (Wf : wL_T) (E : eL_T) : eL_T :=
  trX a N k p Wf (if a r_isStmt p = 0 then beF a p (rchG a (nI p) 0 N 0 0) (rchG a (nI p) 0 N 0 1) (rchG a (nI p) 0 N 0 2) E else bsX a N k p (rchG a (nI p) 0 N 0 0) (rchG a (nI p) 1 N 0 0) (rchG a (nI p) 0 N 0 1) (rchG a (nI p) 1 N 0 1) Wf E)
theorem stB_fin {a : Nat → Nat → Int32} {N k p : Nat} {E : eL_T} {W Wf : wL_T} (h : (stB a N k p E W).2 <:+ Wf) : (stB a N k p E W).1 = stX a N k p Wf E ∧ W <:+ Wf ∧ (¬ a r_isStmt p = 0 → (a r_sort p = 84 → ¬ a r_hasEnd p = 0 → inW Wf 0 (.inr p)) ∧ (isLv (a r_sort p) → inW Wf (cdF a p) (lvA a N (cdF a p) k p (a r_around p)))) ∧ (trN a k (a r_around p) = 1 → inW Wf 2 (lvA a N 2 k p (a r_around p))) := by
  unfold stB at h ⊢
  unfold stX
  have h1 := trB_fin h
  dsimp only at h1 ⊢
  rw [h1.1]
  by_cases c : a r_isStmt p = 0
  · have h2 := h1.2.1
    rw [if_pos c] at h2
    rw [if_pos c, if_pos c]
    exact ⟨rfl, h2, fun u => absurd c u, h1.2.2⟩
  · have h2 := h1.2.1
    rw [if_neg c] at h2
    have h3 := bsF_fin h2
    rw [if_neg c, if_neg c, h3.1]
    exact ⟨rfl, h3.2.1, fun _ => h3.2.2, h1.2.2⟩
theorem m_tr {a : Nat → Nat → Int32} {N k p : Nat} {Wf : wL_T} {E : eL_T} {x : Nat × Int32 × Int32} : x ∈ trX a N k p Wf E ↔ ((trN a k (a r_around p) = 1 ∧ ¬ coW Wf 2 (lvA a N 2 k p (a r_around p)) = -1 ∧ (x = (5 * p + 0, coW Wf 2 (lvA a N 2 k p (a r_around p)), 0) ∨ (a r_sort p = 61 ∧ (x = (5 * p + 1, coW Wf 2 (lvA a N 2 k p (a r_around p)), 0) ∨ x = (5 * p + 2, coW Wf 2 (lvA a N 2 k p (a r_around p)), 0))))) ∨ x ∈ E) := by
  unfold trX
  generalize coW Wf 2 (lvA a N 2 k p (a r_around p)) = z
  by_cases c : trN a k (a r_around p) = 1
  · rw [if_pos c]
    by_cases c2 : a r_sort p = 61
    · rw [if_pos c2, m_ed, m_ed, m_ed]
      constructor
      · rintro (⟨u, v⟩ | ⟨u, v⟩ | ⟨u, v⟩ | u)
        · exact Or.inl ⟨c, v, Or.inr ⟨c2, Or.inr u⟩⟩
        · exact Or.inl ⟨c, v, Or.inr ⟨c2, Or.inl u⟩⟩
        · exact Or.inl ⟨c, v, Or.inl u⟩
        · exact Or.inr u
      · rintro (⟨-, v, u | ⟨-, u | u⟩⟩ | u)
        · exact Or.inr (Or.inr (Or.inl ⟨u, v⟩))
        · exact Or.inr (Or.inl ⟨u, v⟩)
        · exact Or.inl ⟨u, v⟩
        · exact Or.inr (Or.inr (Or.inr u))
    · rw [if_neg c2, m_ed]
      constructor
      · rintro (⟨u, v⟩ | u)
        · exact Or.inl ⟨c, v, Or.inl u⟩
        · exact Or.inr u
      · rintro (⟨-, v, u | ⟨u, -⟩⟩ | u)
        · exact Or.inl ⟨u, v⟩
        · exact absurd u c2
        · exact Or.inr u
  · rw [if_neg c]
    exact ⟨Or.inr, fun u => u.resolve_left (fun v => c v.1)⟩
