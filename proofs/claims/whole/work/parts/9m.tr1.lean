/-! the nodes of a forest as lists: code and forest within, outer node (one more), roots -/
def cxL : Std.Format → List (Nat × Std.Format)
  | .tag c x => (c, x) :: cxL x
  | .append x y => cxL x ++ cxL y
  | _ => []
def parL : Std.Format → Nat → Nat → List Nat
  | .tag _ x, b, o => o :: parL x (b + 1) (b + 1)
  | .append x y, b, o => parL x b o ++ parL y (b + sp_z x) o
  | _, _, _ => []
def rtL : Std.Format → Nat → List Nat
  | .tag _ _, b => [b]
  | .append x y, b => rtL x b ++ rtL y (b + sp_z x)
  | _, _ => []
theorem cxL_len : ∀ t : Std.Format, (cxL t).length = sp_z t
  | .tag c x => by
    show (cxL x).length + 1 = sp_z x + 1
    rw [cxL_len x]
  | .append x y => by
    show (cxL x ++ cxL y).length = sp_z x + sp_z y
    rw [List.length_append, cxL_len x, cxL_len y]
  | .nil => rfl
  | .line => rfl
  | .align _ => rfl
  | .text _ => rfl
  | .nest _ _ => rfl
  | .group _ _ => rfl
theorem parL_len : ∀ (t : Std.Format) (b o : Nat), (parL t b o).length = sp_z t
  | .tag c x, b, o => by
    show (parL x (b + 1) (b + 1)).length + 1 = sp_z x + 1
    rw [parL_len x]
  | .append x y, b, o => by
    show (parL x b o ++ parL y (b + sp_z x) o).length = sp_z x + sp_z y
    rw [List.length_append, parL_len x, parL_len y]
  | .nil, _, _ => rfl
  | .line, _, _ => rfl
  | .align _, _, _ => rfl
  | .text _, _, _ => rfl
  | .nest _ _, _, _ => rfl
  | .group _ _, _, _ => rfl
theorem get_lt {α : Type} {l : List α} {i : Nat} {y : α} (h : l[i]? = some y) : i < l.length := (List.getElem?_eq_some_iff.mp h).1
theorem get_l {α : Type} {l m : List α} {i : Nat} (h : i < l.length) : (l ++ m)[i]? = l[i]? := List.getElem?_append_left h
theorem get_r {α : Type} {l m : List α} {i : Nat} : (l ++ m)[l.length + i]? = m[i]? := by
  rw [List.getElem?_append_right (Nat.le_add_right _ _), Nat.add_sub_cancel_left]
/-- what lies within a node is a stretch of the lists -/
theorem cx_seg : ∀ (t : Std.Format) (b o i c : Nat) (x : Std.Format), (cxL t)[i]? = some (c, x) → i + 1 + sp_z x ≤ sp_z t ∧ ∀ j, j < sp_z x → (cxL t)[i + 1 + j]? = (cxL x)[j]? ∧ (parL t b o)[i + 1 + j]? = (parL x (b + i + 1) (b + i + 1))[j]?
  | .tag c0 x0, b, o, i, c, x, h => by
    cases i with
    | zero =>
      have h : some (c0, x0) = some (c, x) := h
      cases h
      refine ⟨by show 0 + 1 + sp_z x0 ≤ sp_z x0 + 1; omega, fun j hj => ?_⟩
      rw [show 0 + 1 + j = j + 1 by omega]
      exact ⟨rfl, rfl⟩
    | succ i =>
      have h : (cxL x0)[i]? = some (c, x) := h
      have ih := cx_seg x0 (b + 1) (b + 1) i c x h
      refine ⟨by show i + 1 + 1 + sp_z x ≤ sp_z x0 + 1; omega, fun j hj => ?_⟩
      have q := ih.2 j hj
      rw [show i + 1 + 1 + j = (i + 1 + j) + 1 by omega, show b + (i + 1) + 1 = b + 1 + i + 1 by omega]
      exact q
  | .append x0 y0, b, o, i, c, x, h => by
    have h : (cxL x0 ++ cxL y0)[i]? = some (c, x) := h
    rcases get_app h with h | ⟨j0, e, hh⟩
    · have ih := cx_seg x0 b o i c x h
      refine ⟨by show i + 1 + sp_z x ≤ sp_z x0 + sp_z y0; omega, fun j hj => ?_⟩
      show (cxL x0 ++ cxL y0)[i + 1 + j]? = _ ∧ (parL x0 b o ++ parL y0 (b + sp_z x0) o)[i + 1 + j]? = _
      rw [get_l (by rw [cxL_len]; omega), get_l (by rw [parL_len]; omega)]
      exact ih.2 j hj
    · rw [cxL_len] at e
      subst e
      have ih := cx_seg y0 (b + sp_z x0) o j0 c x hh
      refine ⟨by show sp_z x0 + j0 + 1 + sp_z x ≤ sp_z x0 + sp_z y0; omega, fun j hj => ?_⟩
      show (cxL x0 ++ cxL y0)[sp_z x0 + j0 + 1 + j]? = _ ∧ (parL x0 b o ++ parL y0 (b + sp_z x0) o)[sp_z x0 + j0 + 1 + j]? = _
      have e1 : (cxL x0 ++ cxL y0)[sp_z x0 + j0 + 1 + j]? = (cxL y0)[j0 + 1 + j]? := by
        rw [show sp_z x0 + j0 + 1 + j = (cxL x0).length + (j0 + 1 + j) by rw [cxL_len]; omega]
        exact get_r
      have e2 : (parL x0 b o ++ parL y0 (b + sp_z x0) o)[sp_z x0 + j0 + 1 + j]? = (parL y0 (b + sp_z x0) o)[j0 + 1 + j]? := by
        rw [show sp_z x0 + j0 + 1 + j = (parL x0 b o).length + (j0 + 1 + j) by rw [parL_len]; omega]
        exact get_r
      rw [e1, e2, show b + (sp_z x0 + j0) + 1 = b + sp_z x0 + j0 + 1 by omega]
      exact ih.2 j hj
theorem par_val : ∀ (t : Std.Format) (b o i v : Nat), (parL t b o)[i]? = some v → v = o ∨ (b + 1 ≤ v ∧ v ≤ b + i)
  | .tag c0 x0, b, o, i, v, h => by
    cases i with
    | zero =>
      have h : some o = some v := h
      cases h
      exact Or.inl rfl
    | succ i =>
      have h : (parL x0 (b + 1) (b + 1))[i]? = some v := h
      rcases par_val x0 (b + 1) (b + 1) i v h with h | h
      · exact Or.inr ⟨by omega, by omega⟩
      · exact Or.inr ⟨by omega, by omega⟩
  | .append x0 y0, b, o, i, v, h => by
    have h : (parL x0 b o ++ parL y0 (b + sp_z x0) o)[i]? = some v := h
    rcases get_app h with h | ⟨j0, e, h⟩
    · exact par_val x0 b o i v h
    · rw [parL_len] at e
      rcases par_val y0 (b + sp_z x0) o j0 v h with h | h
      · exact Or.inl h
      · exact Or.inr ⟨by omega, by omega⟩
/-- a node whose outer node lies within another lies there too -/
theorem par_in : ∀ (t : Std.Format) (b o i j q c : Nat) (x : Std.Format), o ≤ b → (cxL t)[i]? = some (c, x) → (parL t b o)[j]? = some (b + q + 1) → i ≤ q → q < i + 1 + sp_z x → j < i + 1 + sp_z x
  | .tag c0 x0, b, o, i, j, q, c, x, ho, h, hp, h1, h2 => by
    cases i with
    | zero =>
      have h : some (c0, x0) = some (c, x) := h
      cases h
      have := get_lt hp
      rw [parL_len] at this
      have : j < sp_z x0 + 1 := this
      omega
    | succ i =>
      have h : (cxL x0)[i]? = some (c, x) := h
      cases j with
      | zero =>
        have hp : some o = some (b + q + 1) := hp
        cases hp
        omega
      | succ j =>
        have hp : (parL x0 (b + 1) (b + 1))[j]? = some (b + q + 1) := hp
        rw [show b + q + 1 = b + 1 + (q - 1) + 1 by omega] at hp
        have := par_in x0 (b + 1) (b + 1) i j (q - 1) c x (Nat.le_refl _) h hp (by omega) (by omega)
        omega
  | .append x0 y0, b, o, i, j, q, c, x, ho, h, hp, h1, h2 => by
    have h : (cxL x0 ++ cxL y0)[i]? = some (c, x) := h
    have hp : (parL x0 b o ++ parL y0 (b + sp_z x0) o)[j]? = some (b + q + 1) := hp
    rcases get_app h with h | ⟨i0, e, h⟩
    · have hb := (cx_seg x0 b o i c x h).1
      rcases get_app hp with hp | ⟨j0, e2, hp⟩
      · exact par_in x0 b o i j q c x ho h hp h1 h2
      · rcases par_val y0 _ o j0 _ hp with h3 | h3
        · omega
        · omega
    · rw [cxL_len] at e
      rcases get_app hp with hp | ⟨j0, e2, hp⟩
      · have := get_lt hp
        rw [parL_len] at this
        rcases par_val x0 _ o j _ hp with h3 | h3
        · omega
        · omega
      · rw [parL_len] at e2
        rw [show b + q + 1 = b + sp_z x0 + (q - sp_z x0) + 1 by omega] at hp
        have := par_in y0 (b + sp_z x0) o i0 j0 (q - sp_z x0) c x (by omega) h hp (by omega) (by omega)
        omega
theorem rt_in : ∀ (t : Std.Format) (b r : Nat), r ∈ rtL t b → b ≤ r ∧ r < b + sp_z t
  | .tag c0 x0, b, r, h => by
    have h : r ∈ [b] := h
    rw [List.mem_singleton.mp h]
    exact ⟨Nat.le_refl _, by show b < b + (sp_z x0 + 1); omega⟩
  | .append x0 y0, b, r, h => by
    have h : r ∈ rtL x0 b ++ rtL y0 (b + sp_z x0) := h
    show b ≤ r ∧ r < b + (sp_z x0 + sp_z y0)
    rcases List.mem_append.mp h with h | h
    · have := rt_in x0 b r h; omega
    · have := rt_in y0 _ r h; omega
  | .nil, _, _, h => (nomatch h)
  | .line, _, _, h => (nomatch h)
  | .align _, _, _, h => (nomatch h)
  | .text _, _, _, h => (nomatch h)
  | .nest _ _, _, _, h => (nomatch h)
  | .group _ _, _, _, h => (nomatch h)
/-- the roots are the nodes whose outer one is the forest's -/
theorem rt_par : ∀ (t : Std.Format) (b o i : Nat), o ≤ b → ((parL t b o)[i]? = some o ↔ (b + i) ∈ rtL t b)
  | .tag c0 x0, b, o, i, ho => by
    show _ ↔ b + i ∈ [b]
    rw [List.mem_singleton]
    cases i with
    | zero => exact ⟨fun _ => rfl, fun _ => rfl⟩
    | succ i =>
      constructor
      · intro h
        have h : (parL x0 (b + 1) (b + 1))[i]? = some o := h
        rcases par_val x0 _ _ _ _ h with h | h
        · omega
        · omega
      · intro h; omega
  | .append x0 y0, b, o, i, ho => by
    show (parL x0 b o ++ parL y0 (b + sp_z x0) o)[i]? = some o ↔ b + i ∈ rtL x0 b ++ rtL y0 (b + sp_z x0)
    rw [List.mem_append]
    by_cases c : i < sp_z x0
    · rw [get_l (by rw [parL_len]; exact c), rt_par x0 b o i ho]
      refine ⟨Or.inl, fun h => h.elim id (fun h => ?_)⟩
      have := rt_in y0 _ _ h
      omega
    · obtain ⟨j, rfl⟩ : ∃ j, i = sp_z x0 + j := ⟨i - sp_z x0, by omega⟩
      have e : (parL x0 b o ++ parL y0 (b + sp_z x0) o)[sp_z x0 + j]? = (parL y0 (b + sp_z x0) o)[j]? := by
        rw [show sp_z x0 + j = (parL x0 b o).length + j by rw [parL_len]]
        exact get_r
      rw [e, rt_par y0 (b + sp_z x0) o j (by omega), show b + (sp_z x0 + j) = b + sp_z x0 + j by omega]
      refine ⟨Or.inr, fun h => h.elim (fun h => ?_) id⟩
      have := rt_in x0 _ _ h
      omega
  | .nil, _, _, _, _ => ⟨fun h => (nomatch h), fun h => (nomatch h)⟩
  | .line, _, _, _, _ => ⟨fun h => (nomatch h), fun h => (nomatch h)⟩
  | .align _, _, _, _, _ => ⟨fun h => (nomatch h), fun h => (nomatch h)⟩
  | .text _, _, _, _, _ => ⟨fun h => (nomatch h), fun h => (nomatch h)⟩
  | .nest _ _, _, _, _, _ => ⟨fun h => (nomatch h), fun h => (nomatch h)⟩
  | .group _ _, _, _, _, _ => ⟨fun h => (nomatch h), fun h => (nomatch h)⟩
/-- nodes that follow each other, each from the end of the one ahead -/
def lnkL (en : Nat → Nat) : List Nat → Nat → Nat → Prop
  | [], b, e => b = e
  | r :: L, b, e => (r = b ∧ b < en b ∧ en b ≤ e) ∧ lnkL en L (en b) e
theorem lnkL_le {en : Nat → Nat} : ∀ (L : List Nat) (b e : Nat), lnkL en L b e → b ≤ e
  | [], b, e, h => Nat.le_of_eq h
  | r :: L, b, e, h => by have := h.1; omega
theorem lnkL_app {en : Nat → Nat} : ∀ (L1 L2 : List Nat) (b m e : Nat), lnkL en L1 b m → lnkL en L2 m e → lnkL en (L1 ++ L2) b e
  | [], L2, b, m, e, h1, h2 => by
    have h1 : b = m := h1
    rw [h1]; exact h2
  | r :: L1, L2, b, m, e, h1, h2 => by
    have := lnkL_le L2 m e h2
    exact ⟨⟨h1.1.1, h1.1.2.1, by have := h1.1.2.2; omega⟩, lnkL_app L1 L2 (en b) m e h1.2 h2⟩
def enOf (en : Nat → Nat) (t : Std.Format) (b : Nat) : Prop := ∀ i c x, (cxL t)[i]? = some (c, x) → en (b + i) = b + i + 1 + sp_z x
theorem enOf_l {en : Nat → Nat} {x y : Std.Format} {b : Nat} (h : enOf en (.append x y) b) : enOf en x b := fun i c z hz => h i c z (by
  show (cxL x ++ cxL y)[i]? = _
  rw [get_l (get_lt hz)]; exact hz)
theorem enOf_r {en : Nat → Nat} {x y : Std.Format} {b : Nat} (h : enOf en (.append x y) b) : enOf en y (b + sp_z x) := fun i c z hz => by
  have := h (sp_z x + i) c z (by
    show (cxL x ++ cxL y)[sp_z x + i]? = _
    rw [show sp_z x + i = (cxL x).length + i by rw [cxL_len], get_r]; exact hz)
  rw [show b + sp_z x + i = b + (sp_z x + i) by omega]
  exact this
theorem enOf_t {en : Nat → Nat} {x : Std.Format} {c b : Nat} (h : enOf en (.tag c x) b) : en b = b + 1 + sp_z x ∧ enOf en x (b + 1) := by
  refine ⟨h 0 c x rfl, fun i c' z hz => ?_⟩
  have := h (i + 1) c' z hz
  rw [show b + 1 + i = b + (i + 1) by omega]
  exact this
theorem rt_lnk {en : Nat → Nat} : ∀ (t : Std.Format) (b : Nat), enOf en t b → lnkL en (rtL t b) b (b + sp_z t)
  | .tag c0 x0, b, h => by
    have := (enOf_t h).1
    refine ⟨⟨rfl, by omega, by show en b ≤ b + (sp_z x0 + 1); omega⟩, ?_⟩
    show en b = b + (sp_z x0 + 1)
    omega
  | .append x0 y0, b, h => by
    show lnkL en (rtL x0 b ++ rtL y0 (b + sp_z x0)) b (b + (sp_z x0 + sp_z y0))
    rw [← Nat.add_assoc]
    exact lnkL_app _ _ _ _ _ (rt_lnk x0 b (enOf_l h)) (rt_lnk y0 _ (enOf_r h))
  | .nil, _, _ => rfl
  | .line, _, _ => rfl
  | .align _, _, _ => rfl
  | .text _, _, _ => rfl
  | .nest _ _, _, _ => rfl
  | .group _ _, _, _ => rfl
theorem lnkL_get {en : Nat → Nat} : ∀ (L : List Nat) (b e k r : Nat), lnkL en L b e → L[k]? = some r → (b ≤ r ∧ r < e) ∧ r < en r ∧ en r ≤ e ∧ (∀ r', L[k + 1]? = some r' → r' = en r) ∧ (L[k + 1]? = none → en r = e)
  | [], _, _, _, _, _, h => by cases h
  | r0 :: L, b, e, k, r, h, hk => by
    cases k with
    | zero =>
      have hk : some r0 = some r := hk
      cases hk
      obtain ⟨⟨h1, h2, h3⟩, h4⟩ := h
      subst h1
      refine ⟨⟨Nat.le_refl _, by omega⟩, h2, h3, fun r' h' => ?_, fun h' => ?_⟩
      · have h' : L[0]? = some r' := h'
        cases L with
        | nil => cases h'
        | cons y L => cases h'; exact h4.1.1
      · have h' : L[0]? = none := h'
        cases L with
        | nil => exact h4
        | cons y L => cases h'
    | succ k =>
      have hk : L[k]? = some r := hk
      have ih := lnkL_get L (en b) e k r h.2 hk
      exact ⟨⟨by have := h.1.2.1; omega, ih.1.2⟩, ih.2.1, ih.2.2.1, ih.2.2.2.1, ih.2.2.2.2⟩
