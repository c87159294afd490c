def ofN : Nat → Int32
  | 0 => -1
  | i + 1 => nI i
theorem lpI_n {s : Nat} (hs : s < 256) : lpI (nI s) ↔ is_lp s := by
  unfold lpI is_lp
  have h1 := nI_eq (a := s) (b := 87) (by omega) (by omega)
  have h2 := nI_eq (a := s) (b := 68) (by omega) (by omega)
  have h3 := nI_eq (a := s) (b := 70) (by omega) (by omega)
  exact ⟨fun q => q.elim (fun q => Or.inl (h1.mp q)) (fun q => q.elim (fun q => Or.inr (Or.inl (h2.mp q))) (fun q => Or.inr (Or.inr (h3.mp q)))), fun q => q.elim (fun q => Or.inl (h1.mpr q)) (fun q => q.elim (fun q => Or.inr (Or.inl (h2.mpr q))) (fun q => Or.inr (Or.inr (h3.mpr q))))⟩
theorem lab_n {l m : Nat} (hl : 0 < l) (hl2 : l < 256) (hm : m < 256) : nI m - (if m = 0 then 1 else 0) = nI l ↔ m = l := by
  by_cases e : m = 0
  · subst e
    constructor
    · intro q
      have q : nI 0 - 1 = nI l := q
      rw [show nI 0 - 1 = (-1 : Int32) by decide] at q
      exact absurd q.symm (nI_m1 (by omega))
    · intro q; omega
  · rw [if_neg e, show nI m - 0 = nI m by simp]
    exact nI_eq (by omega) (by omega)
theorem tgN_cx {a : Nat → Nat → Int32} {b j : Nat} (hj : j < 256) (hb : b ≤ 300) : ∀ cx : cx_T, cxR a b cx → tgN a (nI j) cx.length = ofN (cx_near j cx) := by
  intro cx
  induction cx with
  | nil => intro _; rfl
  | cons q r ih =>
    obtain ⟨i, s, m⟩ := q
    intro hc
    obtain ⟨⟨⟨h1, h2⟩, ⟨h3, h4⟩, -⟩, h7⟩ := hc
    show (if lpI (a r_sort (a r_open r.length).toNatClampNeg) ∨ (a r_sort (a r_open r.length).toNatClampNeg = 83 ∧ nI j = 66) then a r_open r.length else tgN a (nI j) r.length) = ofN (if is_lp s ∨ (j = 66 ∧ s = 83) then i + 1 else cx_near j r)
    rw [h1, nI_clamp (by omega), h3, ih h7]
    have e1 : nI s = 83 ↔ s = 83 := nI_eq (a := s) (b := 83) (by omega) (by omega)
    have e2 : nI j = 66 ↔ j = 66 := nI_eq (a := j) (b := 66) (by omega) (by omega)
    by_cases c1 : is_lp s ∨ (j = 66 ∧ s = 83)
    · rw [if_pos c1, if_pos (c1.elim (fun q => Or.inl ((lpI_n h4).mpr q)) (fun q => Or.inr ⟨e1.mpr q.2, e2.mpr q.1⟩))]
      rfl
    · rw [if_neg c1, if_neg (fun q => c1 (q.elim (fun q => Or.inl ((lpI_n h4).mp q)) (fun q => Or.inr ⟨e2.mp q.2, e1.mp q.1⟩)))]
theorem lbH_cx {a : Nat → Nat → Int32} {b l : Nat} (hl : 0 < l) (hl2 : l < 256) (hb : b ≤ 300) : ∀ cx : cx_T, cxR a b cx → (lbH a (nI l) cx.length ↔ cx_lab cx l) := by
  intro cx
  induction cx with
  | nil => intro _; exact ⟨fun h => h.elim, fun h => by cases h⟩
  | cons q r ih =>
    obtain ⟨i, s, m⟩ := q
    intro hc
    obtain ⟨⟨⟨h1, h2⟩, ⟨h3, h4⟩, h5, h6⟩, h7⟩ := hc
    rw [cx_lab_cons]
    show (lbH a (nI l) r.length ∨ a r_label (a r_open r.length).toNatClampNeg = nI l) ↔ (m = l ∨ cx_lab r l)
    rw [h1, nI_clamp (by omega), h5, ih h7, lab_n hl hl2 h6]
    exact Or.comm
theorem tgL_no {a : Nat → Nat → Int32} {b l K : Nat} {c : Int32} (hl : 0 < l) (hl2 : l < 256) (hb : b ≤ 300) : ∀ cx : cx_T, cxR a b cx → ¬ cx_lab cx l → tgL a c (nI l) K cx.length = -1 := by
  intro cx
  induction cx with
  | nil => intro _ _; rfl
  | cons q r ih =>
    obtain ⟨i, s, m⟩ := q
    intro hc hn
    obtain ⟨⟨⟨h1, h2⟩, ⟨h3, h4⟩, h5, h6⟩, h7⟩ := hc
    rw [cx_lab_cons] at hn
    show (if a r_label (a r_open r.length).toNatClampNeg = nI l then (if c = 66 then a r_open r.length else if r.length + 1 < K ∧ lpI (a r_sort (a r_open (r.length + 1)).toNatClampNeg) then a r_open (r.length + 1) else tgL a c (nI l) K r.length) else tgL a c (nI l) K r.length) = -1
    rw [h1, nI_clamp (by omega), h5, if_neg (fun q => hn (Or.inl ((lab_n hl hl2 h6).mp q)))]
    exact ih h7 (fun q => hn (Or.inr q))
theorem tgL_cx {a : Nat → Nat → Int32} {b l K j : Nat} (hl : 0 < l) (hl2 : l < 256) (hj : j < 256) (hb : b ≤ 300) : ∀ (cx : cx_T) (w : Nat), cx.length ≤ K → cxR a b cx → cxU cx → ((¬ w = 0) ↔ (cx.length < K ∧ lpI (a r_sort (a r_open cx.length).toNatClampNeg))) → (¬ w = 0 → a r_open cx.length = nI (w - 1)) → tgL a (nI j) (nI l) K cx.length = ofN (cx_to j l w cx) := by
  intro cx
  induction cx with
  | nil => intro w _ _ _ _ _; rfl
  | cons q r ih =>
    obtain ⟨i, s, m⟩ := q
    intro w hK hc hU hw1 hw2
    have hK : r.length + 1 ≤ K := hK
    obtain ⟨⟨⟨h1, h2⟩, ⟨h3, h4⟩, h5, h6⟩, h7⟩ := hc
    have hw1 : (¬ w = 0) ↔ (r.length + 1 < K ∧ lpI (a r_sort (a r_open (r.length + 1)).toNatClampNeg)) := hw1
    have hw2 : ¬ w = 0 → a r_open (r.length + 1) = nI (w - 1) := hw2
    have e2 : nI j = 66 ↔ j = 66 := nI_eq (a := j) (b := 66) (by omega) (by omega)
    show (if a r_label (a r_open r.length).toNatClampNeg = nI l then (if nI j = 66 then a r_open r.length else if r.length + 1 < K ∧ lpI (a r_sort (a r_open (r.length + 1)).toNatClampNeg) then a r_open (r.length + 1) else tgL a (nI j) (nI l) K r.length) else tgL a (nI j) (nI l) K r.length) = ofN (if m = l then (if j = 66 then i + 1 else w) else cx_to j l (if is_lp s then i + 1 else 0) r)
    have hlab : a r_label (a r_open r.length).toNatClampNeg = nI l ↔ m = l := by rw [h1, nI_clamp (by omega), h5]; exact lab_n hl hl2 h6
    by_cases c1 : m = l
    · rw [if_pos (hlab.mpr c1), if_pos c1]
      by_cases c2 : j = 66
      · rw [if_pos (e2.mpr c2), if_pos c2, h1]; rfl
      · rw [if_neg (fun q => c2 (e2.mp q)), if_neg c2]
        by_cases c3 : w = 0
        · rw [if_neg (fun q => (hw1.mpr q) c3), c3]
          exact tgL_no hl hl2 hb r h7 (fun q => by
            rcases hU.1 with e | e
            · omega
            · rw [c1] at e; exact e q)
        · rw [if_pos (hw1.mp c3), hw2 c3]
          obtain ⟨w', rfl⟩ : ∃ w', w = w' + 1 := ⟨w - 1, by omega⟩
          rfl
    · rw [if_neg (fun q => c1 (hlab.mp q)), if_neg c1]
      have c2 : r.length < K := by omega
      refine ih _ (by omega) h7 hU.2 ?_ ?_
      · rw [h1, nI_clamp (by omega), h3, lpI_n h4]
        by_cases c3 : is_lp s
        · rw [if_pos c3]; exact ⟨fun _ => ⟨c2, c3⟩, fun _ => by omega⟩
        · rw [if_neg c3]; exact ⟨fun q => absurd rfl q, fun q => absurd q.2 c3⟩
      · intro hne
        by_cases c3 : is_lp s
        · rw [if_pos c3, h1]; rfl
        · rw [if_neg c3] at hne; exact absurd rfl hne
