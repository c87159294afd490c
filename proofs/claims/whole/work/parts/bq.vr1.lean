/-! variable: both answers -/
theorem nd_cnt {Q : Nat → Bool} : ∀ (W L : List Nat), W.Nodup → (∀ x ∈ W, x ∈ L) → L.length ≤ W.length → W.countP Q = L.countP Q
  | [], L, _, _, h => by
    have : L = [] := List.eq_nil_of_length_eq_zero (by have : ([] : List Nat).length = 0 := rfl; omega)
    rw [this]
  | x :: W, L, hn, hs, h => by
    have hx := hs x List.mem_cons_self
    have hn := List.nodup_cons.mp hn
    have p := List.perm_cons_erase hx
    have ih := nd_cnt (Q := Q) W (L.erase x) hn.2 (fun y hy => by
      have : ¬ y = x := fun e => hn.1 (e ▸ hy)
      exact (List.mem_erase_of_ne this).mpr (hs y (List.mem_cons_of_mem _ hy))) (by
        rw [List.length_erase_of_mem hx]
        have : (x :: W).length = W.length + 1 := rfl
        omega)
    rw [p.countP_eq, List.countP_cons, List.countP_cons, ih]
/-- counting over [p, p + j) -/
def cQ (Q : Nat → Prop) [DecidablePred Q] : Nat → Nat → Nat
  | 0, _ => 0
  | j + 1, p => (if Q p then 1 else 0) + cQ Q j (p + 1)
theorem cQ_range (Q : Nat → Prop) [DecidablePred Q] : ∀ (j p : Nat), cQ Q j p = (List.range' p j).countP (fun x => decide (Q x))
  | 0, p => rfl
  | j + 1, p => by
    unfold cQ
    rw [List.range'_succ, List.countP_cons, cQ_range Q j (p + 1), Nat.add_comm]
    congr 1
    by_cases c : Q p
    · rw [if_pos c, if_pos (by simpa using c)]
    · rw [if_neg c, if_neg (by simpa using c)]
theorem cQ_perm {N : Nat} {g : Nat → Nat} (h1 : ∀ i, i < N → g i < N) (h2 : ∀ i j, i < N → j < N → g i = g j → i = j) (Q : Nat → Prop) [DecidablePred Q] : cQ (fun i => Q (g i)) N 0 = cQ Q N 0 := by
  rw [cQ_range, cQ_range]
  have e : (List.range' 0 N).countP (fun x => decide (Q (g x))) = ((List.range' 0 N).map g).countP (fun x => decide (Q x)) := by
    rw [List.countP_map]
    rfl
  rw [e]
  refine nd_cnt _ _ ?_ (fun x hx => ?_) (by rw [List.length_map]; exact Nat.le_refl _)
  · refine List.pairwise_map.mpr ((List.nodup_range' (s := 0) (n := N) 1).imp_of_mem ?_)
    intro x y hx hy n e
    have := List.mem_range'_1.mp hx
    have := List.mem_range'_1.mp hy
    exact n (h2 x y (by omega) (by omega) e)
  · obtain ⟨i, hi, rfl⟩ := List.mem_map.mp hx
    have := List.mem_range'_1.mp hi
    exact List.mem_range'_1.mpr ⟨Nat.zero_le _, by have := h1 i (by omega); omega⟩
section VR1
variable {a b : Nat → Nat → Int32} {V : Nat} {t : Std.Format} {f : Nat → Int64}
theorem vlR_eq {v : Nat} : ∀ (j p U G : Nat) (c : Int32), (c = 0 ∨ c = 1) → (vlR b v j p (nI U) (nI G) c).1 = nI (U + cQ (fun p => (b r_isStmt p = 0 ∧ b r_variable p = nI v) ∧ ¬ b r_sort p = 61) j p) ∧ (vlR b v j p (nI U) (nI G) c).2.1 = nI (G + cQ (fun p => (b r_isStmt p = 0 ∧ b r_variable p = nI v) ∧ b r_sort p = 61) j p) ∧ (((vlR b v j p (nI U) (nI G) c).2.2 = 0) ↔ (c = 0 ∨ ∃ q, (p ≤ q ∧ q < p + j) ∧ (b r_isStmt q = 0 ∧ b r_variable q = nI v) ∧ b r_sort q = 61 ∧ twD b v q)) ∧ ((vlR b v j p (nI U) (nI G) c).2.2 = 0 ∨ (vlR b v j p (nI U) (nI G) c).2.2 = 1)
  | 0, p, U, G, c, hc => ⟨rfl, rfl, ⟨Or.inl, fun u => u.elim id (fun ⟨q, h, _⟩ => by omega)⟩, hc⟩
  | j + 1, p, U, G, c, hc => by
    unfold vlR cQ
    by_cases e : b r_isStmt p = 0 ∧ b r_variable p = nI v
    · rw [if_pos e]
      have hc' : (if ¬ c = 0 ∧ ¬ (b r_sort p = 61 ∧ twD b v p) then (1 : Int32) else 0) = 0 ∨ (if ¬ c = 0 ∧ ¬ (b r_sort p = 61 ∧ twD b v p) then (1 : Int32) else 0) = 1 := by
        split
        · exact Or.inr rfl
        · exact Or.inl rfl
      have key : ((if ¬ c = 0 ∧ ¬ (b r_sort p = 61 ∧ twD b v p) then (1 : Int32) else 0) = 0) ↔ (c = 0 ∨ (b r_sort p = 61 ∧ twD b v p)) := by
        by_cases q : ¬ c = 0 ∧ ¬ (b r_sort p = 61 ∧ twD b v p)
        · rw [if_pos q]
          exact ⟨fun u => absurd u (by decide), fun u => u.elim (fun w => absurd w q.1) (fun w => absurd w q.2)⟩
        · rw [if_neg q]
          refine ⟨fun _ => ?_, fun _ => rfl⟩
          by_cases q0 : c = 0
          · exact Or.inl q0
          · exact Or.inr (Classical.byContradiction (fun w => q ⟨q0, w⟩))
      have fin : ∀ c0 : Int32, (c0 = 0 ↔ (c = 0 ∨ (b r_sort p = 61 ∧ twD b v p))) → ((c0 = 0 ∨ ∃ q, (p + 1 ≤ q ∧ q < p + 1 + j) ∧ (b r_isStmt q = 0 ∧ b r_variable q = nI v) ∧ b r_sort q = 61 ∧ twD b v q) ↔ (c = 0 ∨ ∃ q, (p ≤ q ∧ q < p + (j + 1)) ∧ (b r_isStmt q = 0 ∧ b r_variable q = nI v) ∧ b r_sort q = 61 ∧ twD b v q)) := by
        intro c0 hk
        rw [hk]
        constructor
        · rintro ((h | h) | ⟨q, h1, h2⟩)
          · exact Or.inl h
          · exact Or.inr ⟨p, by omega, e, h⟩
          · exact Or.inr ⟨q, by omega, h2⟩
        · rintro (h | ⟨q, h1, h2⟩)
          · exact Or.inl (Or.inl h)
          · by_cases eq : q = p
            · subst eq
              exact Or.inl (Or.inr h2.2)
            · exact Or.inr ⟨q, by omega, h2⟩
      generalize (if ¬ c = 0 ∧ ¬ (b r_sort p = 61 ∧ twD b v p) then (1 : Int32) else 0) = c0 at hc' key ⊢
      by_cases s : b r_sort p = 61
      · have ih := vlR_eq (v := v) j (p + 1) (U + 0) (G + 1) c0 hc'
        have f1 : (if b r_sort p = 61 then (0 : Int32) else 1) = 0 := if_pos s
        have f2 : (if b r_sort p = 61 then (1 : Int32) else 0) = 1 := if_pos s
        have f3 : (if (b r_isStmt p = 0 ∧ b r_variable p = nI v) ∧ ¬ b r_sort p = 61 then 1 else 0) = 0 := if_neg (fun u => u.2 s)
        have f4 : (if (b r_isStmt p = 0 ∧ b r_variable p = nI v) ∧ b r_sort p = 61 then 1 else 0) = 1 := if_pos ⟨e, s⟩
        rw [f1, f2, f3, f4, show nI U + 0 = nI (U + 0) by rw [Nat.add_zero]; exact Int32.add_zero _, show nI G + 1 = nI (G + 1) from nI_1 G]
        exact ⟨by rw [ih.1, Nat.add_assoc], by rw [ih.2.1, Nat.add_assoc], ih.2.2.1.trans (fin _ key), ih.2.2.2⟩
      · have ih := vlR_eq (v := v) j (p + 1) (U + 1) (G + 0) c0 hc'
        have f1 : (if b r_sort p = 61 then (0 : Int32) else 1) = 1 := if_neg s
        have f2 : (if b r_sort p = 61 then (1 : Int32) else 0) = 0 := if_neg s
        have f3 : (if (b r_isStmt p = 0 ∧ b r_variable p = nI v) ∧ ¬ b r_sort p = 61 then 1 else 0) = 1 := if_pos ⟨e, s⟩
        have f4 : (if (b r_isStmt p = 0 ∧ b r_variable p = nI v) ∧ b r_sort p = 61 then 1 else 0) = 0 := if_neg (fun u => s u.2)
        rw [f1, f2, f3, f4, show nI G + 0 = nI (G + 0) by rw [Nat.add_zero]; exact Int32.add_zero _, show nI U + 1 = nI (U + 1) from nI_1 U]
        exact ⟨by rw [ih.1, Nat.add_assoc], by rw [ih.2.1, Nat.add_assoc], ih.2.2.1.trans (fin _ key), ih.2.2.2⟩
    · rw [if_neg e, if_neg (fun u => e u.1), if_neg (fun u => e u.1), Nat.zero_add, Nat.zero_add]
      have ih := vlR_eq (v := v) j (p + 1) U G c hc
      refine ⟨ih.1, ih.2.1, ih.2.2.1.trans ?_, ih.2.2.2⟩
      constructor
      · rintro (h | ⟨q, h1, h2⟩)
        · exact Or.inl h
        · exact Or.inr ⟨q, by omega, h2⟩
      · rintro (h | ⟨q, h1, h2⟩)
        · exact Or.inl h
        · refine Or.inr ⟨q, ?_, h2⟩
          have : ¬ q = p := fun w => e (by rw [← w]; exact h2.1)
          omega
end VR1
