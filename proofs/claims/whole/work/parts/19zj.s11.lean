section SY
variable {d n : Nat} {P : pv_R} {m0 : Nat → Int32} {a0 : Nat → Nat → Int32} {tx : Nat → Int32}
/-- the rows of a given variable -/
theorem gvX_row (a : Nat → Nat → Int32) (b V u s : Nat) (xV xu xf xb : Int32) {j i : Nat} (h : ¬ (j = 7 ∧ i = b) ∧ ¬ (j = 20 ∧ i = V) ∧ ¬ (j = 21 ∧ i = V) ∧ ¬ (j = 22 ∧ i = V) ∧ ¬ (j = 23 ∧ i = u) ∧ ¬ (j = 24 ∧ i = s)) : gvX a b V u s xV xu xf xb j i = a j i := by
  unfold gvX
  rw [up2_ne _ _ h.2.2.2.2.2, up2_ne _ _ h.2.2.2.2.1, up2_ne _ _ h.2.2.2.1, up2_ne _ _ h.2.2.1, up2_ne _ _ h.2.1, up2_ne _ _ h.1]
theorem gvA_row (a : Nat → Nat → Int32) (b V u s : Nat) (f : Int32) {j i : Nat} (h0 : ¬ (j = 10 ∧ i = b)) (h : ¬ (j = 7 ∧ i = b) ∧ ¬ (j = 20 ∧ i = V) ∧ ¬ (j = 21 ∧ i = V) ∧ ¬ (j = 22 ∧ i = V) ∧ ¬ (j = 23 ∧ i = u) ∧ ¬ (j = 24 ∧ i = s)) : gvA a b V u s f j i = a j i := by
  unfold gvA
  rw [up2_ne _ _ h0]
  exact gvX_row a b V u s _ _ _ _ h
theorem gvX_vals (a : Nat → Nat → Int32) (b V u s : Nat) (xV xu xf xb : Int32) : ((gvX a b V u s xV xu xf xb r_variable b = xV ∧ gvX a b V u s xV xu xf xb r_nameOf V = xu) ∧ (gvX a b V u s xV xu xf xb r_isFinal V = xf ∧ gvX a b V u s xV xu xf xb r_givenAt V = xb)) ∧ (gvX a b V u s xV xu xf xb r_named u = xV ∧ gvX a b V u s xV xu xf xb r_scope s = xV) := by
  unfold gvX
  refine ⟨⟨⟨?_, ?_⟩, ?_, ?_⟩, ?_, ?_⟩
  · exact (up2_ne _ _ (fun q => absurd q.1 (by decide))).trans ((up2_ne _ _ (fun q => absurd q.1 (by decide))).trans ((up2_ne _ _ (fun q => absurd q.1 (by decide))).trans ((up2_ne _ _ (fun q => absurd q.1 (by decide))).trans ((up2_ne _ _ (fun q => absurd q.1 (by decide))).trans (up2_eq _ _ _ _)))))
  · exact (up2_ne _ _ (fun q => absurd q.1 (by decide))).trans ((up2_ne _ _ (fun q => absurd q.1 (by decide))).trans ((up2_ne _ _ (fun q => absurd q.1 (by decide))).trans ((up2_ne _ _ (fun q => absurd q.1 (by decide))).trans (up2_eq _ _ _ _))))
  · exact (up2_ne _ _ (fun q => absurd q.1 (by decide))).trans ((up2_ne _ _ (fun q => absurd q.1 (by decide))).trans ((up2_ne _ _ (fun q => absurd q.1 (by decide))).trans (up2_eq _ _ _ _)))
  · exact (up2_ne _ _ (fun q => absurd q.1 (by decide))).trans ((up2_ne _ _ (fun q => absurd q.1 (by decide))).trans (up2_eq _ _ _ _))
  · exact (up2_ne _ _ (fun q => absurd q.1 (by decide))).trans (up2_eq _ _ _ _)
  · exact up2_eq _ _ _ _
theorem gvA_vals (a : Nat → Nat → Int32) (b V u s : Nat) (f : Int32) : ((gvA a b V u s f r_variable b = nI V ∧ gvA a b V u s f r_nameOf V = nI u) ∧ (gvA a b V u s f r_isFinal V = f ∧ gvA a b V u s f r_givenAt V = nI b)) ∧ (gvA a b V u s f r_named u = nI V ∧ gvA a b V u s f r_scope s = nI V) ∧ gvA a b V u s f r_thereAfter b = thr (gvA a b V u s f r_scope) (s + 1) := by
  obtain ⟨⟨⟨h1, h2⟩, h3, h4⟩, h5, h6⟩ := gvX_vals a b V u s (nI V) (nI u) f (nI b)
  have e : gvA a b V u s f r_scope = gvX a b V u s (nI V) (nI u) f (nI b) r_scope := by
    unfold gvA
    exact funext fun i => up2_ne _ _ (fun q => absurd q.1 (by decide))
  rw [e]
  unfold gvA
  exact ⟨⟨⟨(up2_ne _ _ (fun q => absurd q.1 (by decide))).trans h1, (up2_ne _ _ (fun q => absurd q.1 (by decide))).trans h2⟩, (up2_ne _ _ (fun q => absurd q.1 (by decide))).trans h3, (up2_ne _ _ (fun q => absurd q.1 (by decide))).trans h4⟩, ⟨(up2_ne _ _ (fun q => absurd q.1 (by decide))).trans h5, h6⟩, up2_eq _ _ _ _⟩
theorem gvA_Fs (a : Nat → Nat → Int32) (b V u s : Nat) (f : Int32) (k : Nat) : Fs a (gvA a b V u s f) b k V s := fun j i q => gvA_row a b V u s f (fun e => by have := q.1 (Or.inl (by omega)); omega) ⟨fun e => by have := q.1 (Or.inl (by omega)); omega, fun e => by have := q.2.2.1 (by omega); omega, fun e => by have := q.2.2.1 (by omega); omega, fun e => by have := q.2.2.1 (by omega); omega, fun e => q.2.2.2.2 (Or.inl e.1), fun e => by have := q.2.2.2.1 e.1; omega⟩
theorem gvA_sc (a : Nat → Nat → Int32) (b V u s : Nat) (f : Int32) {i : Nat} (h : ¬ i = s) : gvA a b V u s f r_scope i = a r_scope i := gvA_row a b V u s f (j := 24) (by omega) ⟨by omega, by omega, by omega, by omega, by omega, by omega⟩
theorem gvA_no (a : Nat → Nat → Int32) (b V u s : Nat) (f : Int32) {i : Nat} (h : ¬ i = V) : gvA a b V u s f r_nameOf i = a r_nameOf i := gvA_row a b V u s f (j := 20) (by omega) ⟨by omega, by omega, by omega, by omega, by omega, by omega⟩
theorem gvA_nm (a : Nat → Nat → Int32) (b V u s : Nat) (f : Int32) {i : Nat} (h : ¬ i = u) : gvA a b V u s f r_named i = a r_named i := gvA_row a b V u s f (j := 23) (by omega) ⟨by omega, by omega, by omega, by omega, by omega, by omega⟩
theorem gvA_vOK {a : Nat → Nat → Int32} (b : Nat) {V u s : Nat} (f : Int32) (hV : V < 12) (hu : u < 26) (h : vOK a) : vOK (gvA a b V u s f) := by
  obtain ⟨⟨⟨-, h2⟩, -⟩, ⟨-, h6⟩, -⟩ := gvA_vals a b V u s f
  refine ⟨fun i hi => ?_, fun v hv => ?_⟩
  · by_cases e : i = s
    · rw [e, h6]; exact ⟨V, hV, rfl⟩
    · rw [gvA_sc a b V u s f e]
      exact h.1 i hi
  · by_cases e : v = V
    · rw [e, h2]; exact ⟨u, hu, rfl⟩
    · rw [gvA_no a b V u s f e]
      exact h.2 v hv
theorem scR_gv {a : Nat → Nat → Int32} (b : Nat) {V u s : Nat} (f : Int32) : ∀ sc : sc_T, sc.length ≤ s → (∀ q ∈ sc, q.2 < V) → scR a sc → scR (gvA a b V u s f) sc := by
  intro sc
  induction sc with
  | nil => intro _ _ _; trivial
  | cons q r ih =>
    obtain ⟨x, v⟩ := q
    intro hl hV h
    have hl : r.length + 1 ≤ s := hl
    have hv : v < V := hV (x, v) List.mem_cons_self
    exact ⟨⟨by rw [gvA_sc a b V u s f (by omega)]; exact h.1.1, by rw [gvA_no a b V u s f (by omega)]; exact h.1.2⟩, ih (by omega) (fun q hq => hV q (List.mem_cons_of_mem _ hq)) h.2⟩
end SY
