theorem Blk_root {a : Nat → Nat → Int32} {t : Std.Format} : ∀ {b r : Nat}, Blk a t b r → b ≤ r ∧ r < b + sp_z t := by
  intro b r h
  unfold Blk at h
  split at h
  · obtain ⟨rfl, -⟩ := h
    simp [sp_z]
  · obtain ⟨⟨rfl, -⟩, -⟩ := h
    simp only [sp_z]; omega
  · obtain ⟨⟨rfl, -⟩, -⟩ := h
    simp only [sp_z]; omega
  · obtain ⟨⟨rfl, -⟩, -⟩ := h
    simp only [sp_z]; omega
  · exact h.elim
/-- two rows of nodes agree on a tree's place: all but the root's around -/
def sameOn (a a' : Nat → Nat → Int32) (b n r : Nat) : Prop := ∀ i, b ≤ i → i < b + n → (a' r_sort i = a r_sort i ∧ a' r_first i = a r_first i) ∧ (a' r_variable i = a r_variable i ∧ a' r_isStmt i = a r_isStmt i) ∧ (¬ i = r → a' r_around i = a r_around i)
theorem ndF_same {a a' : Nat → Nat → Int32} {b n r i c : Nat} (h : sameOn a a' b n r) (h1 : b ≤ i) (h2 : i < b + n) (hf : ndF a i c) : ndF a' i c := by
  obtain ⟨⟨e1, e2⟩, ⟨e3, e4⟩, -⟩ := h i h1 h2
  exact ⟨⟨e1.trans hf.1.1, e2.trans hf.1.2⟩, e3.trans hf.2.1, e4.trans hf.2.2⟩
theorem sameOn_sub {a a' : Nat → Nat → Int32} {b n r b' n' r' : Nat} (h : sameOn a a' b n r) (h1 : b ≤ b') (h2 : b' + n' ≤ b + n) (h3 : r < b' ∨ b' + n' ≤ r) : sameOn a a' b' n' r' := by
  intro i hi hj
  obtain ⟨e1, e2, e3⟩ := h i (by omega) (by omega)
  exact ⟨e1, e2, fun _ => e3 (by omega)⟩
