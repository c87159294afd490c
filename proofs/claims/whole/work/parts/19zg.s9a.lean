theorem sp_b_inl {r : sp_R} {f : Nat → Std.Format → sp_R} {q : Nat} (h : sp_b r f = .inl q) : r = .inl q ∨ ∃ q1 u1, r = .inr (q1, u1) ∧ f q1 u1 = .inl q := by
  rcases r with q1 | ⟨q1, u1⟩
  · exact Or.inl h
  · exact Or.inr ⟨q1, u1, rfl, h⟩
theorem sp_e_le {tx : Nat → Int32} {n : Nat} {nm : Nat → Int32} : ∀ (f g lv p : Nat) (t : Std.Format) (q : Nat), g ≤ 6 → p ≤ n → (g = 5 ∨ g = 6 → (sp_ok t ∧ 1 ≤ sp_z t ∧ sp_x tx n p = p) ∧ (g = 5 → ¬ sp_c tx n p = 38)) → sp_e tx n nm f g lv p t = .inl q → q ≤ n := by
  intro f
  induction f with
  | zero => intro g lv p t q _ hp _ h; cases h; exact hp
  | succ f ih =>
    intro g lv p t q hg hp ht h
    have x1 : p < n → sp_x tx n (p + 1) ≤ n := fun h => (sp_x_le (tx := tx) (n := n) (p := p + 1) (by omega)).2
    have hgs : g = 0 ∨ g = 1 ∨ g = 2 ∨ g = 3 ∨ g = 4 ∨ g = 5 ∨ g = 6 := by omega
    rcases hgs with rfl | rfl | rfl | rfl | rfl | rfl | rfl
    · rw [sp_e0] at h
      split at h
      · cases h; exact hp
      split at h
      · next hc =>
        split at h
        · cases h; exact hp
        have hp2 := sp_c_lt hc.2 (by decide)
        rcases sp_b_inl h with h | ⟨q1, u1, e1, e2⟩
        · exact ih 0 _ _ _ _ (by omega) (sp_x_le (tx := tx) (n := n) (by omega)).2 (by omega) h
        · cases e2
      · exact ih 1 lv p .nil q (by omega) hp (by omega) h
    · rw [sp_e1] at h
      split at h
      · cases h; exact hp
      rcases sp_b_inl h with h | ⟨q1, u1, e1, e2⟩
      · exact ih 2 _ _ _ _ (by omega) hp (by omega) h
      · have g1 := sp_e_good f 2 lv p .nil q1 u1 (by omega) hp (by omega) e1
        split at e2
        · next hc =>
          have hq1 := sp_c_lt hc (by decide)
          have y1 := sp_x_le (tx := tx) (n := n) (p := q1 + 1) (by omega)
          rcases sp_b_inl e2 with h | ⟨q2, u2, e3, e4⟩
          · exact ih 0 _ _ _ _ (by omega) y1.2 (by omega) h
          · have g2 := sp_e_good f 0 (lv + 1) _ .nil q2 u2 (by omega) y1.2 (by omega) e3
            split at e4
            · next hc2 =>
              have hq2 := sp_c_lt hc2 (by decide)
              rcases sp_b_inl e4 with h | ⟨q3, u3, e5, e6⟩
              · exact ih 1 _ _ _ _ (by omega) (sp_x_le (tx := tx) (n := n) (by omega)).2 (by omega) h
              · cases e6
            · cases e4
              exact g2.1.1.2
        · cases e2
    · rw [sp_e2] at h
      rcases sp_b_inl h with h | ⟨q1, u1, e1, e2⟩
      · exact ih 3 _ _ _ _ (by omega) hp (by omega) h
      · obtain ⟨⟨⟨h1, h2⟩, ⟨h3, h4⟩, h5⟩, h6⟩ := sp_e_good f 3 lv p .nil q1 u1 (by omega) hp (by omega) e1
        exact ih 5 _ _ _ _ (by omega) h2 (fun _ => ⟨⟨h4, h5.2.2, h3⟩, fun _ => h6.1 (by omega)⟩) e2
    · rw [sp_e3] at h
      rcases sp_b_inl h with h | ⟨q1, u1, e1, e2⟩
      · exact ih 4 _ _ _ _ (by omega) hp (by omega) h
      · obtain ⟨⟨⟨h1, h2⟩, ⟨h3, h4⟩, h5⟩, h6⟩ := sp_e_good f 4 lv p .nil q1 u1 (by omega) hp (by omega) e1
        exact ih 6 _ _ _ _ (by omega) h2 (fun _ => ⟨⟨h4, h5.2.2, h3⟩, fun q => by omega⟩) e2
    · rw [sp_e4] at h
      split at h
      · cases h; exact hp
      split at h
      · next hc =>
        have hp1 := sp_c_lt hc (by decide)
        rcases sp_b_inl h with h | ⟨q1, u1, e1, e2⟩
        · exact ih 0 _ _ _ _ (by omega) (x1 hp1) (by omega) h
        · have g1 := sp_e_good f 0 (lv + 1) _ .nil q1 u1 (by omega) (x1 hp1) (by omega) e1
          split at e2
          · cases e2
          · cases e2
            exact g1.1.1.2
      split at h
      · next hc =>
        have hp1 := sp_c_lt hc (by decide)
        rcases sp_b_inl h with h | ⟨q1, u1, e1, e2⟩
        · exact ih 4 _ _ _ _ (by omega) (x1 hp1) (by omega) h
        · cases e2
      split at h
      · split at h
        · cases h; exact hp
        · cases h
      split at h
      · cases h
      · cases h; exact hp
    · rw [sp_e5] at h
      obtain ⟨⟨t1, t2, t3⟩, t4⟩ := ht (Or.inl rfl)
      split at h
      · next hc =>
        have hp1 := sp_c_lt hc (by decide)
        rcases sp_b_inl h with h | ⟨q1, u1, e1, e2⟩
        · exact ih 3 _ _ _ _ (by omega) (x1 hp1) (by omega) h
        · obtain ⟨⟨⟨h1, h2⟩, ⟨h3, h4⟩, h5⟩, h6⟩ := sp_e_good f 3 lv _ .nil q1 u1 (by omega) (x1 hp1) (by omega) e1
          exact ih 5 _ _ _ _ (by omega) h2 (fun _ => ⟨⟨sp_ok_2 t1 h4, by simp only [sp_z]; omega, h3⟩, fun _ => h6.1 (by omega)⟩) e2
      · cases h
    · rw [sp_e6] at h
      obtain ⟨⟨t1, t2, t3⟩, -⟩ := ht (Or.inr rfl)
      split at h
      · next hc =>
        have hp1 := sp_c_lt hc (by decide)
        rcases sp_b_inl h with h | ⟨q1, u1, e1, e2⟩
        · exact ih 4 _ _ _ _ (by omega) (x1 hp1) (by omega) h
        · obtain ⟨⟨⟨h1, h2⟩, ⟨h3, h4⟩, h5⟩, h6⟩ := sp_e_good f 4 lv _ .nil q1 u1 (by omega) (x1 hp1) (by omega) e1
          exact ih 6 _ _ _ _ (by omega) h2 (fun _ => ⟨⟨sp_ok_2 t1 h4, by simp only [sp_z]; omega, h3⟩, fun q => by omega⟩) e2
      · cases h
