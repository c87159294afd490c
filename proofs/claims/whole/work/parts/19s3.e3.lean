section SPE
variable {tx : Nat → Int32} {n : Nat} {nm : Nat → Int32}
theorem sp_x_le {p : Nat} (h : p ≤ n) : p ≤ sp_x tx n p ∧ sp_x tx n p ≤ n := by
  have := skp_le tx (n - p) p
  unfold sp_x
  omega
theorem sp_x_x {p : Nat} (h : p ≤ n) : sp_x tx n (sp_x tx n p) = sp_x tx n p := by
  have h1 := sp_x_le (tx := tx) h
  rcases skp_end tx (n - p) p with e | e
  · have e' : sp_x tx n p = n := by unfold sp_x; omega
    rw [e']
    unfold sp_x
    rw [Nat.sub_self]; rfl
  · have e : ¬ (tx (sp_x tx n p) = 32 ∨ tx (sp_x tx n p) = 10) := e
    generalize sp_x tx n p = q at *
    unfold sp_x
    cases n - q with
    | zero => rfl
    | succ k => unfold skp; rw [if_neg e]
theorem sp_c_lt {q : Nat} {c : Int32} (h : sp_c tx n q = c) (hc : ¬ c = -1) : q < n := by
  unfold sp_c at h
  split at h
  · assumption
  · exact absurd h.symm hc
theorem sp_nm_lt {q : Nat} (h : sp_nm (sp_c tx n q)) : q < n := by
  refine Decidable.byContradiction fun hq => ?_
  unfold sp_c at h
  rw [if_neg hq] at h
  exact absurd h.1 (by decide)
theorem sp_e0 (k lv p : Nat) (t : Std.Format) : sp_e tx n nm (k + 1) 0 lv p t = if 30 ≤ lv then .inl p
      else if sp_nm (sp_c tx n p) ∧ sp_c tx n (sp_x tx n (p + 1)) = 61 then
        if nm (sp_c tx n p - 97).toNatClampNeg = -1 then .inl p
        else sp_b (sp_e tx n nm k 0 (lv + 1) (sp_x tx n (sp_x tx n (p + 1) + 1)) .nil) fun q u => .inr (q, .tag (sp_n 61 p ((nm (sp_c tx n p - 97).toNatClampNeg).toNatClampNeg + 1)) u)
      else sp_e tx n nm k 1 lv p .nil := rfl
theorem sp_e1 (k lv p : Nat) (t : Std.Format) : sp_e tx n nm (k + 1) 1 lv p t = if 30 ≤ lv then .inl p
      else sp_b (sp_e tx n nm k 2 lv p .nil) fun q u =>
        if sp_c tx n q = 63 then sp_b (sp_e tx n nm k 0 (lv + 1) (sp_x tx n (q + 1)) .nil) fun q2 u2 =>
          if sp_c tx n q2 = 58 then sp_b (sp_e tx n nm k 1 (lv + 1) (sp_x tx n (q2 + 1)) .nil) fun q3 u3 => .inr (q3, .tag (sp_n 63 (sp_1 u) 0) (.append u (.append u2 u3)))
          else .inl q2
        else .inr (q, u) := rfl
theorem sp_e2 (k lv p : Nat) (t : Std.Format) : sp_e tx n nm (k + 1) 2 lv p t = sp_b (sp_e tx n nm k 3 lv p .nil) fun q u => sp_e tx n nm k 5 lv q u := rfl
theorem sp_e5 (k lv p : Nat) (t : Std.Format) : sp_e tx n nm (k + 1) 5 lv p t = if sp_c tx n p = 124 then sp_b (sp_e tx n nm k 3 lv (sp_x tx n (p + 1)) .nil) fun q u => sp_e tx n nm k 5 lv q (.tag (sp_n 124 (sp_1 t) 0) (.append t u))
      else .inr (p, t) := rfl
theorem sp_e3 (k lv p : Nat) (t : Std.Format) : sp_e tx n nm (k + 1) 3 lv p t = sp_b (sp_e tx n nm k 4 lv p .nil) fun q u => sp_e tx n nm k 6 lv q u := rfl
theorem sp_e6 (k lv p : Nat) (t : Std.Format) : sp_e tx n nm (k + 1) 6 lv p t = if sp_c tx n p = 38 then sp_b (sp_e tx n nm k 4 lv (sp_x tx n (p + 1)) .nil) fun q u => sp_e tx n nm k 6 lv q (.tag (sp_n 38 (sp_1 t) 0) (.append t u))
      else .inr (p, t) := rfl
theorem sp_e4 (k lv p : Nat) (t : Std.Format) : sp_e tx n nm (k + 1) 4 lv p t =
      if 30 ≤ lv then .inl p
      else if sp_c tx n p = 40 then sp_b (sp_e tx n nm k 0 (lv + 1) (sp_x tx n (p + 1)) .nil) fun q u => if sp_c tx n q = 41 then .inr (sp_x tx n (q + 1), u) else .inl q
      else if sp_c tx n p = 33 then sp_b (sp_e tx n nm k 4 (lv + 1) (sp_x tx n (p + 1)) .nil) fun q u => .inr (q, .tag (sp_n 33 p 0) u)
      else if sp_nm (sp_c tx n p) then
        if nm (sp_c tx n p - 97).toNatClampNeg = -1 then .inl p
        else .inr (sp_x tx n (p + 1), .tag (sp_n (sp_c tx n p).toNatClampNeg p ((nm (sp_c tx n p - 97).toNatClampNeg).toNatClampNeg + 1)) .nil)
      else if sp_c tx n p = 48 ∨ sp_c tx n p = 49 ∨ sp_c tx n p = 35 then .inr (sp_x tx n (p + 1), .tag (sp_n (sp_c tx n p).toNatClampNeg p 0) .nil)
      else .inl p := rfl
theorem sp_b_inr {r : sp_R} {f : Nat → Std.Format → sp_R} {q : Nat} {u : Std.Format} (h : sp_b r f = .inr (q, u)) : ∃ q1 u1, r = .inr (q1, u1) ∧ f q1 u1 = .inr (q, u) := by
  rcases r with q1 | ⟨q1, u1⟩
  · cases h
  · exact ⟨q1, u1, rfl, h⟩
theorem sp_ok_1 {c : Nat} {u : Std.Format} (h : sp_ok u) : sp_ok (.tag c u) := by
  cases u with
  | tag c' u' => exact h
  | _ => exact h.elim
theorem sp_ok_2 {c : Nat} {u v : Std.Format} (h : sp_ok u) (h' : sp_ok v) : sp_ok (.tag c (.append u v)) := by
  cases v with
  | tag c' u' => exact ⟨h, h'⟩
  | _ => exact h'.elim
/-- what an e's reading gives: it goes on, to a sign, its tree is no larger than what was read, and the sign behind is none that would go on -/
def sp_G (tx : Nat → Int32) (n g p z0 q : Nat) (u : Std.Format) : Prop := ((p + sp_z u ≤ q + z0 ∧ q ≤ n) ∧ (sp_x tx n q = q ∧ sp_ok u) ∧ (p ≤ q ∧ z0 ≤ sp_z u ∧ 1 ≤ sp_z u)) ∧ ((g ≤ 3 ∨ g = 5 ∨ g = 6) → ¬ sp_c tx n q = 38) ∧ ((g ≤ 2 ∨ g = 5) → ¬ sp_c tx n q = 124) ∧ (g ≤ 1 → ¬ sp_c tx n q = 63)
theorem sp_e_good : ∀ (f g lv p : Nat) (t : Std.Format) (q : Nat) (u : Std.Format), g ≤ 6 → p ≤ n → (g = 5 ∨ g = 6 → (sp_ok t ∧ 1 ≤ sp_z t ∧ sp_x tx n p = p) ∧ (g = 5 → ¬ sp_c tx n p = 38)) → sp_e tx n nm f g lv p t = .inr (q, u) → sp_G tx n g p (if g = 5 ∨ g = 6 then sp_z t else 0) q u := by
  intro f
  induction f with
  | zero => intro g lv p t q u _ _ _ h; cases h
  | succ f ih =>
    intro g lv p t q u hg hp ht h
    have hgs : g = 0 ∨ g = 1 ∨ g = 2 ∨ g = 3 ∨ g = 4 ∨ g = 5 ∨ g = 6 := by omega
    rcases hgs with rfl | rfl | rfl | rfl | rfl | rfl | rfl
    · rw [sp_e0] at h
      split at h
      · cases h
      · split at h
        · next hc =>
          have hp1 := sp_nm_lt hc.1
          have x1 := sp_x_le (tx := tx) (n := n) (p := p + 1) (by omega)
          have hp2 := sp_c_lt hc.2 (by decide)
          have x2 := sp_x_le (tx := tx) (n := n) (p := sp_x tx n (p + 1) + 1) (by omega)
          split at h
          · cases h
          · obtain ⟨q1, u1, e1, e2⟩ := sp_b_inr h
            cases e2
            obtain ⟨⟨⟨h1, h2⟩, ⟨h3, h4⟩, h5⟩, h6⟩ := ih 0 (lv + 1) _ .nil q u1 (by omega) x2.2 (by omega) e1
            refine ⟨⟨⟨?_, h2⟩, ⟨h3, sp_ok_1 h4⟩, ?_⟩, h6⟩
            · simp only [sp_z] at *; simp at h1 ⊢; omega
            · simp only [sp_z] at *; simp at h1 h5 ⊢; omega
        · have := ih 1 lv p .nil q u (by omega) hp (by omega) h
          exact ⟨this.1, fun _ => this.2.1 (Or.inl (by omega)), fun _ => this.2.2.1 (Or.inl (by omega)), fun _ => this.2.2.2 (by omega)⟩
    · rw [sp_e1] at h
      split at h
      · cases h
      · obtain ⟨q1, u1, e1, e2⟩ := sp_b_inr h
        have g1 := ih 2 lv p .nil q1 u1 (by omega) hp (by omega) e1
        split at e2
        · next hc =>
          obtain ⟨⟨⟨h1, h2⟩, ⟨h3, h4⟩, h5⟩, h6⟩ := g1
          have hp1 := sp_c_lt hc (by decide)
          have x1 := sp_x_le (tx := tx) (n := n) (p := q1 + 1) (by omega)
          obtain ⟨q2, u2, e3, e4⟩ := sp_b_inr e2
          obtain ⟨⟨⟨i1, i2⟩, ⟨i3, i4⟩, i5⟩, i6⟩ := ih 0 (lv + 1) _ .nil q2 u2 (by omega) x1.2 (by omega) e3
          split at e4
          · next hc2 =>
            have hp2 := sp_c_lt hc2 (by decide)
            have x2 := sp_x_le (tx := tx) (n := n) (p := q2 + 1) (by omega)
            obtain ⟨q3, u3, e5, e6⟩ := sp_b_inr e4
            obtain ⟨⟨⟨j1, j2⟩, ⟨j3, j4⟩, j5⟩, j6⟩ := ih 1 (lv + 1) _ .nil q3 u3 (by omega) x2.2 (by omega) e5
            cases e6
            refine ⟨⟨⟨?_, j2⟩, ⟨j3, ⟨h4, i4, j4⟩⟩, ?_⟩, j6⟩
            · simp only [sp_z] at *; simp at h1 i1 j1 ⊢; omega
            · simp only [sp_z] at *; simp at h1 i1 j1 h5 i5 j5 ⊢; omega
          · cases e4
        · next hc =>
          cases e2
          exact ⟨g1.1, fun _ => g1.2.1 (Or.inl (by omega)), fun _ => g1.2.2.1 (Or.inl (by omega)), fun _ => hc⟩
    · rw [sp_e2] at h
      obtain ⟨q1, u1, e1, e2⟩ := sp_b_inr h
      obtain ⟨⟨⟨h1, h2⟩, ⟨h3, h4⟩, h5⟩, h6⟩ := ih 3 lv p .nil q1 u1 (by omega) hp (by omega) e1
      obtain ⟨⟨⟨i1, i2⟩, ⟨i3, i4⟩, i5⟩, i6⟩ := ih 5 lv q1 u1 q u (by omega) h2 (fun _ => ⟨⟨h4, h5.2.2, h3⟩, fun _ => h6.1 (by omega)⟩) e2
      refine ⟨⟨⟨?_, i2⟩, ⟨i3, i4⟩, ?_⟩, fun _ => i6.1 (by omega), fun _ => i6.2.1 (by omega), fun q => by omega⟩
      · simp at h1 i1 ⊢; omega
      · simp at h1 i1 i5 h5 ⊢; omega
    · rw [sp_e3] at h
      obtain ⟨q1, u1, e1, e2⟩ := sp_b_inr h
      obtain ⟨⟨⟨h1, h2⟩, ⟨h3, h4⟩, h5⟩, h6⟩ := ih 4 lv p .nil q1 u1 (by omega) hp (by omega) e1
      obtain ⟨⟨⟨i1, i2⟩, ⟨i3, i4⟩, i5⟩, i6⟩ := ih 6 lv q1 u1 q u (by omega) h2 (fun _ => ⟨⟨h4, h5.2.2, h3⟩, fun q => by omega⟩) e2
      refine ⟨⟨⟨?_, i2⟩, ⟨i3, i4⟩, ?_⟩, fun _ => i6.1 (by omega), fun q => by omega, fun q => by omega⟩
      · simp at h1 i1 ⊢; omega
      · simp at h1 i1 i5 h5 ⊢; omega
    · rw [sp_e4] at h
      split at h
      · cases h
      · split at h
        · next hc =>
          have hp1 := sp_c_lt hc (by decide)
          have x1 := sp_x_le (tx := tx) (n := n) (p := p + 1) (by omega)
          obtain ⟨q1, u1, e1, e2⟩ := sp_b_inr h
          obtain ⟨⟨⟨h1, h2⟩, ⟨h3, h4⟩, h5⟩, h6⟩ := ih 0 (lv + 1) _ .nil q1 u1 (by omega) x1.2 (by omega) e1
          split at e2
          · next hc2 =>
            have hp2 := sp_c_lt hc2 (by decide)
            have x2 := sp_x_le (tx := tx) (n := n) (p := q1 + 1) (by omega)
            cases e2
            refine ⟨⟨⟨?_, x2.2⟩, ⟨sp_x_x (by omega), h4⟩, ?_⟩, fun q => by omega, fun q => by omega, fun q => by omega⟩
            · simp at h1 ⊢; omega
            · simp at h1 h5 ⊢; omega
          · cases e2
        · split at h
          · next hc =>
            have hp1 := sp_c_lt hc (by decide)
            have x1 := sp_x_le (tx := tx) (n := n) (p := p + 1) (by omega)
            obtain ⟨q1, u1, e1, e2⟩ := sp_b_inr h
            obtain ⟨⟨⟨h1, h2⟩, ⟨h3, h4⟩, h5⟩, h6⟩ := ih 4 (lv + 1) _ .nil q1 u1 (by omega) x1.2 (by omega) e1
            cases e2
            refine ⟨⟨⟨?_, h2⟩, ⟨h3, sp_ok_1 h4⟩, ?_⟩, fun q => by omega, fun q => by omega, fun q => by omega⟩
            · simp only [sp_z] at *; simp at h1 ⊢; omega
            · simp only [sp_z] at *; simp at h1 h5 ⊢; omega
          · split at h
            · next hc =>
              have hp1 := sp_nm_lt hc
              have x1 := sp_x_le (tx := tx) (n := n) (p := p + 1) (by omega)
              split at h
              · cases h
              · cases h
                refine ⟨⟨⟨?_, x1.2⟩, ⟨sp_x_x (by omega), trivial⟩, ?_⟩, fun q => by omega, fun q => by omega, fun q => by omega⟩
                · simp [sp_z]; omega
                · simp [sp_z]; omega
            · split at h
              · next hc =>
                have hp1 : p < n := by rcases hc with hc | hc | hc <;> exact sp_c_lt hc (by decide)
                have x1 := sp_x_le (tx := tx) (n := n) (p := p + 1) (by omega)
                cases h
                refine ⟨⟨⟨?_, x1.2⟩, ⟨sp_x_x (by omega), trivial⟩, ?_⟩, fun q => by omega, fun q => by omega, fun q => by omega⟩
                · simp [sp_z]; omega
                · simp [sp_z]; omega
              · cases h
    · rw [sp_e5] at h
      obtain ⟨⟨t1, t2, t3⟩, t4⟩ := ht (Or.inl rfl)
      split at h
      · next hc =>
        have hp1 := sp_c_lt hc (by decide)
        have x1 := sp_x_le (tx := tx) (n := n) (p := p + 1) (by omega)
        obtain ⟨q1, u1, e1, e2⟩ := sp_b_inr h
        obtain ⟨⟨⟨h1, h2⟩, ⟨h3, h4⟩, h5⟩, h6⟩ := ih 3 lv _ .nil q1 u1 (by omega) x1.2 (by omega) e1
        obtain ⟨⟨⟨i1, i2⟩, ⟨i3, i4⟩, i5⟩, i6⟩ := ih 5 lv q1 _ q u (by omega) h2 (fun _ => ⟨⟨sp_ok_2 t1 h4, by simp only [sp_z]; omega, h3⟩, fun _ => h6.1 (by omega)⟩) e2
        refine ⟨⟨⟨?_, i2⟩, ⟨i3, i4⟩, ?_⟩, fun _ => i6.1 (by omega), fun _ => i6.2.1 (by omega), fun q => by omega⟩
        · simp [sp_z] at h1 i1 ⊢; omega
        · simp [sp_z] at h1 i1 i5 h5 ⊢; omega
      · next hc =>
        cases h
        refine ⟨⟨⟨by simp, hp⟩, ⟨t3, t1⟩, by simp; omega⟩, fun _ => t4 rfl, fun _ => hc, fun q => by omega⟩
    · rw [sp_e6] at h
      obtain ⟨⟨t1, t2, t3⟩, -⟩ := ht (Or.inr rfl)
      split at h
      · next hc =>
        have hp1 := sp_c_lt hc (by decide)
        have x1 := sp_x_le (tx := tx) (n := n) (p := p + 1) (by omega)
        obtain ⟨q1, u1, e1, e2⟩ := sp_b_inr h
        obtain ⟨⟨⟨h1, h2⟩, ⟨h3, h4⟩, h5⟩, h6⟩ := ih 4 lv _ .nil q1 u1 (by omega) x1.2 (by omega) e1
        obtain ⟨⟨⟨i1, i2⟩, ⟨i3, i4⟩, i5⟩, i6⟩ := ih 6 lv q1 _ q u (by omega) h2 (fun _ => ⟨⟨sp_ok_2 t1 h4, by simp only [sp_z]; omega, h3⟩, fun q => by omega⟩) e2
        refine ⟨⟨⟨?_, i2⟩, ⟨i3, i4⟩, ?_⟩, fun _ => i6.1 (by omega), fun q => by omega, fun q => by omega⟩
        · simp [sp_z] at h1 i1 ⊢; omega
        · simp [sp_z] at h1 i1 i5 h5 ⊢; omega
      · next hc =>
        cases h
        refine ⟨⟨⟨by simp, hp⟩, ⟨t3, t1⟩, by simp; omega⟩, fun _ => hc, fun q => by omega, fun q => by omega⟩
end SPE
