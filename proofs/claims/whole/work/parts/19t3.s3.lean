section STG
variable {tx : Nat → Int32} {n : Nat}
def st_G (n : Nat) (tx : Nat → Int32) (g p V : Nat) (sc : sc_T) (q V1 : Nat) (sc1 : sc_T) (t : Std.Format) : Prop := ((p + sp_z t ≤ q ∧ q ≤ n) ∧ sp_x tx n q = q ∧ (g = 0 → 1 ≤ sp_z t ∧ p < q)) ∧ (V ≤ V1 ∧ ∃ ext, sc1 = ext ++ sc ∧ ext.length + V ≤ sc.length + V1 - sc.length) ∧ (scOK sc → V ≤ 12 → scOK sc1 ∧ V1 ≤ 12)
theorem st_ext0 (V V1 : Nat) (sc : sc_T) (h : V ≤ V1) : ∃ ext, sc = ext ++ sc ∧ ext.length + V ≤ sc.length + V1 - sc.length := ⟨[], rfl, by simp; omega⟩
theorem sp_c_x {p : Nat} {c : Int32} (h : sp_c tx n p = c) (hc : ¬ c = -1) : p < n ∧ p + 1 ≤ sp_x tx n (p + 1) ∧ sp_x tx n (p + 1) ≤ n ∧ sp_x tx n (sp_x tx n (p + 1)) = sp_x tx n (p + 1) := by
  have h1 := sp_c_lt h hc
  have h2 := sp_x_le (tx := tx) (n := n) (p := p + 1) (by omega)
  exact ⟨h1, h2.1, h2.2, sp_x_x (by omega)⟩
theorem sp_lb_c {c : Int32} (h : sp_lb c) : ¬ c = -1 := by
  intro e
  rw [e] at h
  exact absurd h.1 (by decide)
theorem sp_nm_c {c : Int32} (h : sp_nm c) : ¬ c = -1 := by
  intro e
  rw [e] at h
  exact absurd h.1 (by decide)
set_option maxHeartbeats 1000000 in
theorem st_good : ∀ (f g : Nat) (cx : cx_T) (b p V : Nat) (sc : sc_T) (x q V1 : Nat) (sc1 : sc_T) (t : Std.Format), g ≤ 3 → p ≤ n → sp_x tx n p = p → st tx n f g cx b p V sc x = .inr (q, V1, sc1, t) → st_G n tx g p V sc q V1 sc1 t := by
  intro f
  induction f with
  | zero => intro g cx b p V sc x q V1 sc1 t _ _ _ h; cases h
  | succ f ih =>
    intro g cx b p V sc x q V1 sc1 t hg hp hx h
    have hgs : g = 0 ∨ g = 1 ∨ g = 2 ∨ g = 3 := by omega
    rcases hgs with rfl | rfl | rfl | rfl
    · rw [st0] at h
      by_cases hc : 20 ≤ cx.length
      · rw [if_pos hc] at h; cases h
      rw [if_neg hc] at h
      by_cases hc : sp_c tx n p = 36 ∨ sp_c tx n p = 37
      · rw [if_pos hc] at h
        have hp1 : p < n ∧ p + 1 ≤ sp_x tx n (p + 1) ∧ sp_x tx n (p + 1) ≤ n ∧ sp_x tx n (sp_x tx n (p + 1)) = sp_x tx n (p + 1) := by rcases hc with e | e <;> exact sp_c_x e (by decide)
        split at h
        · cases h
        next hV =>
        split at h
        · next hn =>
          have hp2 := sp_c_x rfl (sp_nm_c hn.1)
          obtain ⟨e1, e2⟩ := st_x_inr h
          have hp3 := sp_c_x e1 (by decide)
          cases e2
          obtain ⟨u, hu, -, hu2, -⟩ := nm_u hn.1
          refine ⟨⟨⟨by simp only [sp_z]; omega, by omega⟩, hp3.2.2.2, fun _ => ⟨by simp [sp_z], by omega⟩⟩, ⟨by omega, [_], rfl, by simp; omega⟩, fun h1 h2 => ⟨⟨⟨hn.2, by omega, by omega⟩, h1⟩, by omega⟩⟩
        · cases h
      rw [if_neg hc] at h
      by_cases hc : sp_c tx n p = 123
      · rw [if_pos hc] at h
        have hp1 := sp_c_x hc (by decide)
        obtain ⟨q1, V2, s1, t1, e1, e2⟩ := st_b_inr h
        cases e2
        obtain ⟨⟨⟨g1, g2⟩, g3, -⟩, ⟨g4, -⟩, g5⟩ := ih 1 _ _ _ _ _ _ _ _ _ _ (by omega) hp1.2.2.1 hp1.2.2.2 e1
        exact ⟨⟨⟨by simp only [sp_z]; omega, g2⟩, g3, fun _ => ⟨by simp [sp_z], by omega⟩⟩, ⟨g4, st_ext0 _ _ _ g4⟩, fun h1 h2 => ⟨h1, (g5 h1 h2).2⟩⟩
      rw [if_neg hc] at h
      by_cases hc : sp_lb (sp_c tx n p)
      · rw [if_pos hc] at h
        have hp1 := sp_c_x rfl (sp_lb_c hc)
        split at h
        · cases h
        obtain ⟨e0, h⟩ := st_x_inr h
        have hp2 := sp_c_x e0 (by decide)
        obtain ⟨q1, V2, s1, t1, e1, e2⟩ := st_b_inr h
        cases e2
        obtain ⟨⟨⟨g1, g2⟩, g3, -⟩, ⟨g4, -⟩, g5⟩ := ih 0 _ _ _ _ _ _ _ _ _ _ (by omega) hp2.2.2.1 hp2.2.2.2 e1
        exact ⟨⟨⟨by simp only [sp_z]; omega, g2⟩, g3, fun _ => ⟨by simp [sp_z], by omega⟩⟩, ⟨g4, st_ext0 _ _ _ g4⟩, fun h1 h2 => ⟨h1, (g5 h1 h2).2⟩⟩
      rw [if_neg hc] at h
      by_cases hc : sp_c tx n p = 73
      · rw [if_pos hc] at h
        have hp1 := sp_c_x hc (by decide)
        obtain ⟨e0, h⟩ := st_x_inr h
        have hp2 := sp_c_x e0 (by decide)
        obtain ⟨q1, u1, e1, h⟩ := st_eb_inr h
        obtain ⟨⟨a1, a2⟩, ⟨a3, -⟩, a4⟩ := st_e_good hp2.2.2.1 e1
        obtain ⟨e2, h⟩ := st_x_inr h
        have hp3 := sp_c_x e2 (by decide)
        obtain ⟨q2, V2, s1, t1, e3, h⟩ := st_b_inr h
        obtain ⟨⟨⟨g1, g2⟩, g3, -⟩, ⟨g4, -⟩, g5⟩ := ih 0 _ _ _ _ _ _ _ _ _ _ (by omega) hp3.2.2.1 hp3.2.2.2 e3
        split at h
        · next hc2 =>
          have hp4 := sp_c_x hc2 (by decide)
          obtain ⟨q3, V3, s2, t2, e4, h⟩ := st_b_inr h
          cases h
          obtain ⟨⟨⟨i1, i2⟩, i3, -⟩, ⟨i4, -⟩, i5⟩ := ih 0 _ _ _ _ _ _ _ _ _ _ (by omega) hp4.2.2.1 hp4.2.2.2 e4
          exact ⟨⟨⟨by simp only [sp_z]; omega, i2⟩, i3, fun _ => ⟨by simp [sp_z], by omega⟩⟩, ⟨by omega, st_ext0 _ _ _ (by omega)⟩, fun h1 h2 => ⟨h1, (i5 h1 (g5 h1 h2).2).2⟩⟩
        · cases h
          exact ⟨⟨⟨by simp only [sp_z]; omega, g2⟩, g3, fun _ => ⟨by simp [sp_z], by omega⟩⟩, ⟨g4, st_ext0 _ _ _ g4⟩, fun h1 h2 => ⟨h1, (g5 h1 h2).2⟩⟩
      rw [if_neg hc] at h
      by_cases hc : sp_c tx n p = 87
      · rw [if_pos hc] at h
        have hp1 := sp_c_x hc (by decide)
        obtain ⟨e0, h⟩ := st_x_inr h
        have hp2 := sp_c_x e0 (by decide)
        obtain ⟨q1, u1, e1, h⟩ := st_eb_inr h
        obtain ⟨⟨a1, a2⟩, ⟨a3, -⟩, a4⟩ := st_e_good hp2.2.2.1 e1
        obtain ⟨e2, h⟩ := st_x_inr h
        have hp3 := sp_c_x e2 (by decide)
        obtain ⟨q2, V2, s1, t1, e3, h⟩ := st_b_inr h
        obtain ⟨⟨⟨g1, g2⟩, g3, -⟩, ⟨g4, -⟩, g5⟩ := ih 0 _ _ _ _ _ _ _ _ _ _ (by omega) hp3.2.2.1 hp3.2.2.2 e3
        cases h
        exact ⟨⟨⟨by simp only [sp_z]; omega, g2⟩, g3, fun _ => ⟨by simp [sp_z], by omega⟩⟩, ⟨g4, st_ext0 _ _ _ g4⟩, fun h1 h2 => ⟨h1, (g5 h1 h2).2⟩⟩
      rw [if_neg hc] at h
      by_cases hc : sp_c tx n p = 68
      · rw [if_pos hc] at h
        have hp1 := sp_c_x hc (by decide)
        obtain ⟨q2, V2, s1, t1, e3, h⟩ := st_b_inr h
        obtain ⟨⟨⟨g1, g2⟩, g3, -⟩, ⟨g4, -⟩, g5⟩ := ih 0 _ _ _ _ _ _ _ _ _ _ (by omega) hp1.2.2.1 hp1.2.2.2 e3
        obtain ⟨e0, h⟩ := st_x_inr h
        have hp2 := sp_c_x e0 (by decide)
        obtain ⟨q1, u1, e1, h⟩ := st_eb_inr h
        obtain ⟨⟨a1, a2⟩, ⟨a3, -⟩, a4⟩ := st_e_good hp2.2.2.1 e1
        obtain ⟨e2, h⟩ := st_x_inr h
        have hp3 := sp_c_x e2 (by decide)
        obtain ⟨e4, h⟩ := st_x_inr h
        have hp4 := sp_c_x e4 (by decide)
        cases h
        exact ⟨⟨⟨by simp only [sp_z]; omega, hp4.2.2.1⟩, hp4.2.2.2, fun _ => ⟨by simp [sp_z], by omega⟩⟩, ⟨g4, st_ext0 _ _ _ g4⟩, fun h1 h2 => ⟨h1, (g5 h1 h2).2⟩⟩
      rw [if_neg hc] at h
      by_cases hc : sp_c tx n p = 70
      · rw [if_pos hc] at h
        have hp1 := sp_c_x hc (by decide)
        obtain ⟨e0, h⟩ := st_x_inr h
        have hp2 := sp_c_x e0 (by decide)
        obtain ⟨q1, u1, e1, h⟩ := st_eb_inr h
        obtain ⟨⟨a1, a2⟩, ⟨a3, -⟩, a4⟩ := st_e_good hp2.2.2.1 e1
        obtain ⟨e2, h⟩ := st_x_inr h
        have hp3 := sp_c_x e2 (by decide)
        obtain ⟨q5, u5, e5, h⟩ := st_eb_inr h
        obtain ⟨⟨b1, b2⟩, ⟨b3, -⟩, b4⟩ := st_e_good hp3.2.2.1 e5
        obtain ⟨e6, h⟩ := st_x_inr h
        have hp6 := sp_c_x e6 (by decide)
        obtain ⟨q2, V2, s1, t1, e3, h⟩ := st_b_inr h
        obtain ⟨⟨⟨g1, g2⟩, g3, -⟩, ⟨g4, -⟩, g5⟩ := ih 0 _ _ _ _ _ _ _ _ _ _ (by omega) hp6.2.2.1 hp6.2.2.2 e3
        cases h
        exact ⟨⟨⟨by simp only [sp_z]; omega, g2⟩, g3, fun _ => ⟨by simp [sp_z], by omega⟩⟩, ⟨g4, st_ext0 _ _ _ g4⟩, fun h1 h2 => ⟨h1, (g5 h1 h2).2⟩⟩
      rw [if_neg hc] at h
      by_cases hc : sp_c tx n p = 83
      · rw [if_pos hc] at h
        have hp1 := sp_c_x hc (by decide)
        obtain ⟨e0, h⟩ := st_x_inr h
        have hp2 := sp_c_x e0 (by decide)
        obtain ⟨q1, u1, e1, h⟩ := st_eb_inr h
        obtain ⟨⟨a1, a2⟩, ⟨a3, -⟩, a4⟩ := st_e_good hp2.2.2.1 e1
        obtain ⟨e2, h⟩ := st_x_inr h
        have hp3 := sp_c_x e2 (by decide)
        obtain ⟨e6, h⟩ := st_x_inr h
        have hp6 := sp_c_x e6 (by decide)
        obtain ⟨q2, V2, s1, t1, e3, h⟩ := st_b_inr h
        obtain ⟨⟨⟨g1, g2⟩, g3, -⟩, ⟨g4, -⟩, g5⟩ := ih 2 _ _ _ _ _ _ _ _ _ _ (by omega) hp6.2.2.1 hp6.2.2.2 e3
        cases h
        exact ⟨⟨⟨by simp only [sp_z]; omega, g2⟩, g3, fun _ => ⟨by simp [sp_z], by omega⟩⟩, ⟨g4, st_ext0 _ _ _ g4⟩, fun h1 h2 => ⟨h1, (g5 h1 h2).2⟩⟩
      rw [if_neg hc] at h
      by_cases hc : sp_c tx n p = 84
      · rw [if_pos hc] at h
        have hp1 := sp_c_x hc (by decide)
        obtain ⟨e0, h⟩ := st_x_inr h
        have hp2 := sp_c_x e0 (by decide)
        obtain ⟨q2, V2, s1, t1, e3, h⟩ := st_b_inr h
        obtain ⟨⟨⟨g1, g2⟩, g3, -⟩, ⟨g4, -⟩, g5⟩ := ih 1 _ _ _ _ _ _ _ _ _ _ (by omega) hp2.2.2.1 hp2.2.2.2 e3
        split at h
        · next hc2 =>
          have hp3 := sp_c_x hc2 (by decide)
          obtain ⟨e4, h⟩ := st_x_inr h
          have hp4 := sp_c_x e4 (by decide)
          obtain ⟨q3, V3, s2, t2, e5, h⟩ := st_b_inr h
          obtain ⟨⟨⟨i1, i2⟩, i3, -⟩, ⟨i4, -⟩, i5⟩ := ih 1 _ _ _ _ _ _ _ _ _ _ (by omega) hp4.2.2.1 hp4.2.2.2 e5
          split at h
          · next hc3 =>
            have hp5 := sp_c_x hc3 (by decide)
            obtain ⟨e6, h⟩ := st_x_inr h
            have hp6 := sp_c_x e6 (by decide)
            obtain ⟨q4, V4, s3, t3, e7, h⟩ := st_b_inr h
            obtain ⟨⟨⟨j1, j2⟩, j3, -⟩, ⟨j4, -⟩, j5⟩ := ih 1 _ _ _ _ _ _ _ _ _ _ (by omega) hp6.2.2.1 hp6.2.2.2 e7
            cases h
            exact ⟨⟨⟨by simp only [sp_z]; omega, j2⟩, j3, fun _ => ⟨by simp [sp_z], by omega⟩⟩, ⟨by omega, st_ext0 _ _ _ (by omega)⟩, fun h1 h2 => ⟨h1, (j5 h1 (i5 h1 (g5 h1 h2).2).2).2⟩⟩
          · cases h
            exact ⟨⟨⟨by simp only [sp_z]; omega, i2⟩, i3, fun _ => ⟨by simp [sp_z], by omega⟩⟩, ⟨by omega, st_ext0 _ _ _ (by omega)⟩, fun h1 h2 => ⟨h1, (i5 h1 (g5 h1 h2).2).2⟩⟩
        · obtain ⟨e4, h⟩ := st_x_inr h
          have hp4 := sp_c_x e4 (by decide)
          obtain ⟨e5, h⟩ := st_x_inr h
          have hp5 := sp_c_x e5 (by decide)
          obtain ⟨q3, V3, s2, t2, e6, h⟩ := st_b_inr h
          obtain ⟨⟨⟨i1, i2⟩, i3, -⟩, ⟨i4, -⟩, i5⟩ := ih 1 _ _ _ _ _ _ _ _ _ _ (by omega) hp5.2.2.1 hp5.2.2.2 e6
          cases h
          exact ⟨⟨⟨by simp only [sp_z]; omega, i2⟩, i3, fun _ => ⟨by simp [sp_z], by omega⟩⟩, ⟨by omega, st_ext0 _ _ _ (by omega)⟩, fun h1 h2 => ⟨h1, (i5 h1 (g5 h1 h2).2).2⟩⟩
      rw [if_neg hc] at h
      by_cases hc : sp_c tx n p = 66 ∨ sp_c tx n p = 67
      · rw [if_pos hc] at h
        have hp1 : p < n ∧ p + 1 ≤ sp_x tx n (p + 1) ∧ sp_x tx n (p + 1) ≤ n ∧ sp_x tx n (sp_x tx n (p + 1)) = sp_x tx n (p + 1) := by rcases hc with e | e <;> exact sp_c_x e (by decide)
        split at h
        · next hl =>
          have hp2 := sp_c_x rfl (sp_lb_c hl)
          split at h
          · cases h
          obtain ⟨e4, h⟩ := st_x_inr h
          have hp4 := sp_c_x e4 (by decide)
          cases h
          exact ⟨⟨⟨by simp only [sp_z]; omega, hp4.2.2.1⟩, hp4.2.2.2, fun _ => ⟨by simp [sp_z], by omega⟩⟩, ⟨by omega, st_ext0 _ _ _ (by omega)⟩, fun h1 h2 => ⟨h1, h2⟩⟩
        · split at h
          · cases h
          obtain ⟨e4, h⟩ := st_x_inr h
          have hp4 := sp_c_x e4 (by decide)
          cases h
          exact ⟨⟨⟨by simp only [sp_z]; omega, hp4.2.2.1⟩, hp4.2.2.2, fun _ => ⟨by simp [sp_z], by omega⟩⟩, ⟨by omega, st_ext0 _ _ _ (by omega)⟩, fun h1 h2 => ⟨h1, h2⟩⟩
      rw [if_neg hc] at h
      by_cases hc : sp_c tx n p = 82 ∨ sp_c tx n p = 88
      · rw [if_pos hc] at h
        have hp1 : p < n ∧ p + 1 ≤ sp_x tx n (p + 1) ∧ sp_x tx n (p + 1) ≤ n ∧ sp_x tx n (sp_x tx n (p + 1)) = sp_x tx n (p + 1) := by rcases hc with e | e <;> exact sp_c_x e (by decide)
        split at h
        · next e4 =>
          have hp4 := sp_c_x e4 (by decide)
          cases h
          exact ⟨⟨⟨by simp only [sp_z]; omega, hp4.2.2.1⟩, hp4.2.2.2, fun _ => ⟨by simp [sp_z], by omega⟩⟩, ⟨by omega, st_ext0 _ _ _ (by omega)⟩, fun h1 h2 => ⟨h1, h2⟩⟩
        · obtain ⟨q1, u1, e1, h⟩ := st_eb_inr h
          obtain ⟨⟨a1, a2⟩, ⟨a3, -⟩, a4⟩ := st_e_good hp1.2.2.1 e1
          obtain ⟨e4, h⟩ := st_x_inr h
          have hp4 := sp_c_x e4 (by decide)
          cases h
          exact ⟨⟨⟨by simp only [sp_z]; omega, hp4.2.2.1⟩, hp4.2.2.2, fun _ => ⟨by simp [sp_z], by omega⟩⟩, ⟨by omega, st_ext0 _ _ _ (by omega)⟩, fun h1 h2 => ⟨h1, h2⟩⟩
      rw [if_neg hc] at h
      · obtain ⟨q1, u1, e1, h⟩ := st_eb_inr h
        obtain ⟨⟨a1, a2⟩, ⟨a3, -⟩, a4⟩ := st_e_good hp e1
        obtain ⟨e4, h⟩ := st_x_inr h
        have hp4 := sp_c_x e4 (by decide)
        cases h
        exact ⟨⟨⟨by simp only [sp_z]; omega, hp4.2.2.1⟩, hp4.2.2.2, fun _ => ⟨by simp [sp_z], by omega⟩⟩, ⟨by omega, st_ext0 _ _ _ (by omega)⟩, fun h1 h2 => ⟨h1, h2⟩⟩
    · rw [st1] at h
      split at h
      · next hc =>
        have hp1 := sp_c_x hc (by decide)
        cases h
        exact ⟨⟨⟨by simp only [sp_z]; omega, hp1.2.2.1⟩, hp1.2.2.2, fun q => by omega⟩, ⟨by omega, st_ext0 _ _ _ (by omega)⟩, fun h1 h2 => ⟨h1, h2⟩⟩
      · obtain ⟨q1, V2, s1, t1, e1, h⟩ := st_b_inr h
        obtain ⟨⟨⟨g1, g2⟩, g3, -⟩, ⟨g4, x1, x2, x3⟩, g5⟩ := ih 0 _ _ _ _ _ _ _ _ _ _ (by omega) hp hx e1
        obtain ⟨q2, V3, s2, t2, e2, h⟩ := st_b_inr h
        obtain ⟨⟨⟨i1, i2⟩, i3, -⟩, ⟨i4, y1, y2, y3⟩, i5⟩ := ih 1 _ _ _ _ _ _ _ _ _ _ (by omega) g2 g3 e2
        cases h
        exact ⟨⟨⟨by simp only [sp_z]; omega, i2⟩, i3, fun q => by omega⟩, ⟨by omega, y1 ++ x1, by rw [y2, x2, List.append_assoc], by rw [List.length_append]; omega⟩, fun h1 h2 => i5 (g5 h1 h2).1 (g5 h1 h2).2⟩
    · rw [st2] at h
      split at h
      · next hc =>
        have hp1 := sp_c_x hc (by decide)
        cases h
        exact ⟨⟨⟨by split <;> simp only [sp_z] <;> omega, hp1.2.2.1⟩, hp1.2.2.2, fun q => by omega⟩, ⟨by omega, st_ext0 _ _ _ (by omega)⟩, fun h1 h2 => ⟨h1, h2⟩⟩
      split at h
      · next hc =>
        have hp1 : p < n ∧ p + 1 ≤ sp_x tx n (p + 1) ∧ sp_x tx n (p + 1) ≤ n ∧ sp_x tx n (sp_x tx n (p + 1)) = sp_x tx n (p + 1) := by
          rcases hc with e | e
          · exact sp_c_x e (by decide)
          · exact sp_c_x e.1 (by decide)
        obtain ⟨e4, h⟩ := st_x_inr h
        have hp4 := sp_c_x e4 (by decide)
        obtain ⟨⟨⟨i1, i2⟩, i3, -⟩, i4, i5⟩ := ih 2 _ _ _ _ _ _ _ _ _ _ (by omega) hp4.2.2.1 hp4.2.2.2 h
        exact ⟨⟨⟨by omega, i2⟩, i3, fun q => by omega⟩, i4, i5⟩
      split at h
      · cases h
      · obtain ⟨q1, V2, s1, t1, e1, h⟩ := st_b_inr h
        obtain ⟨⟨⟨g1, g2⟩, g3, -⟩, ⟨g4, x1, x2, x3⟩, g5⟩ := ih 0 _ _ _ _ _ _ _ _ _ _ (by omega) hp hx e1
        obtain ⟨q2, V3, s2, t2, e2, h⟩ := st_b_inr h
        obtain ⟨⟨⟨i1, i2⟩, i3, -⟩, ⟨i4, y1, y2, y3⟩, i5⟩ := ih 2 _ _ _ _ _ _ _ _ _ _ (by omega) g2 g3 e2
        cases h
        exact ⟨⟨⟨by simp only [sp_z]; omega, i2⟩, i3, fun q => by omega⟩, ⟨by omega, y1 ++ x1, by rw [y2, x2, List.append_assoc], by rw [List.length_append]; omega⟩, fun h1 h2 => i5 (g5 h1 h2).1 (g5 h1 h2).2⟩
    · rw [st3] at h
      split at h
      · next hc =>
        cases h
        exact ⟨⟨⟨by simp only [sp_z]; omega, hp⟩, hx, fun q => by omega⟩, ⟨by omega, st_ext0 _ _ _ (by omega)⟩, fun h1 h2 => ⟨h1, h2⟩⟩
      · obtain ⟨q1, V2, s1, t1, e1, h⟩ := st_b_inr h
        obtain ⟨⟨⟨g1, g2⟩, g3, -⟩, ⟨g4, x1, x2, x3⟩, g5⟩ := ih 0 _ _ _ _ _ _ _ _ _ _ (by omega) hp hx e1
        obtain ⟨q2, V3, s2, t2, e2, h⟩ := st_b_inr h
        obtain ⟨⟨⟨i1, i2⟩, i3, -⟩, ⟨i4, y1, y2, y3⟩, i5⟩ := ih 3 _ _ _ _ _ _ _ _ _ _ (by omega) g2 g3 e2
        cases h
        exact ⟨⟨⟨by simp only [sp_z]; omega, i2⟩, i3, fun q => by omega⟩, ⟨by omega, y1 ++ x1, by rw [y2, x2, List.append_assoc], by rw [List.length_append]; omega⟩, fun h1 h2 => i5 (g5 h1 h2).1 (g5 h1 h2).2⟩
end STG
