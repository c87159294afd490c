/-- the signs of a forest's nodes lie from lo on, below hi, in its order -/
def FO : Std.Format → Nat → Nat → Prop
  | .tag c x, lo, hi => (lo ≤ sp_f c ∧ sp_f c < hi) ∧ FO x (sp_f c) hi
  | .append x y, lo, hi => ∃ k, FO x lo k ∧ FO y k hi
  | _, lo, hi => lo ≤ hi
theorem FO_le : ∀ (t : Std.Format) (lo hi : Nat), FO t lo hi → lo ≤ hi
  | .tag c x, lo, hi, h => by have := h.1; omega
  | .append x y, lo, hi, ⟨k, h1, h2⟩ => Nat.le_trans (FO_le x lo k h1) (FO_le y k hi h2)
  | .nil, _, _, h => h
  | .line, _, _, h => h
  | .align _, _, _, h => h
  | .text _, _, _, h => h
  | .nest _ _, _, _, h => h
  | .group _ _, _, _, h => h
theorem FO_mono : ∀ (t : Std.Format) (lo hi lo' hi' : Nat), FO t lo hi → lo' ≤ lo → hi ≤ hi' → FO t lo' hi'
  | .tag c x, lo, hi, lo', hi', h, h1, h2 => ⟨by have := h.1; omega, FO_mono x _ hi _ hi' h.2 (Nat.le_refl _) h2⟩
  | .append x y, lo, hi, lo', hi', ⟨k, a, b⟩, h1, h2 => ⟨k, FO_mono x lo k lo' k a h1 (Nat.le_refl _), FO_mono y k hi k hi' b (Nat.le_refl _) h2⟩
  | .nil, lo, hi, lo', hi', h, h1, h2 => by have h : lo ≤ hi := h; show lo' ≤ hi'; omega
  | .line, lo, hi, lo', hi', h, h1, h2 => by have h : lo ≤ hi := h; show lo' ≤ hi'; omega
  | .align _, lo, hi, lo', hi', h, h1, h2 => by have h : lo ≤ hi := h; show lo' ≤ hi'; omega
  | .text _, lo, hi, lo', hi', h, h1, h2 => by have h : lo ≤ hi := h; show lo' ≤ hi'; omega
  | .nest _ _, lo, hi, lo', hi', h, h1, h2 => by have h : lo ≤ hi := h; show lo' ≤ hi'; omega
  | .group _ _, lo, hi, lo', hi', h, h1, h2 => by have h : lo ≤ hi := h; show lo' ≤ hi'; omega
theorem FO_n {s p v lo hi : Nat} {x : Std.Format} (hs : s < 256) (hp : p < 256) (h1 : lo ≤ p) (h2 : p < hi) (hx : FO x p hi) : FO (.tag (sp_n s p v) x) lo hi := by
  unfold FO
  rw [sp_f_n hs hp]
  exact ⟨⟨h1, h2⟩, hx⟩
theorem FO_a {x y : Std.Format} {lo k hi : Nat} (h1 : FO x lo k) (h2 : FO y k hi) : FO (.append x y) lo hi := ⟨k, h1, h2⟩
theorem FO_nil {lo hi : Nat} (h : lo ≤ hi) : FO .nil lo hi := h
theorem FO_2 {s v lo k hi : Nat} {x y : Std.Format} (hs : s < 256) (hx : sp_ok x) (h1 : FO x lo k) (h2 : FO y k hi) (h3 : k ≤ hi) : FO (.tag (sp_n s (sp_1 x) v) (.append x y)) lo hi := by
  cases x with
  | tag c z =>
    have e : sp_1 (.tag c z) = sp_f c := rfl
    rw [e]
    have h := h1.1
    exact FO_n hs (by unfold sp_f; omega) h.1 (by omega) ⟨k, ⟨⟨Nat.le_refl _, h.2⟩, h1.2⟩, h2⟩
  | _ => exact hx.elim
section EF
variable {tx : Nat → Int32} {n : Nat} {nm : Nat → Int32}
theorem sp_e_FO (hn : n ≤ 240) : ∀ (f g lv p : Nat) (t : Std.Format) (q lo : Nat) (u : Std.Format), g ≤ 6 → p ≤ n → (g = 5 ∨ g = 6 → (sp_ok t ∧ 1 ≤ sp_z t ∧ sp_x tx n p = p) ∧ (g = 5 → ¬ sp_c tx n p = 38)) → (g = 5 ∨ g = 6 → FO t lo p) → (g < 5 → lo ≤ p) → sp_e tx n nm f g lv p t = .inr (q, u) → FO u lo q := by
  intro f
  induction f with
  | zero => intro g lv p t q lo u _ _ _ _ _ h; cases h
  | succ f ih =>
    intro g lv p t q lo u hg hp hok ht hl h
    have hgd := sp_e_good (tx := tx) (n := n) (nm := nm) (f + 1) g lv p t q u hg hp hok h
    have hgs : g = 0 ∨ g = 1 ∨ g = 2 ∨ g = 3 ∨ g = 4 ∨ g = 5 ∨ g = 6 := by omega
    rcases hgs with rfl | rfl | rfl | rfl | rfl | rfl | rfl
    · rw [sp_e0] at h
      split at h
      · cases h
      · split at h
        · next hc =>
          have hp1 := sp_nm_lt hc.1
          have x1 := sp_x_le (tx := tx) (n := n) (p := p + 1) (by omega)
          have hp2 := sp_c_lt hc.2 (by decide)
          have x2 := sp_x_le (tx := tx) (n := n) (p := sp_x tx n (p + 1) + 1) (by omega)
          split at h
          · cases h
          · obtain ⟨q1, u1, e1, e2⟩ := sp_b_inr h
            cases e2
            have g1 := (sp_e_good f 0 (lv + 1) _ .nil q u1 (by omega) x2.2 (by omega) e1).1.2.2
            have i := ih 0 (lv + 1) _ .nil q p u1 (by omega) x2.2 (by omega) (by omega) (by omega) e1
            exact FO_n (by omega) (by omega) (hl (by omega)) (by omega) i
        · exact ih 1 lv p .nil q lo u (by omega) hp (by omega) (by omega) (fun _ => hl (by omega)) h
    · rw [sp_e1] at h
      split at h
      · cases h
      · obtain ⟨q1, u1, e1, e2⟩ := sp_b_inr h
        have g1 := (sp_e_good f 2 lv p .nil q1 u1 (by omega) hp (by omega) e1).1
        have i1 := ih 2 lv p .nil q1 lo u1 (by omega) hp (by omega) (by omega) (fun _ => hl (by omega)) e1
        split at e2
        · next hc =>
          have hp1 := sp_c_lt hc (by decide)
          have x1 := sp_x_le (tx := tx) (n := n) (p := q1 + 1) (by omega)
          obtain ⟨q2, u2, e3, e4⟩ := sp_b_inr e2
          have g2 := (sp_e_good f 0 (lv + 1) _ .nil q2 u2 (by omega) x1.2 (by omega) e3).1
          have i2 := ih 0 (lv + 1) _ .nil q2 q1 u2 (by omega) x1.2 (by omega) (by omega) (by omega) e3
          split at e4
          · next hc2 =>
            have hp2 := sp_c_lt hc2 (by decide)
            have x2 := sp_x_le (tx := tx) (n := n) (p := q2 + 1) (by omega)
            obtain ⟨q3, u3, e5, e6⟩ := sp_b_inr e4
            have g3 := (sp_e_good f 1 (lv + 1) _ .nil q3 u3 (by omega) x2.2 (by omega) e5).1
            have i3 := ih 1 (lv + 1) _ .nil q3 q2 u3 (by omega) x2.2 (by omega) (by omega) (by omega) e5
            cases e6
            exact FO_2 (by omega) g1.2.1.2 i1 ⟨q2, i2, i3⟩ (by omega)
          · cases e4
        · cases e2; exact i1
    · rw [sp_e2] at h
      obtain ⟨q1, u1, e1, e2⟩ := sp_b_inr h
      have g1 := sp_e_good f 3 lv p .nil q1 u1 (by omega) hp (by omega) e1
      exact ih 5 lv q1 u1 q lo u (by omega) g1.1.1.2 (fun _ => ⟨⟨g1.1.2.1.2, g1.1.2.2.2.2, g1.1.2.1.1⟩, fun _ => g1.2.1 (by omega)⟩) (fun _ => ih 3 lv p .nil q1 lo u1 (by omega) hp (by omega) (by omega) (fun _ => hl (by omega)) e1) (by omega) e2
    · rw [sp_e3] at h
      obtain ⟨q1, u1, e1, e2⟩ := sp_b_inr h
      have g1 := sp_e_good f 4 lv p .nil q1 u1 (by omega) hp (by omega) e1
      exact ih 6 lv q1 u1 q lo u (by omega) g1.1.1.2 (fun _ => ⟨⟨g1.1.2.1.2, g1.1.2.2.2.2, g1.1.2.1.1⟩, fun q => by omega⟩) (fun _ => ih 4 lv p .nil q1 lo u1 (by omega) hp (by omega) (by omega) (fun _ => hl (by omega)) e1) (by omega) e2
    · rw [sp_e4] at h
      split at h
      · cases h
      · split at h
        · next hc =>
          have hp1 := sp_c_lt hc (by decide)
          have x1 := sp_x_le (tx := tx) (n := n) (p := p + 1) (by omega)
          obtain ⟨q1, u1, e1, e2⟩ := sp_b_inr h
          have g1 := (sp_e_good f 0 (lv + 1) _ .nil q1 u1 (by omega) x1.2 (by omega) e1).1
          have i1 := ih 0 (lv + 1) _ .nil q1 p u1 (by omega) x1.2 (by omega) (by omega) (by omega) e1
          split at e2
          · next hc2 =>
            have hp2 := sp_c_lt hc2 (by decide)
            have x2 := sp_x_le (tx := tx) (n := n) (p := q1 + 1) (by omega)
            cases e2
            exact FO_mono _ _ _ _ _ i1 (hl (by omega)) (by omega)
          · cases e2
        · split at h
          · next hc =>
            have hp1 := sp_c_lt hc (by decide)
            have x1 := sp_x_le (tx := tx) (n := n) (p := p + 1) (by omega)
            obtain ⟨q1, u1, e1, e2⟩ := sp_b_inr h
            have g1 := (sp_e_good f 4 (lv + 1) _ .nil q1 u1 (by omega) x1.2 (by omega) e1).1
            have i1 := ih 4 (lv + 1) _ .nil q1 p u1 (by omega) x1.2 (by omega) (by omega) (by omega) e1
            cases e2
            exact FO_n (by omega) (by omega) (hl (by omega)) (by omega) i1
          · split at h
            · next hc =>
              have hp1 := sp_nm_lt hc
              have hu := nm_27 hc
              have x1 := sp_x_le (tx := tx) (n := n) (p := p + 1) (by omega)
              split at h
              · cases h
              · cases h
                exact FO_n (by omega) (by omega) (hl (by omega)) (by omega) (FO_nil (by omega))
            · split at h
              · next hc =>
                have hp1 : p < n := by rcases hc with hc | hc | hc <;> exact sp_c_lt hc (by decide)
                have x1 := sp_x_le (tx := tx) (n := n) (p := p + 1) (by omega)
                have hs : (sp_c tx n p).toNatClampNeg < 256 := by
                  rcases hc with hc | hc | hc <;> · rw [hc]; decide
                cases h
                exact FO_n hs (by omega) (hl (by omega)) (by omega) (FO_nil (by omega))
              · cases h
    · rw [sp_e5] at h
      obtain ⟨⟨t1, t2, t3⟩, t4⟩ := hok (Or.inl rfl)
      split at h
      · next hc =>
        have hp1 := sp_c_lt hc (by decide)
        have x1 := sp_x_le (tx := tx) (n := n) (p := p + 1) (by omega)
        obtain ⟨q1, u1, e1, e2⟩ := sp_b_inr h
        obtain ⟨⟨⟨h1, h2⟩, ⟨h3, h4⟩, h5⟩, h6⟩ := sp_e_good f 3 lv _ .nil q1 u1 (by omega) x1.2 (by omega) e1
        have i1 := ih 3 lv _ .nil q1 p u1 (by omega) x1.2 (by omega) (by omega) (by omega) e1
        exact ih 5 lv q1 _ q lo u (by omega) h2 (fun _ => ⟨⟨sp_ok_2 t1 h4, by simp only [sp_z]; omega, h3⟩, fun _ => h6.1 (by omega)⟩) (fun _ => FO_2 (by omega) t1 (ht (Or.inl rfl)) i1 (by omega)) (by omega) e2
      · cases h; exact ht (Or.inl rfl)
    · rw [sp_e6] at h
      obtain ⟨⟨t1, t2, t3⟩, -⟩ := hok (Or.inr rfl)
      split at h
      · next hc =>
        have hp1 := sp_c_lt hc (by decide)
        have x1 := sp_x_le (tx := tx) (n := n) (p := p + 1) (by omega)
        obtain ⟨q1, u1, e1, e2⟩ := sp_b_inr h
        obtain ⟨⟨⟨h1, h2⟩, ⟨h3, h4⟩, h5⟩, h6⟩ := sp_e_good f 4 lv _ .nil q1 u1 (by omega) x1.2 (by omega) e1
        have i1 := ih 4 lv _ .nil q1 p u1 (by omega) x1.2 (by omega) (by omega) (by omega) e1
        exact ih 6 lv q1 _ q lo u (by omega) h2 (fun _ => ⟨⟨sp_ok_2 t1 h4, by simp only [sp_z]; omega, h3⟩, fun q => by omega⟩) (fun _ => FO_2 (by omega) t1 (ht (Or.inr rfl)) i1 (by omega)) (by omega) e2
      · cases h; exact ht (Or.inr rfl)
end EF
