/-! every VARIABLE is given somewhere -/
def gvN (V V1 : Nat) (t : Std.Format) : Prop := ∀ v, V ≤ v → v < V1 → ∃ c y, (c, y) ∈ cxL t ∧ (sp_s c = 36 ∨ sp_s c = 37) ∧ sp_pl c % 16 = v + 1
theorem gv_0 {V : Nat} {t : Std.Format} : gvN V V t := fun v h1 h2 => by omega
theorem gv_t {V V1 c : Nat} {x : Std.Format} (h : gvN V V1 x) : gvN V V1 (.tag c x) := fun v h1 h2 => by
  obtain ⟨c, y, k, g⟩ := h v h1 h2
  exact ⟨c, y, List.mem_cons_of_mem _ k, g⟩
theorem gv_a {V V1 V2 : Nat} {x y : Std.Format} (h : gvN V V1 x) (h' : gvN V1 V2 y) : gvN V V2 (.append x y) := fun v h1 h2 => by
  by_cases e : v < V1
  · obtain ⟨c, y, k, g⟩ := h v h1 e
    exact ⟨c, y, List.mem_append_left _ k, g⟩
  · obtain ⟨c, y, k, g⟩ := h' v (by omega) h2
    exact ⟨c, y, List.mem_append_right _ k, g⟩
theorem gv_l {V V1 : Nat} {x y : Std.Format} (h : gvN V V1 x) : gvN V V1 (.append x y) := gv_a h gv_0
theorem gv_r {V V1 : Nat} {x y : Std.Format} (h : gvN V V1 y) : gvN V V1 (.append x y) := gv_a gv_0 h
theorem gv_new {V s p u e : Nat} {y : Std.Format} (h1 : s < 256) (h2 : p < 256) (h3 : s = 36 ∨ s = 37) (h4 : V < 12) (h5 : e < 2) : gvN V (V + 1) (.tag (sp_n s p (2 * (V + 1 + 16 * u) + e)) y) := fun v k1 k2 => by
  have e0 : v = V := by omega
  subst e0
  refine ⟨_, y, List.mem_cons_self, ?_, ?_⟩
  · rw [sp_s_n h1 h2]; exact h3
  · unfold sp_pl
    rw [sp_v_n h1 h2]
    omega
section STV
variable {tx : Nat → Int32} {n : Nat} {W : Nat}
set_option maxHeartbeats 4000000 in
theorem st_gvN (hn : n ≤ 240) : ∀ (f g : Nat) (cx : cx_T) (b p V : Nat) (sc : sc_T) (x q V1 : Nat) (sc1 : sc_T) (t : Std.Format), g ≤ 3 → p ≤ n → sp_x tx n p = p → V ≤ 12 → scOK sc → (∀ e ∈ sc, e.2 < V) → (V1 ≤ W ∧ (g = 0 → x < 4)) → st tx n f g cx b p V sc x = .inr (q, V1, sc1, t) → gvN V V1 t := by
  intro f
  induction f with
  | zero => intro g cx b p V sc x q V1 sc1 t _ _ _ _ _ _ _ h; cases h
  | succ f ih =>
    intro g cx b p V sc x q V1 sc1 t hg hp hpx hV hok hsc hW h
    have hG := st_good (f + 1) g cx b p V sc x q V1 sc1 t hg hp hpx h
    have hgs : g = 0 ∨ g = 1 ∨ g = 2 ∨ g = 3 := by omega
    rcases hgs with rfl | rfl | rfl | rfl
    · rw [st0] at h
      have hpq := (hG.1.2.2 rfl).2
      have hqn := hG.1.1.2
      have hVV := hG.2.1.1
      have hx4 := hW.2 rfl
      by_cases c0 : 20 ≤ cx.length
      · rw [if_pos c0] at h; cases h
      rw [if_neg c0] at h
      by_cases cg : sp_c tx n p = 36 ∨ sp_c tx n p = 37
      · rw [if_pos cg] at h
        split at h
        · cases h
        · split at h
          · next hv hnm =>
            obtain ⟨-, h⟩ := st_x_inr h
            cases h
            have hs : (sp_c tx n p).toNatClampNeg = 36 ∨ (sp_c tx n p).toNatClampNeg = 37 := by
              rcases cg with e | e <;> rw [e]
              · exact Or.inl (by decide)
              · exact Or.inr (by decide)
            exact gv_new (by omega) (by omega) hs (by omega) (by omega)
          · cases h
      rw [if_neg cg] at h
      by_cases c123 : sp_c tx n p = 123
      · rw [if_pos c123] at h
        have hx := sp_c_x c123 (by decide)
        obtain ⟨q1, V2, s2, t2, e1, e2⟩ := st_b_inr h
        cases e2
        have i := ih 1 _ _ _ V sc 0 _ _ _ _ (by omega) hx.2.2.1 hx.2.2.2 hV hok hsc ⟨hW.1, by omega⟩ e1
        exact gv_t i
      rw [if_neg c123] at h
      by_cases cl : sp_lb (sp_c tx n p)
      · rw [if_pos cl] at h
        split at h
        · cases h
        · obtain ⟨x1, h⟩ := st_x_inr h
          have hx := sp_c_x (tx := tx) (n := n) (p := p) rfl (sp_lb_c cl)
          have hx1 := sp_c_x x1 (by decide)
          obtain ⟨q1, V2, s2, t2, e1, e2⟩ := st_b_inr h
          cases e2
          have i := ih 0 _ _ _ V sc 0 _ _ _ _ (by omega) hx1.2.2.1 hx1.2.2.2 hV hok hsc ⟨hW.1, by omega⟩ e1
          exact gv_t (gv_l i)
      rw [if_neg cl] at h
      by_cases c73 : sp_c tx n p = 73
      · rw [if_pos c73] at h
        have hx := sp_c_x c73 (by decide)
        obtain ⟨x1, h⟩ := st_x_inr h
        have hx1 := sp_c_x x1 (by decide)
        obtain ⟨q2, u, e2, h⟩ := st_eb_inr h
        have g2 := st_e_good hx1.2.2.1 e2
        obtain ⟨x3, h⟩ := st_x_inr h
        have hx3 := sp_c_x x3 (by decide)
        obtain ⟨q4, V4, s4, t4, e4, h⟩ := st_b_inr h
        have g4 := st_good f 0 _ _ _ V sc 0 _ _ _ _ (by omega) hx3.2.2.1 hx3.2.2.2 e4
        split at h
        · next c69 =>
          have hx4 := sp_c_x c69 (by decide)
          obtain ⟨q5, V5, s5, t5, e5, h⟩ := st_b_inr h
          have g5 := st_good f 0 _ _ _ V4 sc 0 _ _ _ _ (by omega) hx4.2.2.1 hx4.2.2.2 e5
          cases h
          have hV4 := (g4.2.2 hok hV).2
          have i4 := ih 0 _ _ _ V sc 0 _ _ _ _ (by omega) hx3.2.2.1 hx3.2.2.2 hV hok hsc ⟨Nat.le_trans g5.2.1.1 hW.1, by omega⟩ e4
          have i5 := ih 0 _ _ _ V4 sc 0 _ _ _ _ (by omega) hx4.2.2.1 hx4.2.2.2 hV4 hok (mem_le g4.2.1.1 hsc) ⟨hW.1, by omega⟩ e5
          exact gv_t (gv_r (gv_a i4 (gv_l i5)))
        · cases h
          have i4 := ih 0 _ _ _ V sc 0 _ _ _ _ (by omega) hx3.2.2.1 hx3.2.2.2 hV hok hsc ⟨hW.1, by omega⟩ e4
          exact gv_t (gv_r (gv_l i4))
      rw [if_neg c73] at h
      by_cases c87 : sp_c tx n p = 87
      · rw [if_pos c87] at h
        have hx := sp_c_x c87 (by decide)
        obtain ⟨x1, h⟩ := st_x_inr h
        have hx1 := sp_c_x x1 (by decide)
        obtain ⟨q2, u, e2, h⟩ := st_eb_inr h
        have g2 := st_e_good hx1.2.2.1 e2
        obtain ⟨x3, h⟩ := st_x_inr h
        have hx3 := sp_c_x x3 (by decide)
        obtain ⟨q4, V4, s4, t4, e4, h⟩ := st_b_inr h
        cases h
        have i4 := ih 0 _ _ _ V sc 0 _ _ _ _ (by omega) hx3.2.2.1 hx3.2.2.2 hV hok hsc ⟨hW.1, by omega⟩ e4
        exact gv_t (gv_r (gv_l i4))
      rw [if_neg c87] at h
      by_cases c68 : sp_c tx n p = 68
      · rw [if_pos c68] at h
        have hx := sp_c_x c68 (by decide)
        obtain ⟨q4, V4, s4, t4, e4, h⟩ := st_b_inr h
        have g4 := st_good f 0 _ _ _ V sc 0 _ _ _ _ (by omega) hx.2.2.1 hx.2.2.2 e4
        obtain ⟨x1, h⟩ := st_x_inr h
        have hx1 := sp_c_x x1 (by decide)
        obtain ⟨q2, u, e2, h⟩ := st_eb_inr h
        have g2 := st_e_good hx1.2.2.1 e2
        obtain ⟨x3, h⟩ := st_x_inr h
        have hx3 := sp_c_x x3 (by decide)
        obtain ⟨x5, h⟩ := st_x_inr h
        have hx5 := sp_c_x x5 (by decide)
        cases h
        have i4 := ih 0 _ _ _ V sc 0 _ _ _ _ (by omega) hx.2.2.1 hx.2.2.2 hV hok hsc ⟨hW.1, by omega⟩ e4
        exact gv_t (gv_l i4)
      rw [if_neg c68] at h
      by_cases c70 : sp_c tx n p = 70
      · rw [if_pos c70] at h
        have hx := sp_c_x c70 (by decide)
        obtain ⟨x1, h⟩ := st_x_inr h
        have hx1 := sp_c_x x1 (by decide)
        obtain ⟨q2, u, e2, h⟩ := st_eb_inr h
        have g2 := st_e_good hx1.2.2.1 e2
        obtain ⟨x3, h⟩ := st_x_inr h
        have hx3 := sp_c_x x3 (by decide)
        obtain ⟨q5, u5, e5, h⟩ := st_eb_inr h
        have g5 := st_e_good hx3.2.2.1 e5
        obtain ⟨x6, h⟩ := st_x_inr h
        have hx6 := sp_c_x x6 (by decide)
        obtain ⟨q4, V4, s4, t4, e4, h⟩ := st_b_inr h
        cases h
        have i4 := ih 0 _ _ _ V sc 0 _ _ _ _ (by omega) hx6.2.2.1 hx6.2.2.2 hV hok hsc ⟨hW.1, by omega⟩ e4
        exact gv_t (gv_r (gv_r (gv_l i4)))
      rw [if_neg c70] at h
      by_cases c83 : sp_c tx n p = 83
      · rw [if_pos c83] at h
        have hx := sp_c_x c83 (by decide)
        obtain ⟨x1, h⟩ := st_x_inr h
        have hx1 := sp_c_x x1 (by decide)
        obtain ⟨q2, u, e2, h⟩ := st_eb_inr h
        have g2 := st_e_good hx1.2.2.1 e2
        obtain ⟨x3, h⟩ := st_x_inr h
        have hx3 := sp_c_x x3 (by decide)
        obtain ⟨x5, h⟩ := st_x_inr h
        have hx5 := sp_c_x x5 (by decide)
        obtain ⟨q4, V4, s4, t4, e4, h⟩ := st_b_inr h
        cases h
        have i4 := ih 2 _ _ _ V sc 1 _ _ _ _ (by omega) hx5.2.2.1 hx5.2.2.2 hV hok hsc ⟨hW.1, by omega⟩ e4
        exact gv_t (gv_r i4)
      rw [if_neg c83] at h
      by_cases c84 : sp_c tx n p = 84
      · rw [if_pos c84] at h
        have hx := sp_c_x c84 (by decide)
        obtain ⟨x1, h⟩ := st_x_inr h
        have hx1 := sp_c_x x1 (by decide)
        obtain ⟨q2, V2, s2, t2, e2, h⟩ := st_b_inr h
        have g2 := st_good f 1 _ _ _ V sc 0 _ _ _ _ (by omega) hx1.2.2.1 hx1.2.2.2 e2
        have hV2 := (g2.2.2 hok hV).2
        split at h
        · next c75 =>
          have hx2 := sp_c_x c75 (by decide)
          obtain ⟨x3, h⟩ := st_x_inr h
          have hx3 := sp_c_x x3 (by decide)
          obtain ⟨q4, V4, s4, t4, e4, h⟩ := st_b_inr h
          have g4 := st_good f 1 _ _ _ V2 sc 0 _ _ _ _ (by omega) hx3.2.2.1 hx3.2.2.2 e4
          have hV4 := (g4.2.2 hok hV2).2
          split at h
          · next c78 =>
            have hx4 := sp_c_x c78 (by decide)
            obtain ⟨x5, h⟩ := st_x_inr h
            have hx5 := sp_c_x x5 (by decide)
            obtain ⟨q6, V6, s6, t6, e6, h⟩ := st_b_inr h
            have g6 := st_good f 1 _ _ _ V4 sc 0 _ _ _ _ (by omega) hx5.2.2.1 hx5.2.2.2 e6
            cases h
            have i2 := ih 1 _ _ _ V sc 0 _ _ _ _ (by omega) hx1.2.2.1 hx1.2.2.2 hV hok hsc ⟨Nat.le_trans (Nat.le_trans g4.2.1.1 g6.2.1.1) hW.1, by omega⟩ e2
            have i4 := ih 1 _ _ _ V2 sc 0 _ _ _ _ (by omega) hx3.2.2.1 hx3.2.2.2 hV2 hok (mem_le g2.2.1.1 hsc) ⟨Nat.le_trans g6.2.1.1 hW.1, by omega⟩ e4
            have i6 := ih 1 _ _ _ V4 sc 0 _ _ _ _ (by omega) hx5.2.2.1 hx5.2.2.2 hV4 hok (mem_le (Nat.le_trans g2.2.1.1 g4.2.1.1) hsc) ⟨hW.1, by omega⟩ e6
            exact gv_t (gv_a i2 (gv_a i4 i6))
          · cases h
            have i2 := ih 1 _ _ _ V sc 0 _ _ _ _ (by omega) hx1.2.2.1 hx1.2.2.2 hV hok hsc ⟨Nat.le_trans g4.2.1.1 hW.1, by omega⟩ e2
            have i4 := ih 1 _ _ _ V2 sc 0 _ _ _ _ (by omega) hx3.2.2.1 hx3.2.2.2 hV2 hok (mem_le g2.2.1.1 hsc) ⟨hW.1, by omega⟩ e4
            exact gv_t (gv_a i2 (gv_l i4))
        · obtain ⟨x2, h⟩ := st_x_inr h
          have hx2 := sp_c_x x2 (by decide)
          obtain ⟨x3, h⟩ := st_x_inr h
          have hx3 := sp_c_x x3 (by decide)
          obtain ⟨q4, V4, s4, t4, e4, h⟩ := st_b_inr h
          have g4 := st_good f 1 _ _ _ V2 sc 0 _ _ _ _ (by omega) hx3.2.2.1 hx3.2.2.2 e4
          cases h
          have i2 := ih 1 _ _ _ V sc 0 _ _ _ _ (by omega) hx1.2.2.1 hx1.2.2.2 hV hok hsc ⟨Nat.le_trans g4.2.1.1 hW.1, by omega⟩ e2
          have i4 := ih 1 _ _ _ V2 sc 0 _ _ _ _ (by omega) hx3.2.2.1 hx3.2.2.2 hV2 hok (mem_le g2.2.1.1 hsc) ⟨hW.1, by omega⟩ e4
          exact gv_t (gv_a i2 (gv_r i4))
      rw [if_neg c84] at h
      by_cases cj : sp_c tx n p = 66 ∨ sp_c tx n p = 67
      · rw [if_pos cj] at h
        have hxp := sp_c_x (tx := tx) (n := n) (p := p) rfl (by rcases cj with e | e <;> · rw [e]; decide)
        have hs : (sp_c tx n p).toNatClampNeg = 66 ∨ (sp_c tx n p).toNatClampNeg = 67 := by
          rcases cj with e | e <;> rw [e]
          · exact Or.inl (by decide)
          · exact Or.inr (by decide)
        split at h
        · next hlb =>
          split at h
          · cases h
          · next hto =>
            obtain ⟨x1, h⟩ := st_x_inr h
            have hx1 := sp_c_x x1 (by decide)
            have hx0 := sp_c_x (tx := tx) (n := n) (p := sp_x tx n (p + 1)) rfl (sp_lb_c hlb)
            cases h
            exact gv_0
        · split at h
          · cases h
          · next hto =>
            obtain ⟨x1, h⟩ := st_x_inr h
            have hx1 := sp_c_x x1 (by decide)
            cases h
            exact gv_0
      rw [if_neg cj] at h
      by_cases cr : sp_c tx n p = 82 ∨ sp_c tx n p = 88
      · rw [if_pos cr] at h
        have hs : (sp_c tx n p).toNatClampNeg = 82 ∨ (sp_c tx n p).toNatClampNeg = 88 := by
          rcases cr with e | e <;> rw [e]
          · exact Or.inl (by decide)
          · exact Or.inr (by decide)
        have hx := sp_c_x (tx := tx) (n := n) (p := p) rfl (by rcases cr with e | e <;> · rw [e]; decide)
        split at h
        · cases h
          exact gv_0
        · obtain ⟨q2, u, e2, h⟩ := st_eb_inr h
          have g2 := st_e_good hx.2.2.1 e2
          obtain ⟨x3, h⟩ := st_x_inr h
          have hx3 := sp_c_x x3 (by decide)
          cases h
          exact gv_0
      rw [if_neg cr] at h
      obtain ⟨q2, u, e2, h⟩ := st_eb_inr h
      have g2 := st_e_good hp e2
      obtain ⟨x3, h⟩ := st_x_inr h
      have hx3 := sp_c_x x3 (by decide)
      cases h
      exact gv_0
    · rw [st1] at h
      split at h
      · cases h
        exact gv_0
      · obtain ⟨q1, V2, s2, t2, e1, h⟩ := st_b_inr h
        have g1 := st_good f 0 _ _ _ V sc 1 _ _ _ _ (by omega) hp hpx e1
        obtain ⟨q3, V3, s3, t3, e3, h⟩ := st_b_inr h
        have g3 := st_good f 1 _ _ _ V2 s2 0 _ _ _ _ (by omega) g1.1.1.2 g1.1.2.1 e3
        cases h
        have s1 := (st_W (W := W) hn f 0 _ _ _ V sc 1 _ _ _ _ (by omega) hp hpx hV hok hsc ⟨Nat.le_trans g3.2.1.1 hW.1, by omega⟩ e1).2
        have i1 := ih 0 _ _ _ V sc 1 _ _ _ _ (by omega) hp hpx hV hok hsc ⟨Nat.le_trans g3.2.1.1 hW.1, by omega⟩ e1
        have o1 := g1.2.2 hok hV
        have i3 := ih 1 _ _ _ V2 s2 0 _ _ _ _ (by omega) g1.1.1.2 g1.1.2.1 o1.2 o1.1 s1 ⟨hW.1, by omega⟩ e3
        exact gv_a i1 i3
    · rw [st2] at h
      split at h
      · cases h
        exact gv_0
      · split at h
        · next hc =>
          have hcp : ¬ sp_c tx n p = -1 := by
            intro e; rw [e] at hc; rcases hc with hc | hc
            · exact absurd hc (by decide)
            · exact absurd hc.1 (by decide)
          have hx := sp_c_x (tx := tx) (n := n) (p := p) rfl hcp
          obtain ⟨x3, h⟩ := st_x_inr h
          have hx3 := sp_c_x x3 (by decide)
          have i := ih 2 _ _ _ V sc _ _ _ _ _ (by omega) hx3.2.2.1 hx3.2.2.2 hV hok hsc ⟨hW.1, by omega⟩ h
          exact i
        · split at h
          · cases h
          · obtain ⟨q1, V2, s2, t2, e1, h⟩ := st_b_inr h
            have g1 := st_good f 0 _ _ _ V sc _ _ _ _ _ (by omega) hp hpx e1
            obtain ⟨q3, V3, s3, t3, e3, h⟩ := st_b_inr h
            have g3 := st_good f 2 _ _ _ V2 s2 _ _ _ _ _ (by omega) g1.1.1.2 g1.1.2.1 e3
            cases h
            have s1 := (st_W (W := W) hn f 0 _ _ _ V sc _ _ _ _ _ (by omega) hp hpx hV hok hsc ⟨Nat.le_trans g3.2.1.1 hW.1, by omega⟩ e1).2
            have i1 := ih 0 _ _ _ V sc _ _ _ _ _ (by omega) hp hpx hV hok hsc ⟨Nat.le_trans g3.2.1.1 hW.1, by omega⟩ e1
            have o1 := g1.2.2 hok hV
            have i3 := ih 2 _ _ _ V2 s2 _ _ _ _ _ (by omega) g1.1.1.2 g1.1.2.1 o1.2 o1.1 s1 ⟨hW.1, by omega⟩ e3
            exact gv_a i1 i3
    · rw [st3] at h
      split at h
      · cases h
        exact gv_0
      · obtain ⟨q1, V2, s2, t2, e1, h⟩ := st_b_inr h
        have g1 := st_good f 0 _ _ _ V sc 1 _ _ _ _ (by omega) hp hpx e1
        obtain ⟨q3, V3, s3, t3, e3, h⟩ := st_b_inr h
        have g3 := st_good f 3 _ _ _ V2 s2 0 _ _ _ _ (by omega) g1.1.1.2 g1.1.2.1 e3
        cases h
        have s1 := (st_W (W := W) hn f 0 _ _ _ V sc 1 _ _ _ _ (by omega) hp hpx hV hok hsc ⟨Nat.le_trans g3.2.1.1 hW.1, by omega⟩ e1).2
        have i1 := ih 0 _ _ _ V sc 1 _ _ _ _ (by omega) hp hpx hV hok hsc ⟨Nat.le_trans g3.2.1.1 hW.1, by omega⟩ e1
        have o1 := g1.2.2 hok hV
        have i3 := ih 3 _ _ _ V2 s2 0 _ _ _ _ (by omega) g1.1.1.2 g1.1.2.1 o1.2 o1.1 s1 ⟨hW.1, by omega⟩ e3
        exact gv_a i1 i3
end STV
theorem uOK_V {tx : Nat → Int32} {n q V : Nat} {sc : sc_T} {t : Std.Format} (hn : n ≤ 240) (h : uOK tx n q V sc t) : gvN 0 V t ∧ ∀ e ∈ sc, e.2 < V := by
  have hx := sp_x_le (tx := tx) (n := n) (p := 0) (Nat.zero_le n)
  exact ⟨st_gvN (tx := tx) (n := n) (W := V) hn 500 3 [] 0 (sp_x tx n 0) 0 [] 0 q V sc t (by omega) hx.2 (sp_x_x (Nat.zero_le n)) (by omega) trivial (fun e he => nomatch he) ⟨Nat.le_refl _, by omega⟩ h, (st_W (tx := tx) (n := n) (W := V) hn 500 3 [] 0 (sp_x tx n 0) 0 [] 0 q V sc t (by omega) hx.2 (sp_x_x (Nat.zero_le n)) (by omega) trivial (fun e he => nomatch he) ⟨Nat.le_refl _, by omega⟩ h).2⟩
