/-! only items of S are entered -/
def zr : Std.Format → Prop
  | .tag c _ => sp_en c = 0
  | .append x y => zr x ∧ zr y
  | _ => True
def tZ : Std.Format → Prop
  | .tag c x => (sp_s c = 84 → zr x) ∧ tZ x
  | .append x y => tZ x ∧ tZ y
  | _ => True
theorem tZ_nil : tZ .nil := trivial
theorem tZ_e {W : Nat} {u : Std.Format} (h : eW W u) : tZ u := by
  refine eW_ind (V := W) (M := tZ) ?_ ?_ ?_ ?_ ?_ ?_ (sp_z u) u (Nat.le_refl _) h
  · exact fun c y z w hs _ hy hz hw => ⟨fun e => absurd e (by omega), hy, hz, hw⟩
  · exact fun c y z hs _ hy hz => ⟨fun e => absurd e (by omega), hy, hz⟩
  · exact fun c x hs _ hx => ⟨fun e => absurd e (by omega), hx⟩
  · exact fun c x hs _ hx => ⟨fun e => absurd e (by omega), hx⟩
  · exact fun c hs _ => ⟨fun e => absurd e (by omega), trivial⟩
  · exact fun c hs _ => ⟨fun e => absurd e (by omega), trivial⟩
def tPost (g x : Nat) (t : Std.Format) : Prop := tZ t ∧ (g = 1 → zr t) ∧ (g = 0 → ∃ c y, t = .tag c y ∧ sp_en c = x / 2)
theorem tP_tag {s p v x : Nat} {y : Std.Format} (hs : s < 256) (hp : p < 256) (hy : tZ y) (hz : s = 84 → zr y) (hv : v % 2 = x / 2) : tPost 0 x (.tag (sp_n s p v) y) := by
  have e1 : sp_s (sp_n s p v) = s := sp_s_n hs hp
  refine ⟨⟨fun e => hz (by rw [← e1]; exact e), hy⟩, fun e => absurd e (by omega), fun _ => ⟨_, y, rfl, ?_⟩⟩
  unfold sp_en
  rw [sp_v_n hs hp]
  exact hv
section STZ
variable {tx : Nat → Int32} {n : Nat} {W : Nat}
set_option maxHeartbeats 4000000 in
theorem st_Z (hn : n ≤ 240) : ∀ (f g : Nat) (cx : cx_T) (b p V : Nat) (sc : sc_T) (x q V1 : Nat) (sc1 : sc_T) (t : Std.Format), g ≤ 3 → p ≤ n → sp_x tx n p = p → V ≤ 12 → scOK sc → (∀ e ∈ sc, e.2 < V) → (V1 ≤ W ∧ (g = 0 → x < 4)) → st tx n f g cx b p V sc x = .inr (q, V1, sc1, t) → tPost g x t := by
  intro f
  induction f with
  | zero => intro g cx b p V sc x q V1 sc1 t _ _ _ _ _ _ _ h; cases h
  | succ f ih =>
    intro g cx b p V sc x q V1 sc1 t hg hp hpx hV hok hsc hW h
    have hG := st_good (f + 1) g cx b p V sc x q V1 sc1 t hg hp hpx h
    have hgs : g = 0 ∨ g = 1 ∨ g = 2 ∨ g = 3 := by omega
    rcases hgs with rfl | rfl | rfl | rfl
    · rw [st0] at h
      have hpq := (hG.1.2.2 rfl).2
      have hqn := hG.1.1.2
      have hVV := hG.2.1.1
      have hx4 := hW.2 rfl
      by_cases c0 : 20 ≤ cx.length
      · rw [if_pos c0] at h; cases h
      rw [if_neg c0] at h
      by_cases cg : sp_c tx n p = 36 ∨ sp_c tx n p = 37
      · rw [if_pos cg] at h
        split at h
        · cases h
        · split at h
          · next hv hnm =>
            obtain ⟨-, h⟩ := st_x_inr h
            cases h
            have hs : (sp_c tx n p).toNatClampNeg = 36 ∨ (sp_c tx n p).toNatClampNeg = 37 := by
              rcases cg with e | e <;> rw [e]
              · exact Or.inl (by decide)
              · exact Or.inr (by decide)
            exact tP_tag (by omega) (by omega) (tZ_nil) (fun e => absurd e (by omega)) (by omega)
          · cases h
      rw [if_neg cg] at h
      by_cases c123 : sp_c tx n p = 123
      · rw [if_pos c123] at h
        have hx := sp_c_x c123 (by decide)
        obtain ⟨q1, V2, s2, t2, e1, e2⟩ := st_b_inr h
        cases e2
        have i := ih 1 _ _ _ V sc 0 _ _ _ _ (by omega) hx.2.2.1 hx.2.2.2 hV hok hsc ⟨hW.1, by omega⟩ e1
        exact tP_tag (by omega) (by omega) (i.1) (fun e => absurd e (by omega)) (by omega)
      rw [if_neg c123] at h
      by_cases cl : sp_lb (sp_c tx n p)
      · rw [if_pos cl] at h
        split at h
        · cases h
        · obtain ⟨x1, h⟩ := st_x_inr h
          have hx := sp_c_x (tx := tx) (n := n) (p := p) rfl (sp_lb_c cl)
          have hx1 := sp_c_x x1 (by decide)
          obtain ⟨q1, V2, s2, t2, e1, e2⟩ := st_b_inr h
          cases e2
          have i := ih 0 _ _ _ V sc 0 _ _ _ _ (by omega) hx1.2.2.1 hx1.2.2.2 hV hok hsc ⟨hW.1, by omega⟩ e1
          exact tP_tag (by omega) (by omega) (⟨i.1, tZ_nil⟩) (fun e => absurd e (by omega)) (by omega)
      rw [if_neg cl] at h
      by_cases c73 : sp_c tx n p = 73
      · rw [if_pos c73] at h
        have hx := sp_c_x c73 (by decide)
        obtain ⟨x1, h⟩ := st_x_inr h
        have hx1 := sp_c_x x1 (by decide)
        obtain ⟨q2, u, e2, h⟩ := st_eb_inr h
        have g2 := st_e_good hx1.2.2.1 e2
        have w2 := tZ_e (st_e_WF (W := W) (lo := p) hn hV (Nat.le_trans hVV hW.1) hsc hx1.2.2.1 (by omega) e2).1
        obtain ⟨x3, h⟩ := st_x_inr h
        have hx3 := sp_c_x x3 (by decide)
        obtain ⟨q4, V4, s4, t4, e4, h⟩ := st_b_inr h
        have g4 := st_good f 0 _ _ _ V sc 0 _ _ _ _ (by omega) hx3.2.2.1 hx3.2.2.2 e4
        have e0 : jw 73 (x / 2 / 2) = 0 := by unfold jw; rw [if_neg (by omega), if_neg (by omega)]
        split at h
        · next c69 =>
          have hx4 := sp_c_x c69 (by decide)
          obtain ⟨q5, V5, s5, t5, e5, h⟩ := st_b_inr h
          have g5 := st_good f 0 _ _ _ V4 sc 0 _ _ _ _ (by omega) hx4.2.2.1 hx4.2.2.2 e5
          cases h
          have hV4 := (g4.2.2 hok hV).2
          have i4 := ih 0 _ _ _ V sc 0 _ _ _ _ (by omega) hx3.2.2.1 hx3.2.2.2 hV hok hsc ⟨Nat.le_trans g5.2.1.1 hW.1, by omega⟩ e4
          have i5 := ih 0 _ _ _ V4 sc 0 _ _ _ _ (by omega) hx4.2.2.1 hx4.2.2.2 hV4 hok (mem_le g4.2.1.1 hsc) ⟨hW.1, by omega⟩ e5
          exact tP_tag (by omega) (by omega) (⟨w2, ⟨i4.1, ⟨i5.1, tZ_nil⟩⟩⟩) (fun e => absurd e (by omega)) (by omega)
        · cases h
          have i4 := ih 0 _ _ _ V sc 0 _ _ _ _ (by omega) hx3.2.2.1 hx3.2.2.2 hV hok hsc ⟨hW.1, by omega⟩ e4
          exact tP_tag (by omega) (by omega) (⟨w2, ⟨i4.1, tZ_nil⟩⟩) (fun e => absurd e (by omega)) (by omega)
      rw [if_neg c73] at h
      by_cases c87 : sp_c tx n p = 87
      · rw [if_pos c87] at h
        have hx := sp_c_x c87 (by decide)
        obtain ⟨x1, h⟩ := st_x_inr h
        have hx1 := sp_c_x x1 (by decide)
        obtain ⟨q2, u, e2, h⟩ := st_eb_inr h
        have g2 := st_e_good hx1.2.2.1 e2
        have w2 := tZ_e (st_e_WF (W := W) (lo := p) hn hV (Nat.le_trans hVV hW.1) hsc hx1.2.2.1 (by omega) e2).1
        obtain ⟨x3, h⟩ := st_x_inr h
        have hx3 := sp_c_x x3 (by decide)
        obtain ⟨q4, V4, s4, t4, e4, h⟩ := st_b_inr h
        cases h
        have i4 := ih 0 _ _ _ V sc 0 _ _ _ _ (by omega) hx3.2.2.1 hx3.2.2.2 hV hok hsc ⟨hW.1, by omega⟩ e4
        exact tP_tag (by omega) (by omega) (⟨w2, ⟨i4.1, tZ_nil⟩⟩) (fun e => absurd e (by omega)) (by omega)
      rw [if_neg c87] at h
      by_cases c68 : sp_c tx n p = 68
      · rw [if_pos c68] at h
        have hx := sp_c_x c68 (by decide)
        obtain ⟨q4, V4, s4, t4, e4, h⟩ := st_b_inr h
        have g4 := st_good f 0 _ _ _ V sc 0 _ _ _ _ (by omega) hx.2.2.1 hx.2.2.2 e4
        obtain ⟨x1, h⟩ := st_x_inr h
        have hx1 := sp_c_x x1 (by decide)
        obtain ⟨q2, u, e2, h⟩ := st_eb_inr h
        have g2 := st_e_good hx1.2.2.1 e2
        obtain ⟨x3, h⟩ := st_x_inr h
        have hx3 := sp_c_x x3 (by decide)
        obtain ⟨x5, h⟩ := st_x_inr h
        have hx5 := sp_c_x x5 (by decide)
        cases h
        have w2 := tZ_e (st_e_WF (W := W) (lo := q4) hn hV (Nat.le_trans hVV hW.1) hsc hx1.2.2.1 (by omega) e2).1
        have i4 := ih 0 _ _ _ V sc 0 _ _ _ _ (by omega) hx.2.2.1 hx.2.2.2 hV hok hsc ⟨hW.1, by omega⟩ e4
        exact tP_tag (by omega) (by omega) (⟨i4.1, ⟨w2, tZ_nil⟩⟩) (fun e => absurd e (by omega)) (by omega)
      rw [if_neg c68] at h
      by_cases c70 : sp_c tx n p = 70
      · rw [if_pos c70] at h
        have hx := sp_c_x c70 (by decide)
        obtain ⟨x1, h⟩ := st_x_inr h
        have hx1 := sp_c_x x1 (by decide)
        obtain ⟨q2, u, e2, h⟩ := st_eb_inr h
        have g2 := st_e_good hx1.2.2.1 e2
        have w2 := tZ_e (st_e_WF (W := W) (lo := p) hn hV (Nat.le_trans hVV hW.1) hsc hx1.2.2.1 (by omega) e2).1
        obtain ⟨x3, h⟩ := st_x_inr h
        have hx3 := sp_c_x x3 (by decide)
        obtain ⟨q5, u5, e5, h⟩ := st_eb_inr h
        have g5 := st_e_good hx3.2.2.1 e5
        have w5 := tZ_e (st_e_WF (W := W) (lo := q2) hn hV (Nat.le_trans hVV hW.1) hsc hx3.2.2.1 (by omega) e5).1
        obtain ⟨x6, h⟩ := st_x_inr h
        have hx6 := sp_c_x x6 (by decide)
        obtain ⟨q4, V4, s4, t4, e4, h⟩ := st_b_inr h
        cases h
        have i4 := ih 0 _ _ _ V sc 0 _ _ _ _ (by omega) hx6.2.2.1 hx6.2.2.2 hV hok hsc ⟨hW.1, by omega⟩ e4
        exact tP_tag (by omega) (by omega) (⟨w2, ⟨w5, ⟨i4.1, tZ_nil⟩⟩⟩) (fun e => absurd e (by omega)) (by omega)
      rw [if_neg c70] at h
      by_cases c83 : sp_c tx n p = 83
      · rw [if_pos c83] at h
        have hx := sp_c_x c83 (by decide)
        obtain ⟨x1, h⟩ := st_x_inr h
        have hx1 := sp_c_x x1 (by decide)
        obtain ⟨q2, u, e2, h⟩ := st_eb_inr h
        have g2 := st_e_good hx1.2.2.1 e2
        have w2 := tZ_e (st_e_WF (W := W) (lo := p) hn hV (Nat.le_trans hVV hW.1) hsc hx1.2.2.1 (by omega) e2).1
        obtain ⟨x3, h⟩ := st_x_inr h
        have hx3 := sp_c_x x3 (by decide)
        obtain ⟨x5, h⟩ := st_x_inr h
        have hx5 := sp_c_x x5 (by decide)
        obtain ⟨q4, V4, s4, t4, e4, h⟩ := st_b_inr h
        cases h
        have i4 := ih 2 _ _ _ V sc 1 _ _ _ _ (by omega) hx5.2.2.1 hx5.2.2.2 hV hok hsc ⟨hW.1, by omega⟩ e4
        exact tP_tag (by omega) (by omega) (⟨w2, i4.1⟩) (fun e => absurd e (by omega)) (by omega)
      rw [if_neg c83] at h
      by_cases c84 : sp_c tx n p = 84
      · rw [if_pos c84] at h
        have hx := sp_c_x c84 (by decide)
        obtain ⟨x1, h⟩ := st_x_inr h
        have hx1 := sp_c_x x1 (by decide)
        obtain ⟨q2, V2, s2, t2, e2, h⟩ := st_b_inr h
        have g2 := st_good f 1 _ _ _ V sc 0 _ _ _ _ (by omega) hx1.2.2.1 hx1.2.2.2 e2
        have hV2 := (g2.2.2 hok hV).2
        split at h
        · next c75 =>
          have hx2 := sp_c_x c75 (by decide)
          obtain ⟨x3, h⟩ := st_x_inr h
          have hx3 := sp_c_x x3 (by decide)
          obtain ⟨q4, V4, s4, t4, e4, h⟩ := st_b_inr h
          have g4 := st_good f 1 _ _ _ V2 sc 0 _ _ _ _ (by omega) hx3.2.2.1 hx3.2.2.2 e4
          have hV4 := (g4.2.2 hok hV2).2
          split at h
          · next c78 =>
            have hx4 := sp_c_x c78 (by decide)
            obtain ⟨x5, h⟩ := st_x_inr h
            have hx5 := sp_c_x x5 (by decide)
            obtain ⟨q6, V6, s6, t6, e6, h⟩ := st_b_inr h
            have g6 := st_good f 1 _ _ _ V4 sc 0 _ _ _ _ (by omega) hx5.2.2.1 hx5.2.2.2 e6
            cases h
            have i2 := ih 1 _ _ _ V sc 0 _ _ _ _ (by omega) hx1.2.2.1 hx1.2.2.2 hV hok hsc ⟨Nat.le_trans (Nat.le_trans g4.2.1.1 g6.2.1.1) hW.1, by omega⟩ e2
            have i4 := ih 1 _ _ _ V2 sc 0 _ _ _ _ (by omega) hx3.2.2.1 hx3.2.2.2 hV2 hok (mem_le g2.2.1.1 hsc) ⟨Nat.le_trans g6.2.1.1 hW.1, by omega⟩ e4
            have i6 := ih 1 _ _ _ V4 sc 0 _ _ _ _ (by omega) hx5.2.2.1 hx5.2.2.2 hV4 hok (mem_le (Nat.le_trans g2.2.1.1 g4.2.1.1) hsc) ⟨hW.1, by omega⟩ e6
            exact tP_tag (by omega) (by omega) (⟨i2.1, ⟨i4.1, i6.1⟩⟩) (fun _ => ⟨i2.2.1 rfl, i4.2.1 rfl, i6.2.1 rfl⟩) (by omega)
          · cases h
            have i2 := ih 1 _ _ _ V sc 0 _ _ _ _ (by omega) hx1.2.2.1 hx1.2.2.2 hV hok hsc ⟨Nat.le_trans g4.2.1.1 hW.1, by omega⟩ e2
            have i4 := ih 1 _ _ _ V2 sc 0 _ _ _ _ (by omega) hx3.2.2.1 hx3.2.2.2 hV2 hok (mem_le g2.2.1.1 hsc) ⟨hW.1, by omega⟩ e4
            exact tP_tag (by omega) (by omega) (⟨i2.1, ⟨i4.1, tZ_nil⟩⟩) (fun _ => ⟨i2.2.1 rfl, i4.2.1 rfl, trivial⟩) (by omega)
        · obtain ⟨x2, h⟩ := st_x_inr h
          have hx2 := sp_c_x x2 (by decide)
          obtain ⟨x3, h⟩ := st_x_inr h
          have hx3 := sp_c_x x3 (by decide)
          obtain ⟨q4, V4, s4, t4, e4, h⟩ := st_b_inr h
          have g4 := st_good f 1 _ _ _ V2 sc 0 _ _ _ _ (by omega) hx3.2.2.1 hx3.2.2.2 e4
          cases h
          have i2 := ih 1 _ _ _ V sc 0 _ _ _ _ (by omega) hx1.2.2.1 hx1.2.2.2 hV hok hsc ⟨Nat.le_trans g4.2.1.1 hW.1, by omega⟩ e2
          have i4 := ih 1 _ _ _ V2 sc 0 _ _ _ _ (by omega) hx3.2.2.1 hx3.2.2.2 hV2 hok (mem_le g2.2.1.1 hsc) ⟨hW.1, by omega⟩ e4
          exact tP_tag (by omega) (by omega) (⟨i2.1, ⟨tZ_nil, i4.1⟩⟩) (fun _ => ⟨i2.2.1 rfl, trivial, i4.2.1 rfl⟩) (by omega)
      rw [if_neg c84] at h
      by_cases cj : sp_c tx n p = 66 ∨ sp_c tx n p = 67
      · rw [if_pos cj] at h
        have hxp := sp_c_x (tx := tx) (n := n) (p := p) rfl (by rcases cj with e | e <;> · rw [e]; decide)
        have hs : (sp_c tx n p).toNatClampNeg = 66 ∨ (sp_c tx n p).toNatClampNeg = 67 := by
          rcases cj with e | e <;> rw [e]
          · exact Or.inl (by decide)
          · exact Or.inr (by decide)
        have e0 : ∀ z, jw (sp_c tx n p).toNatClampNeg z = 2 := fun z => by unfold jw; rw [if_neg (by omega), if_pos hs]
        split at h
        · next hlb =>
          split at h
          · cases h
          · next hto =>
            obtain ⟨x1, h⟩ := st_x_inr h
            have hx1 := sp_c_x x1 (by decide)
            have hx0 := sp_c_x (tx := tx) (n := n) (p := sp_x tx n (p + 1)) rfl (sp_lb_c hlb)
            cases h
            exact tP_tag (by omega) (by omega) (tZ_nil) (fun e => absurd e (by omega)) (by omega)
        · split at h
          · cases h
          · next hto =>
            obtain ⟨x1, h⟩ := st_x_inr h
            have hx1 := sp_c_x x1 (by decide)
            cases h
            exact tP_tag (by omega) (by omega) (tZ_nil) (fun e => absurd e (by omega)) (by omega)
      rw [if_neg cj] at h
      by_cases cr : sp_c tx n p = 82 ∨ sp_c tx n p = 88
      · rw [if_pos cr] at h
        have hs : (sp_c tx n p).toNatClampNeg = 82 ∨ (sp_c tx n p).toNatClampNeg = 88 := by
          rcases cr with e | e <;> rw [e]
          · exact Or.inl (by decide)
          · exact Or.inr (by decide)
        have e0 : ∀ z, jw (sp_c tx n p).toNatClampNeg z = 0 := fun z => by unfold jw; rw [if_neg (by omega), if_neg (by omega)]
        have hx := sp_c_x (tx := tx) (n := n) (p := p) rfl (by rcases cr with e | e <;> · rw [e]; decide)
        split at h
        · cases h
          exact tP_tag (by omega) (by omega) (tZ_nil) (fun e => absurd e (by omega)) (by omega)
        · obtain ⟨q2, u, e2, h⟩ := st_eb_inr h
          have g2 := st_e_good hx.2.2.1 e2
          have w2 := tZ_e (st_e_WF (W := W) (lo := p) hn hV (Nat.le_trans hVV hW.1) hsc hx.2.2.1 (by omega) e2).1
          obtain ⟨x3, h⟩ := st_x_inr h
          have hx3 := sp_c_x x3 (by decide)
          cases h
          exact tP_tag (by omega) (by omega) (⟨w2, tZ_nil⟩) (fun e => absurd e (by omega)) (by omega)
      rw [if_neg cr] at h
      obtain ⟨q2, u, e2, h⟩ := st_eb_inr h
      have g2 := st_e_good hp e2
      have w2 := tZ_e (st_e_WF (W := W) (lo := p) hn hV (Nat.le_trans hVV hW.1) hsc hp (by omega) e2).1
      obtain ⟨x3, h⟩ := st_x_inr h
      have hx3 := sp_c_x x3 (by decide)
      cases h
      exact tP_tag (by omega) (by omega) (⟨w2, tZ_nil⟩) (fun e => absurd e (by omega)) (by omega)
    · rw [st1] at h
      split at h
      · cases h
        exact ⟨tZ_nil, fun _ => trivial, fun e => absurd e (by omega)⟩
      · obtain ⟨q1, V2, s2, t2, e1, h⟩ := st_b_inr h
        have g1 := st_good f 0 _ _ _ V sc 1 _ _ _ _ (by omega) hp hpx e1
        obtain ⟨q3, V3, s3, t3, e3, h⟩ := st_b_inr h
        have g3 := st_good f 1 _ _ _ V2 s2 0 _ _ _ _ (by omega) g1.1.1.2 g1.1.2.1 e3
        cases h
        have s1 := (st_W (W := W) hn f 0 _ _ _ V sc 1 _ _ _ _ (by omega) hp hpx hV hok hsc ⟨Nat.le_trans g3.2.1.1 hW.1, by omega⟩ e1).2
        have i1 := ih 0 _ _ _ V sc 1 _ _ _ _ (by omega) hp hpx hV hok hsc ⟨Nat.le_trans g3.2.1.1 hW.1, by omega⟩ e1
        have o1 := g1.2.2 hok hV
        have i3 := ih 1 _ _ _ V2 s2 0 _ _ _ _ (by omega) g1.1.1.2 g1.1.2.1 o1.2 o1.1 s1 ⟨hW.1, by omega⟩ e3
        refine ⟨⟨i1.1, i3.1⟩, fun _ => ⟨?_, i3.2.1 rfl⟩, fun e => absurd e (by omega)⟩
        obtain ⟨c, y, rfl, z⟩ := i1.2.2 rfl
        exact z
    · rw [st2] at h
      split at h
      · cases h
        refine ⟨?_, fun e => absurd e (by omega), fun e => absurd e (by omega)⟩
        split
        · exact trivial
        · exact trivial
      · split at h
        · next hc =>
          have hcp : ¬ sp_c tx n p = -1 := by
            intro e; rw [e] at hc; rcases hc with hc | hc
            · exact absurd hc (by decide)
            · exact absurd hc.1 (by decide)
          have hx := sp_c_x (tx := tx) (n := n) (p := p) rfl hcp
          obtain ⟨x3, h⟩ := st_x_inr h
          have hx3 := sp_c_x x3 (by decide)
          have i := ih 2 _ _ _ V sc _ _ _ _ _ (by omega) hx3.2.2.1 hx3.2.2.2 hV hok hsc ⟨hW.1, by omega⟩ h
          exact ⟨i.1, fun e => absurd e (by omega), fun e => absurd e (by omega)⟩
        · split at h
          · cases h
          · obtain ⟨q1, V2, s2, t2, e1, h⟩ := st_b_inr h
            have g1 := st_good f 0 _ _ _ V sc _ _ _ _ _ (by omega) hp hpx e1
            obtain ⟨q3, V3, s3, t3, e3, h⟩ := st_b_inr h
            have g3 := st_good f 2 _ _ _ V2 s2 _ _ _ _ _ (by omega) g1.1.1.2 g1.1.2.1 e3
            cases h
            have s1 := (st_W (W := W) hn f 0 _ _ _ V sc _ _ _ _ _ (by omega) hp hpx hV hok hsc ⟨Nat.le_trans g3.2.1.1 hW.1, by omega⟩ e1).2
            have i1 := ih 0 _ _ _ V sc _ _ _ _ _ (by omega) hp hpx hV hok hsc ⟨Nat.le_trans g3.2.1.1 hW.1, by omega⟩ e1
            have o1 := g1.2.2 hok hV
            have i3 := ih 2 _ _ _ V2 s2 _ _ _ _ _ (by omega) g1.1.1.2 g1.1.2.1 o1.2 o1.1 s1 ⟨hW.1, by omega⟩ e3
            exact ⟨⟨i1.1, i3.1⟩, fun e => absurd e (by omega), fun e => absurd e (by omega)⟩
    · rw [st3] at h
      split at h
      · cases h
        exact ⟨tZ_nil, fun _ => trivial, fun e => absurd e (by omega)⟩
      · obtain ⟨q1, V2, s2, t2, e1, h⟩ := st_b_inr h
        have g1 := st_good f 0 _ _ _ V sc 1 _ _ _ _ (by omega) hp hpx e1
        obtain ⟨q3, V3, s3, t3, e3, h⟩ := st_b_inr h
        have g3 := st_good f 3 _ _ _ V2 s2 0 _ _ _ _ (by omega) g1.1.1.2 g1.1.2.1 e3
        cases h
        have s1 := (st_W (W := W) hn f 0 _ _ _ V sc 1 _ _ _ _ (by omega) hp hpx hV hok hsc ⟨Nat.le_trans g3.2.1.1 hW.1, by omega⟩ e1).2
        have i1 := ih 0 _ _ _ V sc 1 _ _ _ _ (by omega) hp hpx hV hok hsc ⟨Nat.le_trans g3.2.1.1 hW.1, by omega⟩ e1
        have o1 := g1.2.2 hok hV
        have i3 := ih 3 _ _ _ V2 s2 0 _ _ _ _ (by omega) g1.1.1.2 g1.1.2.1 o1.2 o1.1 s1 ⟨hW.1, by omega⟩ e3
        exact ⟨⟨i1.1, i3.1⟩, fun e => absurd e (by omega), fun e => absurd e (by omega)⟩
end STZ
theorem uOK_Z {tx : Nat → Int32} {n q V : Nat} {sc : sc_T} {t : Std.Format} (hn : n ≤ 240) (h : uOK tx n q V sc t) : tZ t := by
  have hx := sp_x_le (tx := tx) (n := n) (p := 0) (Nat.zero_le n)
  exact (st_Z (tx := tx) (n := n) (W := V) hn 500 3 [] 0 (sp_x tx n 0) 0 [] 0 q V sc t (by omega) hx.2 (sp_x_x (Nat.zero_le n)) (by omega) trivial (fun e he => nomatch he) ⟨Nat.le_refl _, by omega⟩ h).1
theorem zr_rt {so : Nat → Nat} : ∀ (x : Std.Format) (b r : Nat), zr x → r ∈ rtL x b → ∃ c y, (cxL x)[r - b]? = some (c, y) ∧ sp_en c = 0
  | .tag c y, b, r, h, hr => by
    have hr : r ∈ [b] := hr
    rw [List.mem_singleton.mp hr, Nat.sub_self]
    exact ⟨c, y, rfl, h⟩
  | .append x y, b, r, h, hr => by
    have hr : r ∈ rtL x b ++ rtL y (b + sp_z x) := hr
    show ∃ c z, (cxL x ++ cxL y)[r - b]? = some (c, z) ∧ _
    rcases List.mem_append.mp hr with hr | hr
    · obtain ⟨c, z, h1, h2⟩ := zr_rt (so := so) x b r h.1 hr
      exact ⟨c, z, by rw [get_l (get_lt h1)]; exact h1, h2⟩
    · obtain ⟨c, z, h1, h2⟩ := zr_rt (so := so) y _ r h.2 hr
      have := rt_in _ _ _ hr
      refine ⟨c, z, ?_, h2⟩
      rw [show r - b = (cxL x).length + (r - (b + sp_z x)) by rw [cxL_len]; omega, get_r]
      exact h1
  | .nil, _, _, _, h => (nomatch h)
  | .line, _, _, _, h => (nomatch h)
  | .align _, _, _, _, h => (nomatch h)
  | .text _, _, _, _, h => (nomatch h)
  | .nest _ _, _, _, _, h => (nomatch h)
  | .group _ _, _, _, _, h => (nomatch h)
theorem tZ_sub : ∀ (t : Std.Format) (i c : Nat) (x : Std.Format), tZ t → (cxL t)[i]? = some (c, x) → sp_s c = 84 → zr x
  | .tag c0 x0, i, c, x, h, hi, hs => by
    cases i with
    | zero =>
      have hi : some (c0, x0) = some (c, x) := hi
      cases hi
      exact h.1 hs
    | succ i => exact tZ_sub x0 i c x h.2 hi hs
  | .append x0 y0, i, c, x, h, hi, hs => by
    have hi : (cxL x0 ++ cxL y0)[i]? = some (c, x) := hi
    rcases get_app hi with hi | ⟨j, -, hi⟩
    · exact tZ_sub x0 i c x h.1 hi hs
    · exact tZ_sub y0 j c x h.2 hi hs
/-- no kid of a T is entered -/
theorem T_en {t : Std.Format} (h : tZ t) {q p : Nat} (hq : q < sp_z t) (hs : SO t q = 84) (hp : p ∈ KI t q) : sp_en (CO t p) = 0 := by
  have h1 := tZ_sub t q _ _ h (CX_get hq) hs
  obtain ⟨c, y, h2, h3⟩ := zr_rt (so := SO t) _ _ _ h1 hp
  have h4 := rt_in _ _ _ hp
  have h5 := (in_seg (r := p) hq (by omega) (by unfold EN; omega)).1
  rw [show p - q - 1 = p - (q + 1) by omega, h2] at h5
  have h6 := congrArg Prod.fst (Option.some.inj h5)
  have h6 : c = CO t p := h6
  rw [← h6]; exact h3
