theorem cx_near_W {j : Nat} : ∀ (cx : cx_T), ¬ cx_near j cx = 0 → ∃ i s, (i, s) ∈ kxOf cx ∧ cx_near j cx = i + 1 ∧ (j = 67 → is_lp s)
  | [], h => absurd rfl h
  | (i, s, m) :: r, h => by
    have e2 : cx_near j ((i, s, m) :: r) = if is_lp s ∨ (j = 66 ∧ s = 83) then i + 1 else cx_near j r := rfl
    by_cases c : is_lp s ∨ (j = 66 ∧ s = 83)
    · rw [if_pos c] at e2
      exact ⟨i, s, List.mem_cons_self, e2, fun q => by omega⟩
    · rw [if_neg c] at e2
      rw [e2] at h ⊢
      obtain ⟨i', s', h1, h2⟩ := cx_near_W r h
      exact ⟨i', s', List.mem_cons_of_mem _ h1, h2⟩
theorem cx_to_W {j L : Nat} : ∀ (cx : cx_T) (w : Nat) (kx : kx_T), (∀ e ∈ kxOf cx, e ∈ kx) → (¬ w = 0 → ∃ i s, (i, s) ∈ kx ∧ w = i + 1 ∧ is_lp s) → ¬ cx_to j L w cx = 0 → ∃ i s, (i, s) ∈ kx ∧ cx_to j L w cx = i + 1 ∧ (j = 67 → is_lp s)
  | [], w, kx, _, _, h => absurd rfl h
  | (i, s, m) :: r, w, kx, hk, hw, h => by
    have e2 : cx_to j L w ((i, s, m) :: r) = if m = L then (if j = 66 then i + 1 else w) else cx_to j L (if is_lp s then i + 1 else 0) r := rfl
    have hi : (i, s) ∈ kx := hk _ List.mem_cons_self
    by_cases c : m = L
    · rw [if_pos c] at e2
      by_cases d : j = 66
      · rw [if_pos d] at e2
        exact ⟨i, s, hi, e2, fun q => by omega⟩
      · rw [if_neg d] at e2
        rw [e2] at h ⊢
        obtain ⟨i', s', h1, h2, h3⟩ := hw h
        exact ⟨i', s', h1, h2, fun _ => h3⟩
    · rw [if_neg c] at e2
      rw [e2] at h ⊢
      refine cx_to_W r _ kx (fun e he => hk e (List.mem_cons_of_mem _ he)) (fun hq => ?_) h
      by_cases d : is_lp s
      · rw [if_pos d]; exact ⟨i, s, hi, rfl, d⟩
      · rw [if_neg d] at hq; exact absurd rfl hq
theorem eW_mono {V W : Nat} (h : V ≤ W) {t : Std.Format} (ht : eW V t) : eW W t := by
  refine eW_ind (V := V) (M := fun t => eW W t) ?_ ?_ ?_ ?_ ?_ ?_ (sp_z t) t (Nat.le_refl _) ht
  · intro c y z w h1 h2 a b d; exact (eW_63 h1).mpr ⟨h2, a, b, d⟩
  · intro c y z h1 h2 a b; exact (eW_2 h1).mpr ⟨h2, a, b⟩
  · intro c x h1 h2 a; exact (eW_33 h1).mpr ⟨h2, a⟩
  · intro c x h1 h2 a; exact (eW_61 h1).mpr ⟨by omega, a⟩
  · intro c h1 h2; exact (eW_nm h1).mpr ⟨by omega, rfl⟩
  · intro c h1 h2; exact (eW_lf h1).mpr ⟨h2, rfl⟩
section SWK
variable {tx : Nat → Int32} {n : Nat} {W : Nat}
theorem st_e_WF (hn : n ≤ 240) {sc : sc_T} {V p q lo : Nat} {u : Std.Format} (hV : V ≤ 12) (hW : V ≤ W) (hsc : ∀ e ∈ sc, e.2 < V) (hp : p ≤ n) (hl : lo ≤ p) (h : st_e tx n sc p = .inr (q, u)) : eW W u ∧ FO u lo q :=
  ⟨eW_mono hW (sp_e_W hn (fun u _ => by
      rcases nmOf_mem sc u with e | ⟨v, e, e2⟩
      · exact Or.inl e
      · exact Or.inr ⟨v, hsc _ e, e2⟩) hV 2000 0 0 p .nil q u (by omega) (by omega) h), sp_e_FO hn 2000 0 0 p .nil q lo u (by omega) hp (by omega) (by omega) (fun _ => hl) h⟩
def wPost (W : Nat) (g : Nat) (kx : kx_T) (b p q : Nat) (t : Std.Format) : Prop := sW W (if g = 0 then 0 else 1) kx t b ∧ FO t p q
theorem tag_W {s p v b q : Nat} {kx : kx_T} {y : Std.Format} (hs : s < 256) (hp : p < 256) (hq : p < q) (h : ∀ c, sp_s c = s → sp_pl c = v / 2 → sW W 0 kx (.tag c y) b) (hy : FO y p q) : wPost W 0 kx b p q (.tag (sp_n s p v) y) := by
  refine ⟨?_, FO_n hs hp (Nat.le_refl _) hq hy⟩
  show sW W 0 kx _ b
  exact h _ (sp_s_n hs hp) (by unfold sp_pl; rw [sp_v_n hs hp])
theorem mem_le {sc : sc_T} {V V1 : Nat} (h : V ≤ V1) (hs : ∀ e ∈ sc, e.2 < V) : ∀ e ∈ sc, e.2 < V1 := fun e he => Nat.lt_of_lt_of_le (hs e he) h
theorem st_W (hn : n ≤ 240) : ∀ (f g : Nat) (cx : cx_T) (b p V : Nat) (sc : sc_T) (x q V1 : Nat) (sc1 : sc_T) (t : Std.Format), g ≤ 3 → p ≤ n → sp_x tx n p = p → V ≤ 12 → scOK sc → (∀ e ∈ sc, e.2 < V) → (V1 ≤ W ∧ (g = 0 → x < 4)) → st tx n f g cx b p V sc x = .inr (q, V1, sc1, t) → wPost W g (kxOf cx) b p q t ∧ ∀ e ∈ sc1, e.2 < V1 := by
  intro f
  induction f with
  | zero => intro g cx b p V sc x q V1 sc1 t _ _ _ _ _ _ _ h; cases h
  | succ f ih =>
    intro g cx b p V sc x q V1 sc1 t hg hp hpx hV hok hsc hW h
    have hG := st_good (f + 1) g cx b p V sc x q V1 sc1 t hg hp hpx h
    have hgs : g = 0 ∨ g = 1 ∨ g = 2 ∨ g = 3 := by omega
    rcases hgs with rfl | rfl | rfl | rfl
    · rw [st0] at h
      have hpq := (hG.1.2.2 rfl).2
      have hqn := hG.1.1.2
      have hVV := hG.2.1.1
      have hx4 := hW.2 rfl
      by_cases c0 : 20 ≤ cx.length
      · rw [if_pos c0] at h; cases h
      rw [if_neg c0] at h
      by_cases cg : sp_c tx n p = 36 ∨ sp_c tx n p = 37
      · rw [if_pos cg] at h
        split at h
        · cases h
        · split at h
          · next hv hnm =>
            obtain ⟨-, h⟩ := st_x_inr h
            cases h
            have hu := nm_27 hnm.1
            have hs : (sp_c tx n p).toNatClampNeg = 36 ∨ (sp_c tx n p).toNatClampNeg = 37 := by
              rcases cg with e | e <;> rw [e]
              · exact Or.inl (by decide)
              · exact Or.inr (by decide)
            refine ⟨tag_W (by omega) (by omega) hpq (fun c h1 h2 => ?_) (FO_nil (by omega)), fun e he => ?_⟩
            · rw [sW_given (by omega)]
              refine ⟨?_, rfl⟩
              rw [h2]
              omega
            · rcases List.mem_cons.mp he with e1 | e1
              · rw [e1]; exact Nat.lt_succ_self _
              · exact Nat.lt_of_lt_of_le (hsc e e1) (Nat.le_succ _)
          · cases h
      rw [if_neg cg] at h
      by_cases c123 : sp_c tx n p = 123
      · rw [if_pos c123] at h
        have hx := sp_c_x c123 (by decide)
        obtain ⟨q1, V2, s2, t2, e1, e2⟩ := st_b_inr h
        cases e2
        have i := (ih 1 _ _ _ V sc 0 _ _ _ _ (by omega) hx.2.2.1 hx.2.2.2 hV hok hsc ⟨hW.1, by omega⟩ e1).1
        exact ⟨tag_W (by omega) (by omega) hpq (fun c h1 _ => (sW_123 h1).mpr i.1) (FO_mono _ _ _ _ _ i.2 (by omega) (Nat.le_refl _)), mem_le hVV hsc⟩
      rw [if_neg c123] at h
      by_cases cl : sp_lb (sp_c tx n p)
      · rw [if_pos cl] at h
        split at h
        · cases h
        · obtain ⟨x1, h⟩ := st_x_inr h
          have hx := sp_c_x (tx := tx) (n := n) (p := p) rfl (sp_lb_c cl)
          have hx1 := sp_c_x x1 (by decide)
          obtain ⟨q1, V2, s2, t2, e1, e2⟩ := st_b_inr h
          cases e2
          have i := (ih 0 _ _ _ V sc 0 _ _ _ _ (by omega) hx1.2.2.1 hx1.2.2.2 hV hok hsc ⟨hW.1, by omega⟩ e1).1
          exact ⟨tag_W (by omega) (by omega) hpq (fun c h1 _ => (sW_58 h1).mpr ⟨_, rfl, i.1⟩) (FO_a (FO_mono _ _ _ _ _ i.2 (by omega) (Nat.le_refl _)) (FO_nil (Nat.le_refl _))), mem_le hVV hsc⟩
      rw [if_neg cl] at h
      by_cases c73 : sp_c tx n p = 73
      · rw [if_pos c73] at h
        have hx := sp_c_x c73 (by decide)
        obtain ⟨x1, h⟩ := st_x_inr h
        have hx1 := sp_c_x x1 (by decide)
        obtain ⟨q2, u, e2, h⟩ := st_eb_inr h
        have g2 := st_e_good hx1.2.2.1 e2
        have w2 := st_e_WF (lo := p) hn hV (Nat.le_trans hVV hW.1) hsc hx1.2.2.1 (by omega) e2
        obtain ⟨x3, h⟩ := st_x_inr h
        have hx3 := sp_c_x x3 (by decide)
        obtain ⟨q4, V4, s4, t4, e4, h⟩ := st_b_inr h
        have g4 := st_good f 0 _ _ _ V sc 0 _ _ _ _ (by omega) hx3.2.2.1 hx3.2.2.2 e4
        split at h
        · next c69 =>
          have hx4 := sp_c_x c69 (by decide)
          obtain ⟨q5, V5, s5, t5, e5, h⟩ := st_b_inr h
          have g5 := st_good f 0 _ _ _ V4 sc 0 _ _ _ _ (by omega) hx4.2.2.1 hx4.2.2.2 e5
          cases h
          have hV4 := (g4.2.2 hok hV).2
          have i4 := (ih 0 _ _ _ V sc 0 _ _ _ _ (by omega) hx3.2.2.1 hx3.2.2.2 hV hok hsc ⟨Nat.le_trans g5.2.1.1 hW.1, by omega⟩ e4).1
          have i5 := (ih 0 _ _ _ V4 sc 0 _ _ _ _ (by omega) hx4.2.2.1 hx4.2.2.2 hV4 hok (mem_le g4.2.1.1 hsc) ⟨hW.1, by omega⟩ e5).1
          refine ⟨tag_W (by omega) (by omega) hpq (fun c h1 _ => (sW_73 h1).mpr (Or.inr ⟨_, _, _, rfl, w2.1, i4.1, i5.1⟩)) (FO_a w2.2 (FO_a (FO_mono _ _ _ _ _ i4.2 (by omega) (Nat.le_refl _)) (FO_a (FO_mono _ _ _ _ _ i5.2 (by omega) (Nat.le_refl _)) (FO_nil (Nat.le_refl _))))), mem_le hVV hsc⟩
        · cases h
          have i4 := (ih 0 _ _ _ V sc 0 _ _ _ _ (by omega) hx3.2.2.1 hx3.2.2.2 hV hok hsc ⟨hW.1, by omega⟩ e4).1
          refine ⟨tag_W (by omega) (by omega) hpq (fun c h1 _ => (sW_73 h1).mpr (Or.inl ⟨_, _, rfl, w2.1, i4.1⟩)) (FO_a w2.2 (FO_a (FO_mono _ _ _ _ _ i4.2 (by omega) (Nat.le_refl _)) (FO_nil (Nat.le_refl _)))), mem_le hVV hsc⟩
      rw [if_neg c73] at h
      by_cases c87 : sp_c tx n p = 87
      · rw [if_pos c87] at h
        have hx := sp_c_x c87 (by decide)
        obtain ⟨x1, h⟩ := st_x_inr h
        have hx1 := sp_c_x x1 (by decide)
        obtain ⟨q2, u, e2, h⟩ := st_eb_inr h
        have g2 := st_e_good hx1.2.2.1 e2
        have w2 := st_e_WF (lo := p) hn hV (Nat.le_trans hVV hW.1) hsc hx1.2.2.1 (by omega) e2
        obtain ⟨x3, h⟩ := st_x_inr h
        have hx3 := sp_c_x x3 (by decide)
        obtain ⟨q4, V4, s4, t4, e4, h⟩ := st_b_inr h
        cases h
        have i4 := (ih 0 _ _ _ V sc 0 _ _ _ _ (by omega) hx3.2.2.1 hx3.2.2.2 hV hok hsc ⟨hW.1, by omega⟩ e4).1
        exact ⟨tag_W (by omega) (by omega) hpq (fun c h1 _ => (sW_87 h1).mpr ⟨_, _, rfl, w2.1, i4.1⟩) (FO_a w2.2 (FO_a (FO_mono _ _ _ _ _ i4.2 (by omega) (Nat.le_refl _)) (FO_nil (Nat.le_refl _)))), mem_le hVV hsc⟩
      rw [if_neg c87] at h
      by_cases c68 : sp_c tx n p = 68
      · rw [if_pos c68] at h
        have hx := sp_c_x c68 (by decide)
        obtain ⟨q4, V4, s4, t4, e4, h⟩ := st_b_inr h
        have g4 := st_good f 0 _ _ _ V sc 0 _ _ _ _ (by omega) hx.2.2.1 hx.2.2.2 e4
        obtain ⟨x1, h⟩ := st_x_inr h
        have hx1 := sp_c_x x1 (by decide)
        obtain ⟨q2, u, e2, h⟩ := st_eb_inr h
        have g2 := st_e_good hx1.2.2.1 e2
        obtain ⟨x3, h⟩ := st_x_inr h
        have hx3 := sp_c_x x3 (by decide)
        obtain ⟨x5, h⟩ := st_x_inr h
        have hx5 := sp_c_x x5 (by decide)
        cases h
        have w2 := st_e_WF (lo := q4) hn hV (Nat.le_trans hVV hW.1) hsc hx1.2.2.1 (by omega) e2
        have i4 := (ih 0 _ _ _ V sc 0 _ _ _ _ (by omega) hx.2.2.1 hx.2.2.2 hV hok hsc ⟨hW.1, by omega⟩ e4).1
        exact ⟨tag_W (by omega) (by omega) hpq (fun c h1 _ => (sW_68 h1).mpr ⟨_, _, rfl, w2.1, i4.1⟩) (FO_a (FO_mono _ _ _ _ _ i4.2 (by omega) (Nat.le_refl _)) (FO_a w2.2 (FO_nil (by omega)))), mem_le hVV hsc⟩
      rw [if_neg c68] at h
      by_cases c70 : sp_c tx n p = 70
      · rw [if_pos c70] at h
        have hx := sp_c_x c70 (by decide)
        obtain ⟨x1, h⟩ := st_x_inr h
        have hx1 := sp_c_x x1 (by decide)
        obtain ⟨q2, u, e2, h⟩ := st_eb_inr h
        have g2 := st_e_good hx1.2.2.1 e2
        have w2 := st_e_WF (lo := p) hn hV (Nat.le_trans hVV hW.1) hsc hx1.2.2.1 (by omega) e2
        obtain ⟨x3, h⟩ := st_x_inr h
        have hx3 := sp_c_x x3 (by decide)
        obtain ⟨q5, u5, e5, h⟩ := st_eb_inr h
        have g5 := st_e_good hx3.2.2.1 e5
        have w5 := st_e_WF (lo := q2) hn hV (Nat.le_trans hVV hW.1) hsc hx3.2.2.1 (by omega) e5
        obtain ⟨x6, h⟩ := st_x_inr h
        have hx6 := sp_c_x x6 (by decide)
        obtain ⟨q4, V4, s4, t4, e4, h⟩ := st_b_inr h
        cases h
        have i4 := (ih 0 _ _ _ V sc 0 _ _ _ _ (by omega) hx6.2.2.1 hx6.2.2.2 hV hok hsc ⟨hW.1, by omega⟩ e4).1
        exact ⟨tag_W (by omega) (by omega) hpq (fun c h1 _ => (sW_70 h1).mpr ⟨_, _, _, rfl, ⟨w2.1, w5.1⟩, i4.1⟩) (FO_a w2.2 (FO_a w5.2 (FO_a (FO_mono _ _ _ _ _ i4.2 (by omega) (Nat.le_refl _)) (FO_nil (Nat.le_refl _))))), mem_le hVV hsc⟩
      rw [if_neg c70] at h
      by_cases c83 : sp_c tx n p = 83
      · rw [if_pos c83] at h
        have hx := sp_c_x c83 (by decide)
        obtain ⟨x1, h⟩ := st_x_inr h
        have hx1 := sp_c_x x1 (by decide)
        obtain ⟨q2, u, e2, h⟩ := st_eb_inr h
        have g2 := st_e_good hx1.2.2.1 e2
        have w2 := st_e_WF (lo := p) hn hV (Nat.le_trans hVV hW.1) hsc hx1.2.2.1 (by omega) e2
        obtain ⟨x3, h⟩ := st_x_inr h
        have hx3 := sp_c_x x3 (by decide)
        obtain ⟨x5, h⟩ := st_x_inr h
        have hx5 := sp_c_x x5 (by decide)
        obtain ⟨q4, V4, s4, t4, e4, h⟩ := st_b_inr h
        cases h
        have i4 := (ih 2 _ _ _ V sc 1 _ _ _ _ (by omega) hx5.2.2.1 hx5.2.2.2 hV hok hsc ⟨hW.1, by omega⟩ e4).1
        exact ⟨tag_W (by omega) (by omega) hpq (fun c h1 _ => (sW_83 h1).mpr ⟨_, _, rfl, w2.1, i4.1⟩) (FO_a w2.2 (FO_mono _ _ _ _ _ i4.2 (by omega) (Nat.le_refl _))), mem_le hVV hsc⟩
      rw [if_neg c83] at h
      by_cases c84 : sp_c tx n p = 84
      · rw [if_pos c84] at h
        have hx := sp_c_x c84 (by decide)
        obtain ⟨x1, h⟩ := st_x_inr h
        have hx1 := sp_c_x x1 (by decide)
        obtain ⟨q2, V2, s2, t2, e2, h⟩ := st_b_inr h
        have g2 := st_good f 1 _ _ _ V sc 0 _ _ _ _ (by omega) hx1.2.2.1 hx1.2.2.2 e2
        have hV2 := (g2.2.2 hok hV).2
        split at h
        · next c75 =>
          have hx2 := sp_c_x c75 (by decide)
          obtain ⟨x3, h⟩ := st_x_inr h
          have hx3 := sp_c_x x3 (by decide)
          obtain ⟨q4, V4, s4, t4, e4, h⟩ := st_b_inr h
          have g4 := st_good f 1 _ _ _ V2 sc 0 _ _ _ _ (by omega) hx3.2.2.1 hx3.2.2.2 e4
          have hV4 := (g4.2.2 hok hV2).2
          split at h
          · next c78 =>
            have hx4 := sp_c_x c78 (by decide)
            obtain ⟨x5, h⟩ := st_x_inr h
            have hx5 := sp_c_x x5 (by decide)
            obtain ⟨q6, V6, s6, t6, e6, h⟩ := st_b_inr h
            have g6 := st_good f 1 _ _ _ V4 sc 0 _ _ _ _ (by omega) hx5.2.2.1 hx5.2.2.2 e6
            cases h
            have i2 := (ih 1 _ _ _ V sc 0 _ _ _ _ (by omega) hx1.2.2.1 hx1.2.2.2 hV hok hsc ⟨Nat.le_trans (Nat.le_trans g4.2.1.1 g6.2.1.1) hW.1, by omega⟩ e2).1
            have i4 := (ih 1 _ _ _ V2 sc 0 _ _ _ _ (by omega) hx3.2.2.1 hx3.2.2.2 hV2 hok (mem_le g2.2.1.1 hsc) ⟨Nat.le_trans g6.2.1.1 hW.1, by omega⟩ e4).1
            have i6 := (ih 1 _ _ _ V4 sc 0 _ _ _ _ (by omega) hx5.2.2.1 hx5.2.2.2 hV4 hok (mem_le (Nat.le_trans g2.2.1.1 g4.2.1.1) hsc) ⟨hW.1, by omega⟩ e6).1
            refine ⟨tag_W (by omega) (by omega) hpq (fun c h1 h2 => (sW_84 h1).mpr ⟨by omega, _, _, _, rfl, ⟨fun q => by omega, fun q => by omega⟩, i2.1, i4.1, i6.1⟩) (FO_a (FO_mono _ _ _ _ _ i2.2 (by omega) (Nat.le_refl _)) (FO_a (FO_mono _ _ _ _ _ i4.2 (by omega) (Nat.le_refl _)) (FO_mono _ _ _ _ _ i6.2 (by omega) (Nat.le_refl _)))), mem_le hVV hsc⟩
          · cases h
            have i2 := (ih 1 _ _ _ V sc 0 _ _ _ _ (by omega) hx1.2.2.1 hx1.2.2.2 hV hok hsc ⟨Nat.le_trans g4.2.1.1 hW.1, by omega⟩ e2).1
            have i4 := (ih 1 _ _ _ V2 sc 0 _ _ _ _ (by omega) hx3.2.2.1 hx3.2.2.2 hV2 hok (mem_le g2.2.1.1 hsc) ⟨hW.1, by omega⟩ e4).1
            refine ⟨tag_W (by omega) (by omega) hpq (fun c h1 h2 => (sW_84 h1).mpr ⟨by omega, _, _, _, rfl, ⟨fun q => by omega, fun _ => rfl⟩, i2.1, i4.1, sW_nil⟩) (FO_a (FO_mono _ _ _ _ _ i2.2 (by omega) (Nat.le_refl _)) (FO_a (FO_mono _ _ _ _ _ i4.2 (by omega) (Nat.le_refl _)) (FO_nil (Nat.le_refl _)))), mem_le hVV hsc⟩
        · obtain ⟨x2, h⟩ := st_x_inr h
          have hx2 := sp_c_x x2 (by decide)
          obtain ⟨x3, h⟩ := st_x_inr h
          have hx3 := sp_c_x x3 (by decide)
          obtain ⟨q4, V4, s4, t4, e4, h⟩ := st_b_inr h
          have g4 := st_good f 1 _ _ _ V2 sc 0 _ _ _ _ (by omega) hx3.2.2.1 hx3.2.2.2 e4
          cases h
          have i2 := (ih 1 _ _ _ V sc 0 _ _ _ _ (by omega) hx1.2.2.1 hx1.2.2.2 hV hok hsc ⟨Nat.le_trans g4.2.1.1 hW.1, by omega⟩ e2).1
          have i4 := (ih 1 _ _ _ V2 sc 0 _ _ _ _ (by omega) hx3.2.2.1 hx3.2.2.2 hV2 hok (mem_le g2.2.1.1 hsc) ⟨hW.1, by omega⟩ e4).1
          refine ⟨tag_W (by omega) (by omega) hpq (fun c h1 h2 => (sW_84 h1).mpr ⟨by omega, _, _, _, rfl, ⟨fun _ => rfl, fun q => by omega⟩, i2.1, sW_nil, i4.1⟩) (FO_a (FO_mono _ _ _ _ _ i2.2 (by omega) (Nat.le_refl _)) (FO_a (FO_nil (Nat.le_refl _)) (FO_mono _ _ _ _ _ i4.2 (by omega) (Nat.le_refl _)))), mem_le hVV hsc⟩
      rw [if_neg c84] at h
      by_cases cj : sp_c tx n p = 66 ∨ sp_c tx n p = 67
      · rw [if_pos cj] at h
        have hs : (sp_c tx n p).toNatClampNeg = 66 ∨ (sp_c tx n p).toNatClampNeg = 67 := by
          rcases cj with e | e <;> rw [e]
          · exact Or.inl (by decide)
          · exact Or.inr (by decide)
        split at h
        · split at h
          · cases h
          · next hto =>
            obtain ⟨x1, h⟩ := st_x_inr h
            have hx1 := sp_c_x x1 (by decide)
            cases h
            obtain ⟨i, s, w1, w2, w3⟩ := cx_to_W cx 0 (kxOf cx) (fun e he => he) (fun q => absurd rfl q) hto
            refine ⟨tag_W (by omega) (by omega) hpq (fun c h1 h2 => (sW_jump (by omega)).mpr ⟨rfl, i, s, w1, by omega, fun q => w3 (by omega)⟩) (FO_nil (by omega)), mem_le hVV hsc⟩
        · split at h
          · cases h
          · next hto =>
            obtain ⟨x1, h⟩ := st_x_inr h
            have hx1 := sp_c_x x1 (by decide)
            cases h
            obtain ⟨i, s, w1, w2, w3⟩ := cx_near_W cx hto
            refine ⟨tag_W (by omega) (by omega) hpq (fun c h1 h2 => (sW_jump (by omega)).mpr ⟨rfl, i, s, w1, by omega, fun q => w3 (by omega)⟩) (FO_nil (by omega)), mem_le hVV hsc⟩
      rw [if_neg cj] at h
      by_cases cr : sp_c tx n p = 82 ∨ sp_c tx n p = 88
      · rw [if_pos cr] at h
        have hs : (sp_c tx n p).toNatClampNeg = 82 ∨ (sp_c tx n p).toNatClampNeg = 88 := by
          rcases cr with e | e <;> rw [e]
          · exact Or.inl (by decide)
          · exact Or.inr (by decide)
        have hx := sp_c_x (tx := tx) (n := n) (p := p) rfl (by rcases cr with e | e <;> · rw [e]; decide)
        split at h
        · cases h
          exact ⟨tag_W (by omega) (by omega) hpq (fun c h1 h2 => (sW_RX (by omega)).mpr (Or.inl rfl)) (FO_nil (by omega)), mem_le hVV hsc⟩
        · obtain ⟨q2, u, e2, h⟩ := st_eb_inr h
          have g2 := st_e_good hx.2.2.1 e2
          have w2 := st_e_WF (lo := p) hn hV (Nat.le_trans hVV hW.1) hsc hx.2.2.1 (by omega) e2
          obtain ⟨x3, h⟩ := st_x_inr h
          have hx3 := sp_c_x x3 (by decide)
          cases h
          exact ⟨tag_W (by omega) (by omega) hpq (fun c h1 h2 => (sW_RX (by omega)).mpr (Or.inr ⟨_, rfl, w2.1⟩)) (FO_a w2.2 (FO_nil (by omega))), mem_le hVV hsc⟩
      rw [if_neg cr] at h
      obtain ⟨q2, u, e2, h⟩ := st_eb_inr h
      have g2 := st_e_good hp e2
      have w2 := st_e_WF (lo := p) hn hV (Nat.le_trans hVV hW.1) hsc hp (by omega) e2
      obtain ⟨x3, h⟩ := st_x_inr h
      have hx3 := sp_c_x x3 (by decide)
      cases h
      exact ⟨tag_W (by omega) (by omega) hpq (fun c h1 h2 => (sW_59 h1).mpr ⟨_, rfl, w2.1⟩) (FO_a w2.2 (FO_nil (by omega))), mem_le hVV hsc⟩
    · rw [st1] at h
      split at h
      · next hc =>
        have hx := sp_c_x hc (by decide)
        cases h
        exact ⟨⟨sW_nil, FO_nil (by omega)⟩, hsc⟩
      · obtain ⟨q1, V2, s2, t2, e1, h⟩ := st_b_inr h
        have g1 := st_good f 0 _ _ _ V sc 1 _ _ _ _ (by omega) hp hpx e1
        obtain ⟨q3, V3, s3, t3, e3, h⟩ := st_b_inr h
        have g3 := st_good f 1 _ _ _ V2 s2 0 _ _ _ _ (by omega) g1.1.1.2 g1.1.2.1 e3
        cases h
        have i1 := ih 0 _ _ _ V sc 1 _ _ _ _ (by omega) hp hpx hV hok hsc ⟨Nat.le_trans g3.2.1.1 hW.1, by omega⟩ e1
        have o1 := g1.2.2 hok hV
        have i3 := ih 1 _ _ _ V2 s2 0 _ _ _ _ (by omega) g1.1.1.2 g1.1.2.1 o1.2 o1.1 i1.2 ⟨hW.1, by omega⟩ e3
        refine ⟨⟨?_, FO_a i1.1.2 i3.1.2⟩, i3.2⟩
        show sW W 1 _ _ b
        rw [sW_1]
        exact ⟨i1.1.1, i3.1.1⟩
    · rw [st2] at h
      split at h
      · next hc =>
        have hx := sp_c_x hc (by decide)
        cases h
        refine ⟨⟨?_, ?_⟩, hsc⟩
        · show sW W 1 _ _ b
          split
          · exact sW_line
          · exact sW_nil
        · split
          · exact (show p ≤ _ by omega)
          · exact (show p ≤ _ by omega)
      · split at h
        · next hc =>
          have hcp : ¬ sp_c tx n p = -1 := by
            intro e; rw [e] at hc; rcases hc with hc | hc
            · exact absurd hc (by decide)
            · exact absurd hc.1 (by decide)
          have hx := sp_c_x (tx := tx) (n := n) (p := p) rfl hcp
          obtain ⟨x3, h⟩ := st_x_inr h
          have hx3 := sp_c_x x3 (by decide)
          have i := ih 2 _ _ _ V sc _ _ _ _ _ (by omega) hx3.2.2.1 hx3.2.2.2 hV hok hsc ⟨hW.1, by omega⟩ h
          exact ⟨⟨i.1.1, FO_mono _ _ _ _ _ i.1.2 (by omega) (Nat.le_refl _)⟩, i.2⟩
        · split at h
          · cases h
          · obtain ⟨q1, V2, s2, t2, e1, h⟩ := st_b_inr h
            have g1 := st_good f 0 _ _ _ V sc _ _ _ _ _ (by omega) hp hpx e1
            obtain ⟨q3, V3, s3, t3, e3, h⟩ := st_b_inr h
            have g3 := st_good f 2 _ _ _ V2 s2 _ _ _ _ _ (by omega) g1.1.1.2 g1.1.2.1 e3
            cases h
            have i1 := ih 0 _ _ _ V sc _ _ _ _ _ (by omega) hp hpx hV hok hsc ⟨Nat.le_trans g3.2.1.1 hW.1, by omega⟩ e1
            have o1 := g1.2.2 hok hV
            have i3 := ih 2 _ _ _ V2 s2 _ _ _ _ _ (by omega) g1.1.1.2 g1.1.2.1 o1.2 o1.1 i1.2 ⟨hW.1, by omega⟩ e3
            refine ⟨⟨?_, FO_a i1.1.2 i3.1.2⟩, i3.2⟩
            show sW W 1 _ _ b
            rw [sW_1]
            exact ⟨i1.1.1, i3.1.1⟩
    · rw [st3] at h
      split at h
      · cases h
        exact ⟨⟨sW_nil, FO_nil (Nat.le_refl _)⟩, hsc⟩
      · obtain ⟨q1, V2, s2, t2, e1, h⟩ := st_b_inr h
        have g1 := st_good f 0 _ _ _ V sc 1 _ _ _ _ (by omega) hp hpx e1
        obtain ⟨q3, V3, s3, t3, e3, h⟩ := st_b_inr h
        have g3 := st_good f 3 _ _ _ V2 s2 0 _ _ _ _ (by omega) g1.1.1.2 g1.1.2.1 e3
        cases h
        have i1 := ih 0 _ _ _ V sc 1 _ _ _ _ (by omega) hp hpx hV hok hsc ⟨Nat.le_trans g3.2.1.1 hW.1, by omega⟩ e1
        have o1 := g1.2.2 hok hV
        have i3 := ih 3 _ _ _ V2 s2 0 _ _ _ _ (by omega) g1.1.1.2 g1.1.2.1 o1.2 o1.1 i1.2 ⟨hW.1, by omega⟩ e3
        refine ⟨⟨?_, FO_a i1.1.2 i3.1.2⟩, i3.2⟩
        show sW W 1 _ _ b
        rw [sW_1]
        exact ⟨i1.1.1, i3.1.1⟩
end SWK
