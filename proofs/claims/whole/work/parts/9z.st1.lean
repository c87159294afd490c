/-! what the reading of statements says of depth, jumps and signs -/
def jT : kx_T → Std.Format → Nat → Prop
  | cx, .tag c x, b => if stS (sp_s c) then ((sp_s c = 66 ∨ sp_s c = 67) → ∃ i s, (i, s) ∈ cx ∧ sp_pl c = i + 1 ∧ ¬ s = 84) ∧ jT ((b, sp_s c) :: cx) x (b + 1) else True
  | cx, .append x y, b => jT cx x b ∧ jT cx y (b + sp_z x)
  | _, _, _ => True
def dpS : Std.Format → Nat
  | .tag c x => if stS (sp_s c) then 1 + dpS x else 0
  | .append x y => max (dpS x) (dpS y)
  | _ => 0
def jw (s pl : Nat) : Nat := if s = 84 then (if pl / 2 = 1 then 6 else 0) else if s = 66 ∨ s = 67 then 2 else 0
def wS : Std.Format → Nat
  | .tag c x => if stS (sp_s c) then jw (sp_s c) (sp_pl c) + wS x else 0
  | .append x y => wS x + wS y
  | _ => 0
theorem jT_tag {cx : kx_T} {c b : Nat} {x : Std.Format} : jT cx (.tag c x) b = (if stS (sp_s c) then ((sp_s c = 66 ∨ sp_s c = 67) → ∃ i s, (i, s) ∈ cx ∧ sp_pl c = i + 1 ∧ ¬ s = 84) ∧ jT ((b, sp_s c) :: cx) x (b + 1) else True) := by rw [jT]
theorem jT_a {cx : kx_T} {b : Nat} {x y : Std.Format} : jT cx (.append x y) b = (jT cx x b ∧ jT cx y (b + sp_z x)) := by rw [jT]
theorem jT_nil {cx : kx_T} {b : Nat} : jT cx .nil b := by rw [jT.eq_def]; trivial
theorem jT_line {cx : kx_T} {b : Nat} : jT cx .line b := by rw [jT.eq_def]; trivial
def cxJ (cx : cx_T) : Prop := cx.length ≤ 20 ∧ ∀ e ∈ cx, ¬ e.2.2 = 0 → ¬ e.2.1 = 84
def jPost (g : Nat) (cx : cx_T) (b p q : Nat) (t : Std.Format) : Prop := jT (kxOf cx) t b ∧ dpS t + cx.length ≤ 20 ∧ p + wS t + (if g = 1 then 1 else 0) ≤ q
theorem jE {W : Nat} {u : Std.Format} (h : eW W u) (cx : kx_T) (b : Nat) : jT cx u b ∧ dpS u = 0 ∧ wS u = 0 := by
  obtain ⟨c, x, rfl, -⟩ := eW_tag h
  have := eW_notS h
  refine ⟨?_, ?_, ?_⟩
  · rw [jT_tag, if_neg this]; trivial
  · show (if stS (sp_s c) then _ else 0) = 0
    rw [if_neg this]
  · show (if stS (sp_s c) then _ else 0) = 0
    rw [if_neg this]
theorem jP_tag {s p v b q : Nat} {cx : cx_T} {y : Std.Format} (hs : s < 256) (hp : p < 256) (hst : stS s) (hj : (s = 66 ∨ s = 67) → ∃ i s', (i, s') ∈ kxOf cx ∧ v / 2 = i + 1 ∧ ¬ s' = 84) (hy : jT ((b, s) :: kxOf cx) y (b + 1)) (hd : dpS y + (cx.length + 1) ≤ 20) (hw : p + jw s (v / 2) + wS y ≤ q) : jPost 0 cx b p q (.tag (sp_n s p v) y) := by
  have e1 : sp_s (sp_n s p v) = s := sp_s_n hs hp
  have e2 : sp_pl (sp_n s p v) = v / 2 := by unfold sp_pl; rw [sp_v_n hs hp]
  refine ⟨?_, ?_, ?_⟩
  · rw [jT_tag, e1, e2, if_pos hst]
    exact ⟨hj, hy⟩
  · show (if stS (sp_s (sp_n s p v)) then 1 + dpS y else 0) + cx.length ≤ 20
    rw [e1, if_pos hst]
    omega
  · show p + (if stS (sp_s (sp_n s p v)) then jw (sp_s (sp_n s p v)) (sp_pl (sp_n s p v)) + wS y else 0) + (if (0 : Nat) = 1 then 1 else 0) ≤ q
    rw [e1, e2, if_pos hst, if_neg (by decide)]
    omega
theorem cx_near_J {j : Nat} : ∀ (cx : cx_T), ¬ cx_near j cx = 0 → ∃ i s, (i, s) ∈ kxOf cx ∧ cx_near j cx = i + 1 ∧ ¬ s = 84
  | [], h => absurd rfl h
  | (i, s, m) :: r, h => by
    have e2 : cx_near j ((i, s, m) :: r) = if is_lp s ∨ (j = 66 ∧ s = 83) then i + 1 else cx_near j r := rfl
    by_cases c : is_lp s ∨ (j = 66 ∧ s = 83)
    · rw [if_pos c] at e2
      exact ⟨i, s, List.mem_cons_self, e2, by unfold is_lp at c; omega⟩
    · rw [if_neg c] at e2
      rw [e2] at h ⊢
      obtain ⟨i', s', h1, h2⟩ := cx_near_J r h
      exact ⟨i', s', List.mem_cons_of_mem _ h1, h2⟩
theorem cx_to_J {j L : Nat} (hL : ¬ L = 0) : ∀ (cx : cx_T) (w : Nat) (kx : kx_T), (∀ e ∈ cx, ¬ e.2.2 = 0 → ¬ e.2.1 = 84) → (∀ e ∈ kxOf cx, e ∈ kx) → (¬ w = 0 → ∃ i s, (i, s) ∈ kx ∧ w = i + 1 ∧ ¬ s = 84) → ¬ cx_to j L w cx = 0 → ∃ i s, (i, s) ∈ kx ∧ cx_to j L w cx = i + 1 ∧ ¬ s = 84
  | [], w, kx, _, _, _, h => absurd rfl h
  | (i, s, m) :: r, w, kx, hc, hk, hw, h => by
    have e2 : cx_to j L w ((i, s, m) :: r) = if m = L then (if j = 66 then i + 1 else w) else cx_to j L (if is_lp s then i + 1 else 0) r := rfl
    have hi : (i, s) ∈ kx := hk _ List.mem_cons_self
    by_cases c : m = L
    · rw [if_pos c] at e2
      by_cases d : j = 66
      · rw [if_pos d] at e2
        exact ⟨i, s, hi, e2, hc _ List.mem_cons_self (by show ¬ m = 0; omega)⟩
      · rw [if_neg d] at e2
        rw [e2] at h ⊢
        exact hw h
    · rw [if_neg c] at e2
      rw [e2] at h ⊢
      refine cx_to_J hL r _ kx (fun e he => hc e (List.mem_cons_of_mem _ he)) (fun e he => hk e (List.mem_cons_of_mem _ he)) (fun hq => ?_) h
      by_cases d : is_lp s
      · rw [if_pos d]; exact ⟨i, s, hi, rfl, by unfold is_lp at d; omega⟩
      · rw [if_neg d] at hq; exact absurd rfl hq
theorem lb_n0 {c : Int32} (h : sp_lb c) : ¬ c.toNatClampNeg = 0 := by
  have h1 : ¬ c < 0 := by
    intro q
    have := Int32.lt_of_lt_of_le q (show (0 : Int32) ≤ 50 by decide)
    exact absurd h.1 (Int32.not_le.mpr this)
  obtain ⟨j, hj, rfl⟩ := nI_of h1
  have h2 := h.1
  rw [show (50 : Int32) = nI 50 from rfl, nI_leI (by omega) hj] at h2
  rw [nI_clamp hj]
  omega
theorem cxJ_c {cx : cx_T} {b s m : Nat} (h : cxJ cx) (hl : ¬ 20 ≤ cx.length) (hm : m = 0 ∨ ¬ s = 84) : cxJ ((b, s, m) :: cx) := by
  refine ⟨by rw [List.length_cons]; omega, fun e he hz => ?_⟩
  rcases List.mem_cons.mp he with rfl | he
  · exact hm.resolve_left hz
  · exact h.2 e he hz
section STJ
variable {tx : Nat → Int32} {n : Nat} {W : Nat}
set_option maxHeartbeats 4000000 in
theorem st_J (hn : n ≤ 240) : ∀ (f g : Nat) (cx : cx_T) (b p V : Nat) (sc : sc_T) (x q V1 : Nat) (sc1 : sc_T) (t : Std.Format), g ≤ 3 → p ≤ n → sp_x tx n p = p → V ≤ 12 → scOK sc → (∀ e ∈ sc, e.2 < V) → (V1 ≤ W ∧ (g = 0 → x < 4)) → cxJ cx → st tx n f g cx b p V sc x = .inr (q, V1, sc1, t) → jPost g cx b p q t := by
  intro f
  induction f with
  | zero => intro g cx b p V sc x q V1 sc1 t _ _ _ _ _ _ _ _ h; cases h
  | succ f ih =>
    intro g cx b p V sc x q V1 sc1 t hg hp hpx hV hok hsc hW hJ h
    have hG := st_good (f + 1) g cx b p V sc x q V1 sc1 t hg hp hpx h
    have hgs : g = 0 ∨ g = 1 ∨ g = 2 ∨ g = 3 := by omega
    rcases hgs with rfl | rfl | rfl | rfl
    · rw [st0] at h
      have hpq := (hG.1.2.2 rfl).2
      have hqn := hG.1.1.2
      have hVV := hG.2.1.1
      have hx4 := hW.2 rfl
      by_cases c0 : 20 ≤ cx.length
      · rw [if_pos c0] at h; cases h
      rw [if_neg c0] at h
      have d0 : dpS .nil + (cx.length + 1) ≤ 20 := by show 0 + (cx.length + 1) ≤ 20; omega
      by_cases cg : sp_c tx n p = 36 ∨ sp_c tx n p = 37
      · rw [if_pos cg] at h
        split at h
        · cases h
        · split at h
          · next hv hnm =>
            obtain ⟨-, h⟩ := st_x_inr h
            cases h
            have hs : (sp_c tx n p).toNatClampNeg = 36 ∨ (sp_c tx n p).toNatClampNeg = 37 := by
              rcases cg with e | e <;> rw [e]
              · exact Or.inl (by decide)
              · exact Or.inr (by decide)
            refine jP_tag (by omega) (by omega) (by unfold stS; omega) (fun q => by omega) jT_nil d0 ?_
            have e0 : ∀ z, jw (sp_c tx n p).toNatClampNeg z = 0 := fun z => by unfold jw; rw [if_neg (by omega), if_neg (by omega)]
            rw [e0]
            show p + 0 + 0 ≤ _
            omega
          · cases h
      rw [if_neg cg] at h
      by_cases c123 : sp_c tx n p = 123
      · rw [if_pos c123] at h
        have hx := sp_c_x c123 (by decide)
        obtain ⟨q1, V2, s2, t2, e1, e2⟩ := st_b_inr h
        cases e2
        have i := ih 1 _ _ _ V sc 0 _ _ _ _ (by omega) hx.2.2.1 hx.2.2.2 hV hok hsc ⟨hW.1, by omega⟩ (cxJ_c hJ c0 (Or.inl rfl)) e1
        refine jP_tag (by omega) (by omega) (by decide) (fun q => by omega) i.1 i.2.1 ?_
        have i3 := i.2.2
        have e0 : jw 123 (x / 2 / 2) = 0 := by unfold jw; rw [if_neg (by omega), if_neg (by omega)]
        rw [e0]
        rw [if_pos rfl] at i3
        omega
      rw [if_neg c123] at h
      by_cases cl : sp_lb (sp_c tx n p)
      · rw [if_pos cl] at h
        split at h
        · cases h
        · obtain ⟨x1, h⟩ := st_x_inr h
          have hx := sp_c_x (tx := tx) (n := n) (p := p) rfl (sp_lb_c cl)
          have hx1 := sp_c_x x1 (by decide)
          obtain ⟨q1, V2, s2, t2, e1, e2⟩ := st_b_inr h
          cases e2
          have i := ih 0 _ _ _ V sc 0 _ _ _ _ (by omega) hx1.2.2.1 hx1.2.2.2 hV hok hsc ⟨hW.1, by omega⟩ (cxJ_c hJ c0 (Or.inr (by decide))) e1
          refine jP_tag (by omega) (by omega) (by decide) (fun q => by omega) (by rw [jT_a]; exact ⟨i.1, jT_nil⟩) ?_ ?_
          · show max (dpS t2) 0 + (cx.length + 1) ≤ 20
            have := i.2.1
            rw [List.length_cons] at this
            omega
          · have i3 := i.2.2
            have e0 : jw 58 (x / 2 / 2) = 0 := by unfold jw; rw [if_neg (by omega), if_neg (by omega)]
            rw [e0]
            rw [if_neg (by decide)] at i3
            show p + 0 + (wS t2 + 0) ≤ _
            omega
      rw [if_neg cl] at h
      by_cases c73 : sp_c tx n p = 73
      · rw [if_pos c73] at h
        have hx := sp_c_x c73 (by decide)
        obtain ⟨x1, h⟩ := st_x_inr h
        have hx1 := sp_c_x x1 (by decide)
        obtain ⟨q2, u, e2, h⟩ := st_eb_inr h
        have g2 := st_e_good hx1.2.2.1 e2
        have w2 := jE (st_e_WF (W := W) (lo := p) hn hV (Nat.le_trans hVV hW.1) hsc hx1.2.2.1 (by omega) e2).1
        obtain ⟨x3, h⟩ := st_x_inr h
        have hx3 := sp_c_x x3 (by decide)
        obtain ⟨q4, V4, s4, t4, e4, h⟩ := st_b_inr h
        have g4 := st_good f 0 _ _ _ V sc 0 _ _ _ _ (by omega) hx3.2.2.1 hx3.2.2.2 e4
        have e0 : jw 73 (x / 2 / 2) = 0 := by unfold jw; rw [if_neg (by omega), if_neg (by omega)]
        split at h
        · next c69 =>
          have hx4 := sp_c_x c69 (by decide)
          obtain ⟨q5, V5, s5, t5, e5, h⟩ := st_b_inr h
          have g5 := st_good f 0 _ _ _ V4 sc 0 _ _ _ _ (by omega) hx4.2.2.1 hx4.2.2.2 e5
          cases h
          have hV4 := (g4.2.2 hok hV).2
          have i4 := ih 0 _ _ _ V sc 0 _ _ _ _ (by omega) hx3.2.2.1 hx3.2.2.2 hV hok hsc ⟨Nat.le_trans g5.2.1.1 hW.1, by omega⟩ (cxJ_c hJ c0 (Or.inl rfl)) e4
          have i5 := ih 0 _ _ _ V4 sc 0 _ _ _ _ (by omega) hx4.2.2.1 hx4.2.2.2 hV4 hok (mem_le g4.2.1.1 hsc) ⟨hW.1, by omega⟩ (cxJ_c hJ c0 (Or.inl rfl)) e5
          refine jP_tag (by omega) (by omega) (by decide) (fun q => by omega) (by rw [jT_a, jT_a, jT_a]; exact ⟨(w2 _ _).1, i4.1, i5.1, jT_nil⟩) ?_ ?_
          · show max (dpS u) (max (dpS t4) (max (dpS t5) 0)) + (cx.length + 1) ≤ 20
            have k1 := i4.2.1
            have k2 := i5.2.1
            have k3 := (w2 [] 0).2.1
            rw [List.length_cons] at k1 k2
            omega
          · have k1 := i4.2.2
            have k2 := i5.2.2
            have k3 := (w2 [] 0).2.2
            rw [if_neg (by decide)] at k1 k2
            rw [e0]
            show p + 0 + (wS u + (wS t4 + (wS t5 + 0))) ≤ _
            omega
        · cases h
          have i4 := ih 0 _ _ _ V sc 0 _ _ _ _ (by omega) hx3.2.2.1 hx3.2.2.2 hV hok hsc ⟨hW.1, by omega⟩ (cxJ_c hJ c0 (Or.inl rfl)) e4
          refine jP_tag (by omega) (by omega) (by decide) (fun q => by omega) (by rw [jT_a, jT_a]; exact ⟨(w2 _ _).1, i4.1, jT_nil⟩) ?_ ?_
          · show max (dpS u) (max (dpS t4) 0) + (cx.length + 1) ≤ 20
            have k1 := i4.2.1
            have k3 := (w2 [] 0).2.1
            rw [List.length_cons] at k1
            omega
          · have k1 := i4.2.2
            have k3 := (w2 [] 0).2.2
            rw [if_neg (by decide)] at k1
            rw [e0]
            show p + 0 + (wS u + (wS t4 + 0)) ≤ _
            omega
      rw [if_neg c73] at h
      by_cases c87 : sp_c tx n p = 87
      · rw [if_pos c87] at h
        have hx := sp_c_x c87 (by decide)
        obtain ⟨x1, h⟩ := st_x_inr h
        have hx1 := sp_c_x x1 (by decide)
        obtain ⟨q2, u, e2, h⟩ := st_eb_inr h
        have g2 := st_e_good hx1.2.2.1 e2
        have w2 := jE (st_e_WF (W := W) (lo := p) hn hV (Nat.le_trans hVV hW.1) hsc hx1.2.2.1 (by omega) e2).1
        obtain ⟨x3, h⟩ := st_x_inr h
        have hx3 := sp_c_x x3 (by decide)
        obtain ⟨q4, V4, s4, t4, e4, h⟩ := st_b_inr h
        cases h
        have i4 := ih 0 _ _ _ V sc 0 _ _ _ _ (by omega) hx3.2.2.1 hx3.2.2.2 hV hok hsc ⟨hW.1, by omega⟩ (cxJ_c hJ c0 (Or.inl rfl)) e4
        refine jP_tag (by omega) (by omega) (by decide) (fun q => by omega) (by rw [jT_a, jT_a]; exact ⟨(w2 _ _).1, i4.1, jT_nil⟩) ?_ ?_
        · show max (dpS u) (max (dpS t4) 0) + (cx.length + 1) ≤ 20
          have k1 := i4.2.1
          have k3 := (w2 [] 0).2.1
          rw [List.length_cons] at k1
          omega
        · have k1 := i4.2.2
          have k3 := (w2 [] 0).2.2
          rw [if_neg (by decide)] at k1
          have e0 : jw 87 (x / 2 / 2) = 0 := by unfold jw; rw [if_neg (by omega), if_neg (by omega)]
          rw [e0]
          show p + 0 + (wS u + (wS t4 + 0)) ≤ _
          omega
      rw [if_neg c87] at h
      by_cases c68 : sp_c tx n p = 68
      · rw [if_pos c68] at h
        have hx := sp_c_x c68 (by decide)
        obtain ⟨q4, V4, s4, t4, e4, h⟩ := st_b_inr h
        have g4 := st_good f 0 _ _ _ V sc 0 _ _ _ _ (by omega) hx.2.2.1 hx.2.2.2 e4
        obtain ⟨x1, h⟩ := st_x_inr h
        have hx1 := sp_c_x x1 (by decide)
        obtain ⟨q2, u, e2, h⟩ := st_eb_inr h
        have g2 := st_e_good hx1.2.2.1 e2
        obtain ⟨x3, h⟩ := st_x_inr h
        have hx3 := sp_c_x x3 (by decide)
        obtain ⟨x5, h⟩ := st_x_inr h
        have hx5 := sp_c_x x5 (by decide)
        cases h
        have w2 := jE (st_e_WF (W := W) (lo := q4) hn hV (Nat.le_trans hVV hW.1) hsc hx1.2.2.1 (by omega) e2).1
        have i4 := ih 0 _ _ _ V sc 0 _ _ _ _ (by omega) hx.2.2.1 hx.2.2.2 hV hok hsc ⟨hW.1, by omega⟩ (cxJ_c hJ c0 (Or.inl rfl)) e4
        refine jP_tag (by omega) (by omega) (by decide) (fun q => by omega) (by rw [jT_a, jT_a]; exact ⟨i4.1, (w2 _ _).1, jT_nil⟩) ?_ ?_
        · show max (dpS t4) (max (dpS u) 0) + (cx.length + 1) ≤ 20
          have k1 := i4.2.1
          have k3 := (w2 [] 0).2.1
          rw [List.length_cons] at k1
          omega
        · have k1 := i4.2.2
          have k3 := (w2 [] 0).2.2
          rw [if_neg (by decide)] at k1
          have e0 : jw 68 (x / 2 / 2) = 0 := by unfold jw; rw [if_neg (by omega), if_neg (by omega)]
          rw [e0]
          show p + 0 + (wS t4 + (wS u + 0)) ≤ _
          omega
      rw [if_neg c68] at h
      by_cases c70 : sp_c tx n p = 70
      · rw [if_pos c70] at h
        have hx := sp_c_x c70 (by decide)
        obtain ⟨x1, h⟩ := st_x_inr h
        have hx1 := sp_c_x x1 (by decide)
        obtain ⟨q2, u, e2, h⟩ := st_eb_inr h
        have g2 := st_e_good hx1.2.2.1 e2
        have w2 := jE (st_e_WF (W := W) (lo := p) hn hV (Nat.le_trans hVV hW.1) hsc hx1.2.2.1 (by omega) e2).1
        obtain ⟨x3, h⟩ := st_x_inr h
        have hx3 := sp_c_x x3 (by decide)
        obtain ⟨q5, u5, e5, h⟩ := st_eb_inr h
        have g5 := st_e_good hx3.2.2.1 e5
        have w5 := jE (st_e_WF (W := W) (lo := q2) hn hV (Nat.le_trans hVV hW.1) hsc hx3.2.2.1 (by omega) e5).1
        obtain ⟨x6, h⟩ := st_x_inr h
        have hx6 := sp_c_x x6 (by decide)
        obtain ⟨q4, V4, s4, t4, e4, h⟩ := st_b_inr h
        cases h
        have i4 := ih 0 _ _ _ V sc 0 _ _ _ _ (by omega) hx6.2.2.1 hx6.2.2.2 hV hok hsc ⟨hW.1, by omega⟩ (cxJ_c hJ c0 (Or.inl rfl)) e4
        refine jP_tag (by omega) (by omega) (by decide) (fun q => by omega) (by rw [jT_a, jT_a, jT_a]; exact ⟨(w2 _ _).1, (w5 _ _).1, i4.1, jT_nil⟩) ?_ ?_
        · show max (dpS u) (max (dpS u5) (max (dpS t4) 0)) + (cx.length + 1) ≤ 20
          have k1 := i4.2.1
          have k3 := (w2 [] 0).2.1
          have k4 := (w5 [] 0).2.1
          rw [List.length_cons] at k1
          omega
        · have k1 := i4.2.2
          have k3 := (w2 [] 0).2.2
          have k4 := (w5 [] 0).2.2
          rw [if_neg (by decide)] at k1
          have e0 : jw 70 (x / 2 / 2) = 0 := by unfold jw; rw [if_neg (by omega), if_neg (by omega)]
          rw [e0]
          show p + 0 + (wS u + (wS u5 + (wS t4 + 0))) ≤ _
          omega
      rw [if_neg c70] at h
      by_cases c83 : sp_c tx n p = 83
      · rw [if_pos c83] at h
        have hx := sp_c_x c83 (by decide)
        obtain ⟨x1, h⟩ := st_x_inr h
        have hx1 := sp_c_x x1 (by decide)
        obtain ⟨q2, u, e2, h⟩ := st_eb_inr h
        have g2 := st_e_good hx1.2.2.1 e2
        have w2 := jE (st_e_WF (W := W) (lo := p) hn hV (Nat.le_trans hVV hW.1) hsc hx1.2.2.1 (by omega) e2).1
        obtain ⟨x3, h⟩ := st_x_inr h
        have hx3 := sp_c_x x3 (by decide)
        obtain ⟨x5, h⟩ := st_x_inr h
        have hx5 := sp_c_x x5 (by decide)
        obtain ⟨q4, V4, s4, t4, e4, h⟩ := st_b_inr h
        cases h
        have i4 := ih 2 _ _ _ V sc 1 _ _ _ _ (by omega) hx5.2.2.1 hx5.2.2.2 hV hok hsc ⟨hW.1, by omega⟩ (cxJ_c hJ c0 (Or.inl rfl)) e4
        refine jP_tag (by omega) (by omega) (by decide) (fun q => by omega) (by rw [jT_a]; exact ⟨(w2 _ _).1, i4.1⟩) ?_ ?_
        · show max (dpS u) (dpS t4) + (cx.length + 1) ≤ 20
          have k1 := i4.2.1
          have k3 := (w2 [] 0).2.1
          rw [List.length_cons] at k1
          omega
        · have k1 := i4.2.2
          have k3 := (w2 [] 0).2.2
          rw [if_neg (by decide)] at k1
          have e0 : jw 83 (x / 2 / 2) = 0 := by unfold jw; rw [if_neg (by omega), if_neg (by omega)]
          rw [e0]
          show p + 0 + (wS u + wS t4) ≤ _
          omega
      rw [if_neg c83] at h
      by_cases c84 : sp_c tx n p = 84
      · rw [if_pos c84] at h
        have hx := sp_c_x c84 (by decide)
        obtain ⟨x1, h⟩ := st_x_inr h
        have hx1 := sp_c_x x1 (by decide)
        obtain ⟨q2, V2, s2, t2, e2, h⟩ := st_b_inr h
        have g2 := st_good f 1 _ _ _ V sc 0 _ _ _ _ (by omega) hx1.2.2.1 hx1.2.2.2 e2
        have hV2 := (g2.2.2 hok hV).2
        split at h
        · next c75 =>
          have hx2 := sp_c_x c75 (by decide)
          obtain ⟨x3, h⟩ := st_x_inr h
          have hx3 := sp_c_x x3 (by decide)
          obtain ⟨q4, V4, s4, t4, e4, h⟩ := st_b_inr h
          have g4 := st_good f 1 _ _ _ V2 sc 0 _ _ _ _ (by omega) hx3.2.2.1 hx3.2.2.2 e4
          have hV4 := (g4.2.2 hok hV2).2
          split at h
          · next c78 =>
            have hx4 := sp_c_x c78 (by decide)
            obtain ⟨x5, h⟩ := st_x_inr h
            have hx5 := sp_c_x x5 (by decide)
            obtain ⟨q6, V6, s6, t6, e6, h⟩ := st_b_inr h
            have g6 := st_good f 1 _ _ _ V4 sc 0 _ _ _ _ (by omega) hx5.2.2.1 hx5.2.2.2 e6
            cases h
            have i2 := ih 1 _ _ _ V sc 0 _ _ _ _ (by omega) hx1.2.2.1 hx1.2.2.2 hV hok hsc ⟨Nat.le_trans (Nat.le_trans g4.2.1.1 g6.2.1.1) hW.1, by omega⟩ (cxJ_c hJ c0 (Or.inl rfl)) e2
            have i4 := ih 1 _ _ _ V2 sc 0 _ _ _ _ (by omega) hx3.2.2.1 hx3.2.2.2 hV2 hok (mem_le g2.2.1.1 hsc) ⟨Nat.le_trans g6.2.1.1 hW.1, by omega⟩ (cxJ_c hJ c0 (Or.inl rfl)) e4
            have i6 := ih 1 _ _ _ V4 sc 0 _ _ _ _ (by omega) hx5.2.2.1 hx5.2.2.2 hV4 hok (mem_le (Nat.le_trans g2.2.1.1 g4.2.1.1) hsc) ⟨hW.1, by omega⟩ (cxJ_c hJ c0 (Or.inl rfl)) e6
            refine jP_tag (by omega) (by omega) (by decide) (fun q => by omega) (by rw [jT_a, jT_a]; exact ⟨i2.1, i4.1, i6.1⟩) ?_ ?_
            · show max (dpS t2) (max (dpS t4) (dpS t6)) + (cx.length + 1) ≤ 20
              have k1 := i2.2.1
              have k2 := i4.2.1
              have k3 := i6.2.1
              rw [List.length_cons] at k1 k2 k3
              omega
            · have k1 := i2.2.2
              have k2 := i4.2.2
              have k3 := i6.2.2
              rw [if_pos rfl] at k1 k2 k3
              have e0 : jw 84 ((2 * 3 + x / 2) / 2) ≤ 6 := by unfold jw; rw [if_pos rfl]; split <;> omega
              show p + jw 84 ((2 * 3 + x / 2) / 2) + (wS t2 + (wS t4 + wS t6)) ≤ _
              omega
          · cases h
            have i2 := ih 1 _ _ _ V sc 0 _ _ _ _ (by omega) hx1.2.2.1 hx1.2.2.2 hV hok hsc ⟨Nat.le_trans g4.2.1.1 hW.1, by omega⟩ (cxJ_c hJ c0 (Or.inl rfl)) e2
            have i4 := ih 1 _ _ _ V2 sc 0 _ _ _ _ (by omega) hx3.2.2.1 hx3.2.2.2 hV2 hok (mem_le g2.2.1.1 hsc) ⟨hW.1, by omega⟩ (cxJ_c hJ c0 (Or.inl rfl)) e4
            refine jP_tag (by omega) (by omega) (by decide) (fun q => by omega) (by rw [jT_a, jT_a]; exact ⟨i2.1, i4.1, jT_nil⟩) ?_ ?_
            · show max (dpS t2) (max (dpS t4) 0) + (cx.length + 1) ≤ 20
              have k1 := i2.2.1
              have k2 := i4.2.1
              rw [List.length_cons] at k1 k2
              omega
            · have k1 := i2.2.2
              have k2 := i4.2.2
              rw [if_pos rfl] at k1 k2
              have e0 : jw 84 ((2 * 1 + x / 2) / 2) = 0 := by unfold jw; rw [if_pos rfl, if_neg (by omega)]
              rw [e0]
              show p + 0 + (wS t2 + (wS t4 + 0)) ≤ _
              omega
        · obtain ⟨x2, h⟩ := st_x_inr h
          have hx2 := sp_c_x x2 (by decide)
          obtain ⟨x3, h⟩ := st_x_inr h
          have hx3 := sp_c_x x3 (by decide)
          obtain ⟨q4, V4, s4, t4, e4, h⟩ := st_b_inr h
          have g4 := st_good f 1 _ _ _ V2 sc 0 _ _ _ _ (by omega) hx3.2.2.1 hx3.2.2.2 e4
          cases h
          have i2 := ih 1 _ _ _ V sc 0 _ _ _ _ (by omega) hx1.2.2.1 hx1.2.2.2 hV hok hsc ⟨Nat.le_trans g4.2.1.1 hW.1, by omega⟩ (cxJ_c hJ c0 (Or.inl rfl)) e2
          have i4 := ih 1 _ _ _ V2 sc 0 _ _ _ _ (by omega) hx3.2.2.1 hx3.2.2.2 hV2 hok (mem_le g2.2.1.1 hsc) ⟨hW.1, by omega⟩ (cxJ_c hJ c0 (Or.inl rfl)) e4
          refine jP_tag (by omega) (by omega) (by decide) (fun q => by omega) (by rw [jT_a, jT_a]; exact ⟨i2.1, jT_nil, i4.1⟩) ?_ ?_
          · show max (dpS t2) (max 0 (dpS t4)) + (cx.length + 1) ≤ 20
            have k1 := i2.2.1
            have k2 := i4.2.1
            rw [List.length_cons] at k1 k2
            omega
          · have k1 := i2.2.2
            have k2 := i4.2.2
            rw [if_pos rfl] at k1 k2
            have e0 : jw 84 ((2 * 2 + x / 2) / 2) ≤ 6 := by unfold jw; rw [if_pos rfl]; split <;> omega
            show p + jw 84 ((2 * 2 + x / 2) / 2) + (wS t2 + (0 + wS t4)) ≤ _
            omega
      rw [if_neg c84] at h
      by_cases cj : sp_c tx n p = 66 ∨ sp_c tx n p = 67
      · rw [if_pos cj] at h
        have hxp := sp_c_x (tx := tx) (n := n) (p := p) rfl (by rcases cj with e | e <;> · rw [e]; decide)
        have hs : (sp_c tx n p).toNatClampNeg = 66 ∨ (sp_c tx n p).toNatClampNeg = 67 := by
          rcases cj with e | e <;> rw [e]
          · exact Or.inl (by decide)
          · exact Or.inr (by decide)
        have e0 : ∀ z, jw (sp_c tx n p).toNatClampNeg z = 2 := fun z => by unfold jw; rw [if_neg (by omega), if_pos hs]
        split at h
        · next hlb =>
          split at h
          · cases h
          · next hto =>
            obtain ⟨x1, h⟩ := st_x_inr h
            have hx1 := sp_c_x x1 (by decide)
            have hx0 := sp_c_x (tx := tx) (n := n) (p := sp_x tx n (p + 1)) rfl (sp_lb_c hlb)
            cases h
            obtain ⟨i, s, w1, w2, w3⟩ := cx_to_J (lb_n0 hlb) cx 0 (kxOf cx) hJ.2 (fun e he => he) (fun q => absurd rfl q) hto
            refine jP_tag (by omega) (by omega) (by unfold stS; omega) (fun _ => ⟨i, s, w1, by omega, w3⟩) jT_nil d0 ?_
            rw [e0]
            show p + 2 + 0 ≤ _
            omega
        · split at h
          · cases h
          · next hto =>
            obtain ⟨x1, h⟩ := st_x_inr h
            have hx1 := sp_c_x x1 (by decide)
            cases h
            obtain ⟨i, s, w1, w2, w3⟩ := cx_near_J cx hto
            refine jP_tag (by omega) (by omega) (by unfold stS; omega) (fun _ => ⟨i, s, w1, by omega, w3⟩) jT_nil d0 ?_
            rw [e0]
            show p + 2 + 0 ≤ _
            omega
      rw [if_neg cj] at h
      by_cases cr : sp_c tx n p = 82 ∨ sp_c tx n p = 88
      · rw [if_pos cr] at h
        have hs : (sp_c tx n p).toNatClampNeg = 82 ∨ (sp_c tx n p).toNatClampNeg = 88 := by
          rcases cr with e | e <;> rw [e]
          · exact Or.inl (by decide)
          · exact Or.inr (by decide)
        have e0 : ∀ z, jw (sp_c tx n p).toNatClampNeg z = 0 := fun z => by unfold jw; rw [if_neg (by omega), if_neg (by omega)]
        have hx := sp_c_x (tx := tx) (n := n) (p := p) rfl (by rcases cr with e | e <;> · rw [e]; decide)
        split at h
        · cases h
          refine jP_tag (by omega) (by omega) (by unfold stS; omega) (fun q => by omega) jT_nil d0 ?_
          rw [e0]
          show p + 0 + 0 ≤ _
          omega
        · obtain ⟨q2, u, e2, h⟩ := st_eb_inr h
          have g2 := st_e_good hx.2.2.1 e2
          have w2 := jE (st_e_WF (W := W) (lo := p) hn hV (Nat.le_trans hVV hW.1) hsc hx.2.2.1 (by omega) e2).1
          obtain ⟨x3, h⟩ := st_x_inr h
          have hx3 := sp_c_x x3 (by decide)
          cases h
          refine jP_tag (by omega) (by omega) (by unfold stS; omega) (fun q => by omega) (by rw [jT_a]; exact ⟨(w2 _ _).1, jT_nil⟩) ?_ ?_
          · show max (dpS u) 0 + (cx.length + 1) ≤ 20
            have k3 := (w2 [] 0).2.1
            omega
          · have k3 := (w2 [] 0).2.2
            rw [e0]
            show p + 0 + (wS u + 0) ≤ _
            omega
      rw [if_neg cr] at h
      obtain ⟨q2, u, e2, h⟩ := st_eb_inr h
      have g2 := st_e_good hp e2
      have w2 := jE (st_e_WF (W := W) (lo := p) hn hV (Nat.le_trans hVV hW.1) hsc hp (by omega) e2).1
      obtain ⟨x3, h⟩ := st_x_inr h
      have hx3 := sp_c_x x3 (by decide)
      cases h
      refine jP_tag (by omega) (by omega) (by decide) (fun q => by omega) (by rw [jT_a]; exact ⟨(w2 _ _).1, jT_nil⟩) ?_ ?_
      · show max (dpS u) 0 + (cx.length + 1) ≤ 20
        have k3 := (w2 [] 0).2.1
        omega
      · have k3 := (w2 [] 0).2.2
        have e0 : jw 59 (x / 2 / 2) = 0 := by unfold jw; rw [if_neg (by omega), if_neg (by omega)]
        rw [e0]
        show p + 0 + (wS u + 0) ≤ _
        omega
    · rw [st1] at h
      split at h
      · next hc =>
        have hx := sp_c_x hc (by decide)
        cases h
        exact ⟨jT_nil, by show 0 + _ ≤ 20; have := hJ.1; omega, by show p + 0 + _ ≤ _; rw [if_pos rfl]; omega⟩
      · obtain ⟨q1, V2, s2, t2, e1, h⟩ := st_b_inr h
        have g1 := st_good f 0 _ _ _ V sc 1 _ _ _ _ (by omega) hp hpx e1
        obtain ⟨q3, V3, s3, t3, e3, h⟩ := st_b_inr h
        have g3 := st_good f 1 _ _ _ V2 s2 0 _ _ _ _ (by omega) g1.1.1.2 g1.1.2.1 e3
        cases h
        have s1 := (st_W (W := W) hn f 0 _ _ _ V sc 1 _ _ _ _ (by omega) hp hpx hV hok hsc ⟨Nat.le_trans g3.2.1.1 hW.1, by omega⟩ e1).2
        have i1 := ih 0 _ _ _ V sc 1 _ _ _ _ (by omega) hp hpx hV hok hsc ⟨Nat.le_trans g3.2.1.1 hW.1, by omega⟩ hJ e1
        have o1 := g1.2.2 hok hV
        have i3 := ih 1 _ _ _ V2 s2 0 _ _ _ _ (by omega) g1.1.1.2 g1.1.2.1 o1.2 o1.1 s1 ⟨hW.1, by omega⟩ hJ e3
        refine ⟨by rw [jT_a]; exact ⟨i1.1, i3.1⟩, ?_, ?_⟩
        · show max (dpS t2) (dpS t3) + _ ≤ 20
          have := i1.2.1
          have := i3.2.1
          omega
        · have k1 := i1.2.2
          have k2 := i3.2.2
          rw [if_neg (by decide)] at k1
          rw [if_pos rfl] at k2 ⊢
          show p + (wS t2 + wS t3) + 1 ≤ _
          omega
    · rw [st2] at h
      split at h
      · next hc =>
        have hx := sp_c_x hc (by decide)
        cases h
        refine ⟨?_, ?_, ?_⟩
        · split
          · exact jT_line
          · exact jT_nil
        · have := hJ.1
          split
          · show 0 + _ ≤ 20; omega
          · show 0 + _ ≤ 20; omega
        · rw [if_neg (show ¬ (2 : Nat) = 1 by decide)]
          split
          · show p + 0 + 0 ≤ _; omega
          · show p + 0 + 0 ≤ _; omega
      · split at h
        · next hc =>
          have hcp : ¬ sp_c tx n p = -1 := by
            intro e; rw [e] at hc; rcases hc with hc | hc
            · exact absurd hc (by decide)
            · exact absurd hc.1 (by decide)
          have hx := sp_c_x (tx := tx) (n := n) (p := p) rfl hcp
          obtain ⟨x3, h⟩ := st_x_inr h
          have hx3 := sp_c_x x3 (by decide)
          have i := ih 2 _ _ _ V sc _ _ _ _ _ (by omega) hx3.2.2.1 hx3.2.2.2 hV hok hsc ⟨hW.1, by omega⟩ hJ h
          refine ⟨i.1, i.2.1, ?_⟩
          have k := i.2.2
          rw [if_neg (show ¬ (2 : Nat) = 1 by decide)] at k ⊢
          omega
        · split at h
          · cases h
          · obtain ⟨q1, V2, s2, t2, e1, h⟩ := st_b_inr h
            have g1 := st_good f 0 _ _ _ V sc _ _ _ _ _ (by omega) hp hpx e1
            obtain ⟨q3, V3, s3, t3, e3, h⟩ := st_b_inr h
            have g3 := st_good f 2 _ _ _ V2 s2 _ _ _ _ _ (by omega) g1.1.1.2 g1.1.2.1 e3
            cases h
            have s1 := (st_W (W := W) hn f 0 _ _ _ V sc _ _ _ _ _ (by omega) hp hpx hV hok hsc ⟨Nat.le_trans g3.2.1.1 hW.1, by omega⟩ e1).2
            have i1 := ih 0 _ _ _ V sc _ _ _ _ _ (by omega) hp hpx hV hok hsc ⟨Nat.le_trans g3.2.1.1 hW.1, by omega⟩ hJ e1
            have o1 := g1.2.2 hok hV
            have i3 := ih 2 _ _ _ V2 s2 _ _ _ _ _ (by omega) g1.1.1.2 g1.1.2.1 o1.2 o1.1 s1 ⟨hW.1, by omega⟩ hJ e3
            refine ⟨by rw [jT_a]; exact ⟨i1.1, i3.1⟩, ?_, ?_⟩
            · show max (dpS t2) (dpS t3) + _ ≤ 20
              have := i1.2.1
              have := i3.2.1
              omega
            · have k1 := i1.2.2
              have k2 := i3.2.2
              rw [if_neg (by decide)] at k1 k2
              rw [if_neg (show ¬ (2 : Nat) = 1 by decide)]
              show p + (wS t2 + wS t3) + 0 ≤ _
              omega
    · rw [st3] at h
      split at h
      · cases h
        refine ⟨jT_nil, by show 0 + _ ≤ 20; have := hJ.1; omega, ?_⟩
        rw [if_neg (show ¬ (3 : Nat) = 1 by decide)]
        show p + 0 + 0 ≤ p
        omega
      · obtain ⟨q1, V2, s2, t2, e1, h⟩ := st_b_inr h
        have g1 := st_good f 0 _ _ _ V sc 1 _ _ _ _ (by omega) hp hpx e1
        obtain ⟨q3, V3, s3, t3, e3, h⟩ := st_b_inr h
        have g3 := st_good f 3 _ _ _ V2 s2 0 _ _ _ _ (by omega) g1.1.1.2 g1.1.2.1 e3
        cases h
        have s1 := (st_W (W := W) hn f 0 _ _ _ V sc 1 _ _ _ _ (by omega) hp hpx hV hok hsc ⟨Nat.le_trans g3.2.1.1 hW.1, by omega⟩ e1).2
        have i1 := ih 0 _ _ _ V sc 1 _ _ _ _ (by omega) hp hpx hV hok hsc ⟨Nat.le_trans g3.2.1.1 hW.1, by omega⟩ hJ e1
        have o1 := g1.2.2 hok hV
        have i3 := ih 3 _ _ _ V2 s2 0 _ _ _ _ (by omega) g1.1.1.2 g1.1.2.1 o1.2 o1.1 s1 ⟨hW.1, by omega⟩ hJ e3
        refine ⟨by rw [jT_a]; exact ⟨i1.1, i3.1⟩, ?_, ?_⟩
        · show max (dpS t2) (dpS t3) + _ ≤ 20
          have := i1.2.1
          have := i3.2.1
          omega
        · have k1 := i1.2.2
          have k2 := i3.2.2
          rw [if_neg (by decide)] at k1 k2
          rw [if_neg (show ¬ (3 : Nat) = 1 by decide)]
          show p + (wS t2 + wS t3) + 0 ≤ _
          omega
end STJ
/-- a unit: depth, jumps, signs -/
theorem uOK_J {tx : Nat → Int32} {n q V : Nat} {sc : sc_T} {t : Std.Format} (hn : n ≤ 240) (h : uOK tx n q V sc t) : jT [] t 0 ∧ dpS t ≤ 20 ∧ wS t ≤ 240 := by
  have hs := uOK_shape hn h
  have hx := sp_x_le (tx := tx) (n := n) (p := 0) (Nat.zero_le n)
  have j := st_J (tx := tx) (n := n) (W := V) hn 500 3 [] 0 (sp_x tx n 0) 0 [] 0 q V sc t (by omega) hx.2 (sp_x_x (Nat.zero_le n)) (by omega) trivial (fun e he => nomatch he) ⟨Nat.le_refl _, by omega⟩ ⟨Nat.zero_le _, fun e he => nomatch he⟩ h
  have j3 := j.2.2
  rw [if_neg (by decide)] at j3
  exact ⟨j.1, j.2.1, by omega⟩
