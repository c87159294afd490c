section ES
variable {d n sc : Nat} {st : Int32} {P : pv_R} {m0 : Nat → Int32} {a0 : Nat → Nat → Int32}
theorem eT5_step (hC : eCx n sc m0 a0) {f : Nat} (i3 : eT3 d n sc st P m0 a0 f) (i5 : eT5 d n sc st P m0 a0 f) : eT5 d n sc st P m0 a0 (f + 1) := by
  intro lv p v m a p0 b k t K T Z hpre hk hf htop hv hP hpost
  obtain ⟨⟨hlv, hm, hF⟩, hp, hb, ht⟩ := hpre
  have x0 := sp_x_le (tx := r_tx a0) hp.1
  rw [hp.2] at x0
  have hK := hP.1.1.2
  by_cases hc : sp_c (r_tx a0) n p = 124
  · have hpn := sp_c_lt hc (by decide)
    have x1 := sp_x_le (tx := r_tx a0) (n := n) (p := p + 1) (by omega)
    rw [sp_e5, if_pos hc] at hpost
    obtain ⟨a1, r, ⟨hF1, hCl⟩, hrw⟩ := Pnd_rw (x := 1) (y := 1) (w := 0) hP ⟨fun _ => by decide, fun _ => by decide, fun q => by omega⟩ (fun q => by
      rcases q with q | q | q
      · exact htop.2.1 q.1
      · exact htop.2.2 q.1
      · exact q.2 rfl)
    have hr := Blk_root hCl.1.1
    refine gZ_O hC hm hF hp (by omega) (Pnd_top hP htop.1) ?_
    rw [hc]
    have hsc : m r_scopes = nI sc := (hm 25 (by decide) (by decide)).trans hC.2.1.2.2
    have hF01 : Fr a0 a1 0 0 0 := Fr_trans hF hF1 (by omega) (by omega) (by omega)
    have hth : thr (a1 r_scope) sc = eth a0 sc := by rw [Fr_oth hF01 (j := r_scope) (by decide)]
    refine rc_ro_or d m a a1 hC.1.2 hsc (by omega) (by omega) (by omega) hCl.1.2 (by omega) (hrw (d + 1) (wb m 1 0) p (b + sp_z v)) _ ?_
    rw [hth]
    obtain ⟨⟨o1, o2⟩, ⟨o3, o4⟩, o5, o6, o7⟩ := op_push (w := 124) (s := 124) (by decide) rfl rfl hF1 hCl _ rfl
    generalize up2 (up2 (r_nodeA a1 (b + sp_z v) 124 (a1 r_first r) 0 (eth a0 sc)) r_opSign k 124) r_opNode k (nI (b + sp_z v)) = a2 at o1 o2 o3 o4 o5 o6 o7 ⊢
    refine ⟨1, _, _, rfl, rfl, ?_⟩
    refine go_want (γ := 0) (m := wb m 1 0) ((hm 28 (by decide) (by decide)).trans hC.2.1.2.1) ?_
    refine i3 lv _ (wb m 1 0) a2 (p + 1) (b + sp_z v + 1) (k + 1) (t + 1) 0 ⟨⟨hlv, Mw_wb hm 1 0, Fr_trans hF o1 (by omega) (by omega) (by omega)⟩, ⟨by omega, rfl⟩, by omega, by omega⟩ (by omega) (by omega) (by unfold eTop; rw [if_neg (by omega), show k + 1 - 1 = k by omega, o3]; exact ⟨by decide, by decide⟩) (Or.inl rfl) ?_
    cases hr4 : sp_e (r_tx a0) n (a0 r_named) f 3 lv (sp_x (r_tx a0) n (p + 1)) .nil with
    | inl q => rw [hr4] at hpost; exact hpost
    | inr qu =>
      obtain ⟨q1, u1⟩ := qu
      rw [hr4] at hpost
      obtain ⟨⟨⟨g1, g2⟩, ⟨g3, g4⟩, g5⟩, -⟩ := sp_e_good f 3 lv _ .nil q1 u1 (by omega) x1.2 (by omega) hr4
      simp only [show ¬ (3 = 5 ∨ 3 = 6) by omega, if_false] at g1 g5
      intro m' a' p1 K' T' Z' hm' hp1 hF' hPy
      have hPn : Pnd (eth a0 sc) 2 a' (.tag (sp_n 124 (sp_1 v) 0) (.append v u1)) b k t (lv + 1) K' T' Z' := Pnd_2 (s := 124) (ly := 3) (fun p q w hok => ⟨⟨fun q => hok.1 (by omega), fun q => by omega, fun q => by omega⟩, Or.inr ⟨rfl, hok.2.1 (by omega)⟩⟩) (Or.inr rfl) (by omega) ht rfl (by omega) hF' o3 o4 o7 o5 o6 g4 hPy
      have ez : b + sp_z (.tag (sp_n 124 (sp_1 v) 0) (.append v u1)) = b + sp_z v + 1 + sp_z u1 := by simp only [sp_z]; omega
      have hFa : Fr a a' b k t := Fr_trans o1 hF' (by omega) (by omega) (by omega)
      have res := i5 lv q1 (.tag (sp_n 124 (sp_1 v) 0) (.append v u1)) m' a' p1 b k t K' T' Z' ⟨⟨hlv, hm', Fr_trans hF hFa (by omega) (by omega) (by omega)⟩, hp1, by rw [ez]; omega, ht⟩ hk (by omega) (by rw [eTop_Fr hFa (Nat.le_refl _)]; exact htop) (sp_ok_2 hv g4) hPn (ePost_base hFa hpost)
      rw [ez] at res
      exact res
  · rw [sp_e5, if_neg hc] at hpost
    exact hpost m a p0 K T Z hm hp (Fr_refl _ _ _ _) hP
theorem eT3_step {f : Nat} (i4 : eT4 d n sc st P m0 a0 f) (i6 : eT6 d n sc st P m0 a0 f) : eT3 d n sc st P m0 a0 (f + 1) := by
  intro lv p m a p0 b k t γ hpre hk hf htop hγ hpost
  obtain ⟨⟨hlv, hm, hF⟩, hp, hb, ht⟩ := hpre
  have x0 := sp_x_le (tx := r_tx a0) hp.1
  rw [hp.2] at x0
  rw [sp_e3] at hpost
  refine i4 lv p m a p0 b k t γ ⟨⟨hlv, hm, hF⟩, hp, hb, ht⟩ (by omega) (by omega) hγ ?_
  cases hr4 : sp_e (r_tx a0) n (a0 r_named) f 4 lv p .nil with
  | inl q => rw [hr4] at hpost; exact hpost
  | inr qu =>
    obtain ⟨q1, u1⟩ := qu
    rw [hr4] at hpost
    obtain ⟨⟨⟨g1, g2⟩, ⟨g3, g4⟩, g5⟩, -⟩ := sp_e_good f 4 lv _ .nil q1 u1 (by omega) x0.2 (by omega) hr4
    simp only [show ¬ (4 = 5 ∨ 4 = 6) by omega, if_false] at g1 g5
    intro m' a' p1 x hm' hp1 hF' hCl'
    exact i6 lv q1 u1 m' a' p1 b k t k (t + 1) (lv + 1) ⟨⟨hlv, hm', Fr_trans hF hF' (by omega) (by omega) (by omega)⟩, hp1, by omega, ht⟩ hk (by omega) (by rw [eTop_Fr hF' (Nat.le_refl _)]; exact htop) g4 (Pnd_of (by omega) hCl') (ePost_base hF' hpost)
theorem eT2_step {f : Nat} (i3 : eT3 d n sc st P m0 a0 f) (i5 : eT5 d n sc st P m0 a0 f) : eT2 d n sc st P m0 a0 (f + 1) := by
  intro lv p m a p0 b k t γ hpre hk hf htop hγ hpost
  obtain ⟨⟨hlv, hm, hF⟩, hp, hb, ht⟩ := hpre
  have x0 := sp_x_le (tx := r_tx a0) hp.1
  rw [hp.2] at x0
  rw [sp_e2] at hpost
  refine i3 lv p m a p0 b k t γ ⟨⟨hlv, hm, hF⟩, hp, hb, ht⟩ (by omega) (by omega) ⟨htop.1, htop.2.1⟩ hγ ?_
  cases hr4 : sp_e (r_tx a0) n (a0 r_named) f 3 lv p .nil with
  | inl q => rw [hr4] at hpost; exact hpost
  | inr qu =>
    obtain ⟨q1, u1⟩ := qu
    rw [hr4] at hpost
    obtain ⟨⟨⟨g1, g2⟩, ⟨g3, g4⟩, g5⟩, -⟩ := sp_e_good f 3 lv _ .nil q1 u1 (by omega) x0.2 (by omega) hr4
    simp only [show ¬ (3 = 5 ∨ 3 = 6) by omega, if_false] at g1 g5
    intro m' a' p1 K T Z hm' hp1 hF' hPy
    exact i5 lv q1 u1 m' a' p1 b k t K T Z ⟨⟨hlv, hm', Fr_trans hF hF' (by omega) (by omega) (by omega)⟩, hp1, by omega, ht⟩ hk (by omega) (by rw [eTop_Fr hF' (Nat.le_refl _)]; exact htop) g4 (Pnd_mono (by omega) hPy) (ePost_base hF' hpost)
/-- a fault ends the reading -/
theorem go_fault {m : Nat → Int32} {a : Nat → Nat → Int32} {p b k t z q : Nat} {w g c : Int32} (hn : n ≤ 240) (hq : q ≤ n) (hm : Mw m0 m) (hF : Fr a0 a 0 0 0) (h : eFk P m0 a0 q) : pv_go rq_T21 0 (pv_call rq_mt (d + 4)) P (259, eM st w g 1 c, [], rs (upd (em m p b k t z) r_wrong (nI q)) a) :=
  rc_e_fault (d + 3) (upd (em m p b k t z) r_wrong (nI q)) a (show ¬ nI q = -1 from fun e => by
    have := congrArg Int32.toInt e
    rw [nI_toInt (by omega)] at this
    have h2 : (-1 : Int32).toInt = -1 := by decide
    omega) st w g c P (h _ _ (Mf_wr (Mf_em hm p b k t z) _) rfl hF)
theorem go_fault0 {m : Nat → Int32} {a : Nat → Nat → Int32} {p b k t z q : Nat} {g c : Int32} (hn : n ≤ 240) (hq : q ≤ n) (hm : Mw m0 m) (hF : Fr a0 a 0 0 0) (h : eFk P m0 a0 q) : pv_go rq_T21 0 (pv_call rq_mt (d + 4)) P (259, eM st 0 g 0 c, [], rs (upd (em m p b k t z) r_wrong (nI q)) a) :=
  rc_e_fault0 (d + 3) (upd (em m p b k t z) r_wrong (nI q)) a (show ¬ nI q = -1 from fun e => by
    have := congrArg Int32.toInt e
    rw [nI_toInt (by omega)] at this
    have h2 : (-1 : Int32).toInt = -1 := by decide
    omega) st g c P (h _ _ (Mf_wr (Mf_em hm p b k t z) _) rfl hF)
/-- behind an e that waits to be shut (by s: a bracket 40, a question 63) comes another sign -/
theorem go_unshut (hC : eCx n sc m0 a0) {m : Nat → Int32} {a : Nat → Nat → Int32} {u : Std.Format} {th : Int32} {p0 q b k t z B K T Z : Nat} {s : Int32} (hs : s = 40 ∨ s = 63) (hm : Mw m0 m) (hF : Fr a0 a 0 0 0) (hp : p0 ≤ n ∧ sp_x (r_tx a0) n p0 = q) (hP : Pnd th 1 a u b (k + 1) t z K T Z) (hop : a r_opSign k = s) (h38 : ¬ sp_c (r_tx a0) n q = 38) (h124 : ¬ sp_c (r_tx a0) n q = 124) (h63 : ¬ sp_c (r_tx a0) n q = 63) (h58 : s = 63 → ¬ sp_c (r_tx a0) n q = 58) (h41 : s = 40 → ¬ sp_c (r_tx a0) n q = 41) (h : eFk P m0 a0 q) : gZ d P st m a p0 B K T Z := by
  have x0 := sp_x_le (tx := r_tx a0) hp.1
  rw [hp.2] at x0
  have hK := hP.1.1.2
  have hw : m r_wrong = -1 := (hm 28 (by decide) (by decide)).trans hC.2.1.2.1
  have hsz : m r_size = nI n := (hm 27 (by decide) (by decide)).trans hC.2.1.1
  have w63 : wts (a r_opSign) 63 K = if s = 63 then 1 else 0 := by
    rw [Pnd_wts hP (Or.inr rfl), wts_succ, hop]
    rcases hs with rfl | rfl <;> rfl
  have w40 : wts (a r_opSign) 40 K = if s = 40 then 1 else 0 := by
    rw [Pnd_wts hP (Or.inl rfl), wts_succ, hop]
    rcases hs with rfl | rfl <;> rfl
  refine gZ_O hC hm hF hp (by omega) (Pnd_top hP (by unfold eTop; rw [if_neg (by omega), show k + 1 - 1 = k by omega, hop]; rcases hs with rfl | rfl <;> decide)) ?_
  have hqq : r_nx a n q = q := by rw [eCx_nx hC hF, ← hp.2]; exact sp_x_x hp.1
  refine rc_ro_end (d + 1) m a hC.1.1 x0.2 hqq hsz hw (by omega) _ h38 h124 h63 (fun e => ?_) (fun e => ?_) _ (fun e1 e2 => ?_) (fun _ => ?_)
  · rw [w63]
    exact if_neg (fun q => h58 q e)
  · rw [w40]
    exact if_neg (fun q => h41 q e)
  · exfalso
    rw [w63] at e1
    rw [w40] at e2
    rcases hs with rfl | rfl
    · exact absurd e2 (by decide)
    · exact absurd e1 (by decide)
  · exact ⟨0, _, _, rfl, rfl, go_fault0 hC.1.1 x0.2 (Mw_wb hm 1 0) hF h⟩
end ES
