section ES
variable {d n sc : Nat} {st : Int32} {P : pv_R} {m0 : Nat → Int32} {a0 : Nat → Nat → Int32}
theorem nm_u {c : Int32} (h : sp_nm c) : ∃ u, u < 26 ∧ c - 97 = nI u ∧ (c - 97).toNatClampNeg = u ∧ c = nI (u + 97) := by
  obtain ⟨j, hj, rfl⟩ := nI_of (x := c) (fun q => by
    have h1 := h.1
    have a1 := Int32.le_iff_toInt_le.mp h1
    have a2 := Int32.lt_iff_toInt_lt.mp q
    have e1 : (97 : Int32).toInt = 97 := by decide
    have e2 : (0 : Int32).toInt = 0 := by decide
    omega)
  have h1 : 97 ≤ j := (nI_leI (a := 97) (by omega) hj).mp h.1
  have h2 : j ≤ 122 := (nI_leI (b := 122) hj (by omega)).mp h.2
  have e : nI j - 97 = nI (j - 97) := by
    have e1 : nI (j - 97) + nI 97 = nI j := by rw [nI_add, show j - 97 + 97 = j by omega]
    rw [← e1]
    exact Int32.add_sub_cancel _ _
  exact ⟨j - 97, by omega, e, by rw [e, nI_clamp (by omega)], by rw [show j - 97 + 97 = j by omega]⟩
theorem eT0_step (hC : eCx n sc m0 a0) {f : Nat} (i0 : eT0 d n sc st P m0 a0 f) (i1 : eT1 d n sc st P m0 a0 f) : eT0 d n sc st P m0 a0 (f + 1) := by
  intro lv p m a p0 b k t hpre hk hf htop hpost
  obtain ⟨⟨hlv, hm, hF⟩, hp, hb, ht⟩ := hpre
  have x0 := sp_x_le (tx := r_tx a0) hp.1
  rw [hp.2] at x0
  rw [sp_e0, if_neg (by omega)] at hpost
  by_cases hc : sp_nm (sp_c (r_tx a0) n p) ∧ sp_c (r_tx a0) n (sp_x (r_tx a0) n (p + 1)) = 61
  · rw [if_pos hc] at hpost
    have hw : m r_wrong = -1 := (hm 28 (by decide) (by decide)).trans hC.2.1.2.1
    have hsz : m r_size = nI n := (hm 27 (by decide) (by decide)).trans hC.2.1.1
    have hsc : m r_scopes = nI sc := (hm 25 (by decide) (by decide)).trans hC.2.1.2.2
    have hpn := sp_nm_lt hc.1
    have hpn2 := sp_c_lt hc.2 (by decide)
    obtain ⟨u, hu, hcu, hcl, -⟩ := nm_u hc.1
    rw [hcl] at hpost
    have hth : thr (a r_scope) sc = eth a0 sc := by rw [Fr_oth hF (j := r_scope) (by decide)]
    have hnm : a r_named u = a0 r_named u := by rw [Fr_oth hF (j := r_named) (by decide)]
    intro L hL
    refine rc_e_B (d + 2) m a hC.1.1 hp.1 hsz hw st 1 L hL P ?_
    rw [eCx_nx hC hF, hp.2, eCx_ch hF]
    refine rc_e_name (d + 3) (em m p b k t (lv + 1)) a st 1 _ hc.1 P ?_
    by_cases hv : a0 r_named u = -1
    · rw [if_pos hv] at hpost
      refine rc_readName_bad (d + 2) m a hw _ 1 hu hcu (by rw [hnm]; exact hv) _ ?_
      exact ⟨0, rfl, go_fault hC.1.1 x0.2 hm hF hpost⟩
    · rw [if_neg hv] at hpost
      obtain ⟨v, hv12, hvv⟩ := (hC.2.2.2 u hu).resolve_left hv
      rw [hvv, nI_clamp (by omega)] at hpost
      have x1 := sp_x_le (tx := r_tx a0) (n := n) (p := p + 1) (by omega)
      have x2 := sp_x_le (tx := r_tx a0) (n := n) (p := sp_x (r_tx a0) n (p + 1) + 1) (by omega)
      have f2 : ∀ a2, a2 = up2 (up2 (up2 (r_nodeA a b 61 (nI p) 0 (eth a0 sc)) r_variable b (nI v)) r_opSign k 61) r_opNode k (nI b) → (Fr a a2 b k t ∧ a2 r_opSign k = 61 ∧ a2 r_opNode k = nI b) ∧ ndF a2 b (sp_n 61 p (v + 1)) ∧ (a2 r_thereBefore b = eth a0 sc ∧ a2 r_thereAfter b = eth a0 sc) := by
        intro a2 e
        obtain ⟨n1, n2, n3⟩ := nodeA_V a b (s := 61) (f := p) (v := v) (by decide) (by have := hC.1.1; omega) (eth a0 sc)
        have f3 : Fr (up2 (r_nodeA a b (nI 61) (nI p) 0 (eth a0 sc)) r_variable b (nI v)) a2 (b + 1) k t := by rw [e]; exact Fr_on (Fr_op (Fr_refl _ _ _ _) _ (Nat.le_refl _)) _ (Nat.le_refl _)
        refine ⟨⟨?_, ?_, ?_⟩, ndF_Fr f3 (by omega) n1, (Fr_row f3 (by decide) (by decide) (by omega)).trans n2, (Fr_row f3 (by decide) (by decide) (by omega)).trans n3⟩
        · rw [e]
          exact Fr_on (Fr_op (Fr_nd (Fr_node (Fr_refl _ _ _ _) (Nat.le_refl _) _ _ _ _) _ (by decide) (by decide) (Nat.le_refl _)) _ (Nat.le_refl _)) _ (Nat.le_refl _)
        · rw [e]; exact (up2_ne _ _ (fun q => absurd q.1 (by decide))).trans (up2_eq _ _ _ _)
        · rw [e]; exact up2_eq _ _ _ _
      have hnx1 : r_nx a n (p + 1) = sp_x (r_tx a0) n (p + 1) := eCx_nx hC hF (p + 1)
      have hnx2 : r_nx a n (sp_x (r_tx a0) n (p + 1) + 1) = sp_x (r_tx a0) n (sp_x (r_tx a0) n (p + 1) + 1) := eCx_nx hC hF _
      refine rc_readName_set d m a hC.1.1 hpn (by rw [hnx1]; exact hpn2) hsz hw hC.1.2 hsc (by omega) (by omega) (by omega) _ 1 hu hcu (by rw [hnm]; exact hv) (by decide) (by rw [hnx1, eCx_ch hF]; exact hc.2) _ (fun hz => ?_) (fun hz => ?_)
      · rw [hnx1, hnx2, hth, hnm, hvv]
        obtain ⟨⟨k1, k2, k3⟩, k4, k5⟩ := f2 _ rfl
        generalize up2 (up2 (up2 (r_nodeA a b 61 (nI p) 0 (eth a0 sc)) r_variable b (nI v)) r_opSign k 61) r_opNode k (nI b) = a2 at k1 k2 k3 k4 k5 ⊢
        refine ⟨1, rfl, ?_⟩
        refine go_want (γ := 1) hw ?_
        have hF02 : Fr a0 a2 0 0 0 := Fr_trans hF k1 (by omega) (by omega) (by omega)
        have et2 : eTop a2 (k + 1) = 61 := by unfold eTop; rw [if_neg (by omega), show k + 1 - 1 = k by omega, k2]
        refine i0 (lv + 1) _ m a2 (sp_x (r_tx a0) n (sp_x (r_tx a0) n (p + 1) + 1)) (b + 1) (k + 1) t ⟨⟨by omega, hm, hF02⟩, ⟨x2.2, sp_x_x (by omega)⟩, by omega, by omega⟩ (by omega) (by omega) (by rw [et2]; exact ⟨by decide, by decide, by decide⟩) ?_
        cases hr0 : sp_e (r_tx a0) n (a0 r_named) f 0 (lv + 1) (sp_x (r_tx a0) n (sp_x (r_tx a0) n (p + 1) + 1)) .nil with
        | inl q => rw [hr0] at hpost; exact hpost
        | inr qu2 =>
          obtain ⟨q2, v2⟩ := qu2
          rw [hr0] at hpost
          obtain ⟨⟨⟨g1', g2'⟩, ⟨g3', g4'⟩, g5'⟩, -⟩ := sp_e_good f 0 (lv + 1) _ .nil q2 v2 (by omega) x2.2 (by omega) hr0
          simp only [show ¬ (0 = 5 ∨ 0 = 6) by omega, if_false] at g1' g5'
          intro m4 a4 p4 K4 T4 Z4 hm4 hp4 hF4 hP4
          have res := hpost m4 a4 p4 K4 T4 Z4 hm4 hp4 (Fr_trans k1 hF4 (by omega) (by omega) (Nat.le_refl _)) (Pnd_1 (by omega) ht (by omega) hF4 k2 k3 k4 k5 g4' hP4)
          have ez : b + sp_z (.tag (sp_n 61 p (v + 1)) v2) = b + 1 + sp_z v2 := by simp only [sp_z]; omega
          rw [ez] at res
          exact res
      · rw [sp_e_30 (by omega) (by omega)] at hpost
        rw [hnx1, hnx2, hth, hnm, hvv]
        obtain ⟨⟨k1, -, -⟩, -⟩ := f2 _ rfl
        exact ⟨1, rfl, go_fault hC.1.1 x2.2 hm (Fr_trans hF k1 (by omega) (by omega) (by omega)) hpost⟩
  · rw [if_neg hc] at hpost
    exact i1 lv p m a p0 b k t 1 ⟨⟨hlv, hm, hF⟩, hp, hb, ht⟩ hk (by omega) htop (Or.inr hc) hpost
theorem eT4_step (hC : eCx n sc m0 a0) {f : Nat} (i0 : eT0 d n sc st P m0 a0 f) (i4 : eT4 d n sc st P m0 a0 f) : eT4 d n sc st P m0 a0 (f + 1) := by
  intro lv p m a p0 b k t γ hpre hk hf hγ hpost
  obtain ⟨⟨hlv, hm, hF⟩, hp, hb, ht⟩ := hpre
  have x0 := sp_x_le (tx := r_tx a0) hp.1
  rw [hp.2] at x0
  rw [sp_e4, if_neg (by omega)] at hpost
  have hw : m r_wrong = -1 := (hm 28 (by decide) (by decide)).trans hC.2.1.2.1
  have hsz : m r_size = nI n := (hm 27 (by decide) (by decide)).trans hC.2.1.1
  have hsc : m r_scopes = nI sc := (hm 25 (by decide) (by decide)).trans hC.2.1.2.2
  have hth : thr (a r_scope) sc = eth a0 sc := by rw [Fr_oth hF (j := r_scope) (by decide)]
  intro L hL
  refine rc_e_B (d + 2) m a hC.1.1 hp.1 hsz hw st γ L hL P ?_
  rw [eCx_nx hC hF, hp.2, eCx_ch hF]
  by_cases h40 : sp_c (r_tx a0) n p = 40
  · rw [if_pos h40] at hpost
    have hpn := sp_c_lt h40 (by decide)
    have x1 := sp_x_le (tx := r_tx a0) (n := n) (p := p + 1) (by omega)
    have hnx : r_nx a n (p + 1) = sp_x (r_tx a0) n (p + 1) := eCx_nx hC hF (p + 1)
    rw [h40]
    have k1 : Fr a (up2 (up2 a r_opSign k 40) r_opNode k (-1)) b k t := Fr_on (Fr_op (Fr_refl _ _ _ _) _ (Nat.le_refl _)) _ (Nat.le_refl _)
    refine rc_e_open (d + 1) m a hC.1.1 hpn hsz hw (by omega) (by omega) st γ P (fun hz => ?_) (fun hz => ?_)
    · rw [hnx]
      have k2 : (up2 (up2 a r_opSign k 40) r_opNode k (-1)) r_opSign k = 40 := (up2_ne _ _ (fun q => absurd q.1 (by decide))).trans (up2_eq _ _ _ _)
      generalize up2 (up2 a r_opSign k 40) r_opNode k (-1) = a2 at k1 k2 ⊢
      refine go_want (γ := 1) hw ?_
      have hF02 : Fr a0 a2 0 0 0 := Fr_trans hF k1 (by omega) (by omega) (by omega)
      have et2 : eTop a2 (k + 1) = 40 := by unfold eTop; rw [if_neg (by omega), show k + 1 - 1 = k by omega, k2]
      refine i0 (lv + 1) _ m a2 (sp_x (r_tx a0) n (p + 1)) b (k + 1) t ⟨⟨by omega, hm, hF02⟩, ⟨x1.2, sp_x_x (by omega)⟩, by omega, by omega⟩ (by omega) (by omega) (by rw [et2]; exact ⟨by decide, by decide, by decide⟩) ?_
      cases hr0 : sp_e (r_tx a0) n (a0 r_named) f 0 (lv + 1) (sp_x (r_tx a0) n (p + 1)) .nil with
      | inl q => rw [hr0] at hpost; exact hpost
      | inr qu2 =>
        obtain ⟨q2, v2⟩ := qu2
        rw [hr0] at hpost
        obtain ⟨⟨⟨g1', g2'⟩, ⟨g3', g4'⟩, g5'⟩, g6', g7', g8'⟩ := sp_e_good f 0 (lv + 1) _ .nil q2 v2 (by omega) x1.2 (by omega) hr0
        simp only [show ¬ (0 = 5 ∨ 0 = 6) by omega, if_false] at g1' g5'
        intro m4 a4 p4 K4 T4 Z4 hm4 hp4 hF4 hP4
        have hF04 : Fr a0 a4 0 0 0 := Fr_trans hF02 hF4 (by omega) (by omega) (by omega)
        have op4 : a4 r_opSign k = 40 := (Fr_sign hF4 (by omega)).trans k2
        have hK4 := hP4.1.1.2
        by_cases hc2 : sp_c (r_tx a0) n q2 = 41
        · have hpost : ePost4 d n sc st P m0 a0 a b k t (lv + 1) (.inr (sp_x (r_tx a0) n (q2 + 1), v2)) := by
            have h := hpost
            unfold sp_b at h
            simp only [hc2, if_true] at h
            exact h
          have hqn2 := sp_c_lt hc2 (by decide)
          have et4 : eTop a4 (k + 1) = 40 := by unfold eTop; rw [if_neg (by omega), show k + 1 - 1 = k by omega, op4]
          obtain ⟨a5, r5, ⟨hF5, hCl5⟩, hrw5⟩ := Pnd_rw (x := 1) (y := 1) (w := 1) hP4 ⟨fun _ => by decide, fun _ => by decide, fun _ => by decide⟩ (by rw [et4]; intro q; rcases q with q | q | q <;> exact absurd q (by decide))
          refine gZ_O hC hm4 hF04 hp4 (by omega) (Pnd_top hP4 (by rw [et4]; decide)) ?_
          rw [hc2]
          have hwt : ¬ wts (a4 r_opSign) 40 K4 = 0 := by
            rw [Pnd_wts hP4 (Or.inl rfl), wts_succ, op4, if_pos rfl]
            decide
          refine rc_ro_shut d m4 a4 a5 (by omega) hwt (k' := k) (t' := t + 1) (z' := lv + 1) (hrw5 (d + 1) (wb m4 1 0) q2 _) _ ?_
          refine ⟨1, _, _, rfl, rfl, ?_⟩
          exact hpost (wb m4 0 0) a5 (q2 + 1) r5 (Mw_wb hm4 0 0) ⟨by omega, rfl⟩ (Fr_trans k1 (Fr_trans hF4 hF5 (Nat.le_refl _) (Nat.le_refl _) (Nat.le_refl _)) (by omega) (by omega) (Nat.le_refl _)) hCl5 _ _
        · have hpost : eFk P m0 a0 q2 := by
            have h := hpost
            unfold sp_b at h
            simp only [hc2, if_false] at h
            exact h
          exact go_unshut hC (Or.inl rfl) hm4 hF04 hp4 hP4 op4 (g6' (by omega)) (g7' (by omega)) (g8' (by omega)) (fun q => absurd q (by decide)) (fun _ => hc2) hpost
    · rw [sp_e_30 (by omega) (by omega)] at hpost
      rw [hnx]
      exact go_fault hC.1.1 x1.2 hm (Fr_trans hF k1 (by omega) (by omega) (by omega)) hpost
  · rw [if_neg h40] at hpost
    by_cases h33 : sp_c (r_tx a0) n p = 33
    · rw [if_pos h33] at hpost
      have hpn := sp_c_lt h33 (by decide)
      have x1 := sp_x_le (tx := r_tx a0) (n := n) (p := p + 1) (by omega)
      have hnx : r_nx a n (p + 1) = sp_x (r_tx a0) n (p + 1) := eCx_nx hC hF (p + 1)
      rw [h33]
      have f2 : ∀ a2, a2 = up2 (up2 (r_nodeA a b 33 (nI p) 0 (eth a0 sc)) r_opSign k 33) r_opNode k (nI b) → (Fr a a2 b k t ∧ a2 r_opSign k = 33 ∧ a2 r_opNode k = nI b) ∧ ndF a2 b (sp_n 33 p 0) ∧ (a2 r_thereBefore b = eth a0 sc ∧ a2 r_thereAfter b = eth a0 sc) := by
        intro a2 e
        obtain ⟨n1, n2, n3⟩ := nodeA_F a b (s := 33) (f := p) (by decide) (by have := hC.1.1; omega) (eth a0 sc)
        have f3 : Fr (r_nodeA a b (nI 33) (nI p) 0 (eth a0 sc)) a2 (b + 1) k t := by rw [e]; exact Fr_on (Fr_op (Fr_refl _ _ _ _) _ (Nat.le_refl _)) _ (Nat.le_refl _)
        refine ⟨⟨?_, ?_, ?_⟩, ndF_Fr f3 (by omega) n1, (Fr_row f3 (by decide) (by decide) (by omega)).trans n2, (Fr_row f3 (by decide) (by decide) (by omega)).trans n3⟩
        · rw [e]
          exact Fr_on (Fr_op (Fr_node (Fr_refl _ _ _ _) (Nat.le_refl _) _ _ _ _) _ (Nat.le_refl _)) _ (Nat.le_refl _)
        · rw [e]; exact (up2_ne _ _ (fun q => absurd q.1 (by decide))).trans (up2_eq _ _ _ _)
        · rw [e]; exact up2_eq _ _ _ _
      refine rc_e_not (d + 1) m a hC.1.1 hpn hsz hw hC.1.2 hsc (by omega) (by omega) (by omega) st γ P (fun hz => ?_) (fun hz => ?_)
      · rw [hnx, hth]
        obtain ⟨⟨k1, k2, k3⟩, k4, k5⟩ := f2 _ rfl
        generalize up2 (up2 (r_nodeA a b 33 (nI p) 0 (eth a0 sc)) r_opSign k 33) r_opNode k (nI b) = a2 at k1 k2 k3 k4 k5 ⊢
        refine go_want (γ := 0) hw ?_
        have hF02 : Fr a0 a2 0 0 0 := Fr_trans hF k1 (by omega) (by omega) (by omega)
        refine i4 (lv + 1) _ m a2 (sp_x (r_tx a0) n (p + 1)) (b + 1) (k + 1) t 0 ⟨⟨by omega, hm, hF02⟩, ⟨x1.2, sp_x_x (by omega)⟩, by omega, by omega⟩ (by omega) (by omega) (Or.inl rfl) ?_
        cases hr0 : sp_e (r_tx a0) n (a0 r_named) f 4 (lv + 1) (sp_x (r_tx a0) n (p + 1)) .nil with
        | inl q => rw [hr0] at hpost; exact hpost
        | inr qu2 =>
          obtain ⟨q2, v2⟩ := qu2
          rw [hr0] at hpost
          obtain ⟨⟨⟨g1', g2'⟩, ⟨g3', g4'⟩, g5'⟩, -⟩ := sp_e_good f 4 (lv + 1) _ .nil q2 v2 (by omega) x1.2 (by omega) hr0
          simp only [show ¬ (4 = 5 ∨ 4 = 6) by omega, if_false] at g1' g5'
          intro m4 a4 p4 x4 hm4 hp4 hF4 hCl4 g c
          have hr4 := Blk_root hCl4.1.1
          have on4 : a4 r_opNode k = nI b := (Fr_onode hF4 (by omega)).trans k3
          refine rc_e_bang (d + 3) (em m4 p4 (b + 1 + sp_z v2) (k + 1) (t + 1) (lv + 1 + 1)) a4 ((hm4 28 (by decide) (by decide)).trans hC.2.1.2.1) (k := k) (n := t) (by omega) (by omega) rfl rfl hCl4.1.2 (by omega) ((Fr_sign hF4 (by omega)).trans k2) st g c P ?_
          rw [on4, show em m4 p4 (b + 1 + sp_z v2) (k + 1) (t + 1) (lv + 1 + 1) r_nested - 1 = nI (lv + 1) from nI_pred _, em_ops, em_nested]
          have ez : b + sp_z (.tag (sp_n 33 p 0) v2) = b + 1 + sp_z v2 := by simp only [sp_z]; omega
          have res := hpost m4 (up2 (up2 a4 r_around x4 (nI b)) r_done t (nI b)) p4 b hm4 hp4 (Fr_dn (Fr_nd (Fr_trans k1 hF4 (by omega) (by omega) (Nat.le_refl _)) _ (by decide) (by decide) (by omega)) _ (Nat.le_refl _)) (Cln_1 (ndF_Fr hF4 (by omega) k4) ⟨(Fr_row hF4 (by decide) (by decide) (by omega)).trans k5.1, (Fr_row hF4 (by decide) (by decide) (by omega)).trans k5.2⟩ g4' hCl4) g c
          rw [ez] at res
          exact res
      · rw [sp_e_30 (by omega) (by omega)] at hpost
        rw [hnx, hth]
        obtain ⟨⟨k1, -, -⟩, -⟩ := f2 _ rfl
        exact go_fault hC.1.1 x1.2 hm (Fr_trans hF k1 (by omega) (by omega) (by omega)) hpost
    · rw [if_neg h33] at hpost
      by_cases hnm : sp_nm (sp_c (r_tx a0) n p)
      · rw [if_pos hnm] at hpost
        have hpn := sp_nm_lt hnm
        have x1 := sp_x_le (tx := r_tx a0) (n := n) (p := p + 1) (by omega)
        obtain ⟨u, hu, hcu, hcl, hcn⟩ := nm_u hnm
        rw [hcl] at hpost
        have hnn : a r_named u = a0 r_named u := by rw [Fr_oth hF (j := r_named) (by decide)]
        refine rc_e_name (d + 3) (em m p b k t (lv + 1)) a st γ _ hnm P ?_
        by_cases hv : a0 r_named u = -1
        · rw [if_pos hv] at hpost
          refine rc_readName_bad (d + 2) m a hw _ γ hu hcu (by rw [hnn]; exact hv) _ ?_
          exact ⟨0, rfl, go_fault hC.1.1 x0.2 hm hF hpost⟩
        · rw [if_neg hv] at hpost
          obtain ⟨v, hv12, hvv⟩ := (hC.2.2.2 u hu).resolve_left hv
          rw [hvv, nI_clamp (by omega)] at hpost
          have hnx : r_nx a n (p + 1) = sp_x (r_tx a0) n (p + 1) := eCx_nx hC hF (p + 1)
          refine rc_readName_use (d + 1) m a hC.1.1 hpn hsz hC.1.2 hsc (by omega) (by omega) _ γ hu hcu (by rw [hnn]; exact hv) (by
            rcases hγ with e | e
            · exact Or.inl e
            · exact Or.inr (fun q => e ⟨hnm, by rw [hnx, eCx_ch hF] at q; exact q⟩)) _ ?_
          rw [hnx, hth, hnn, hvv, hcn]
          rw [hcn, nI_clamp (by omega)] at hpost
          refine ⟨0, rfl, ?_⟩
          obtain ⟨n1, n2, n3⟩ := nodeA_V a b (s := u + 97) (f := p) (v := v) (by omega) (by have := hC.1.1; omega) (eth a0 sc)
          have f3 : Fr (up2 (r_nodeA a b (nI (u + 97)) (nI p) 0 (eth a0 sc)) r_variable b (nI v)) (up2 (up2 (r_nodeA a b (nI (u + 97)) (nI p) 0 (eth a0 sc)) r_variable b (nI v)) r_done t (nI b)) (b + 1) k t := Fr_dn (Fr_refl _ _ _ _) _ (Nat.le_refl _)
          refine hpost m _ (if γ = 0 then p + 1 else sp_x (r_tx a0) n (p + 1)) b hm ⟨?_, ?_⟩ ?_ ⟨⟨⟨rfl, ndF_Fr f3 (by omega) n1⟩, up2_eq _ _ _ _⟩, fun i i1 i2 => ?_⟩ _ _
          · split <;> omega
          · split
            · rfl
            · exact sp_x_x (by omega)
          · exact Fr_dn (Fr_nd (Fr_node (Fr_refl _ _ _ _) (Nat.le_refl _) _ _ _ _) _ (by decide) (by decide) (Nat.le_refl _)) _ (Nat.le_refl _)
          · simp only [sp_z] at i2
            rw [show i = b by omega]
            exact ⟨(Fr_row f3 (by decide) (by decide) (by omega)).trans n2, (Fr_row f3 (by decide) (by decide) (by omega)).trans n3⟩
      · rw [if_neg hnm] at hpost
        by_cases hlf : sp_c (r_tx a0) n p = 48 ∨ sp_c (r_tx a0) n p = 49 ∨ sp_c (r_tx a0) n p = 35
        · rw [if_pos hlf] at hpost
          have hpn : p < n := by rcases hlf with hc | hc | hc <;> exact sp_c_lt hc (by decide)
          have x1 := sp_x_le (tx := r_tx a0) (n := n) (p := p + 1) (by omega)
          obtain ⟨s, hs, hcs⟩ : ∃ s, s < 256 ∧ sp_c (r_tx a0) n p = nI s := by
            rcases hlf with e | e | e
            · exact ⟨48, by decide, e⟩
            · exact ⟨49, by decide, e⟩
            · exact ⟨35, by decide, e⟩
          refine rc_e_leaf (d + 2) m a hC.1.2 hsc (by omega) (by omega) st γ _ hlf P ?_
          rw [hth]
          generalize sp_c (r_tx a0) n p = c at hcs hpost ⊢
          subst hcs
          rw [nI_clamp (by omega)] at hpost
          obtain ⟨n1, n2, n3⟩ := nodeA_F a b (s := s) (f := p) hs (by have := hC.1.1; omega) (eth a0 sc)
          have f3 : Fr (r_nodeA a b (nI s) (nI p) 0 (eth a0 sc)) (up2 (r_nodeA a b (nI s) (nI p) 0 (eth a0 sc)) r_done t (nI b)) (b + 1) k t := Fr_dn (Fr_refl _ _ _ _) _ (Nat.le_refl _)
          refine hpost m _ (p + 1) b hm ⟨by omega, rfl⟩ ?_ ⟨⟨⟨rfl, ndF_Fr f3 (by omega) n1⟩, up2_eq _ _ _ _⟩, fun i i1 i2 => ?_⟩ _ _
          · exact Fr_dn (Fr_node (Fr_refl _ _ _ _) (Nat.le_refl _) _ _ _ _) _ (Nat.le_refl _)
          · simp only [sp_z] at i2
            rw [show i = b by omega]
            exact ⟨(Fr_row f3 (by decide) (by decide) (by omega)).trans n2, (Fr_row f3 (by decide) (by decide) (by omega)).trans n3⟩
        · rw [if_neg hlf] at hpost
          have hpp : r_nx a n p = p := by rw [eCx_nx hC hF, ← hp.2]; exact sp_x_x hp.1
          refine rc_e_bad (d + 2) m a hC.1.1 x0.2 hpp hsz hw st γ _ hnm (fun q => hlf (Or.inl q)) (fun q => hlf (Or.inr (Or.inl q))) (fun q => hlf (Or.inr (Or.inr q))) h33 h40 P ?_
          exact go_fault hC.1.1 x0.2 hm hF hpost
theorem eT_all (hC : eCx n sc m0 a0) : ∀ f, (eT0 d n sc st P m0 a0 f ∧ eT1 d n sc st P m0 a0 f ∧ eT2 d n sc st P m0 a0 f) ∧ (eT3 d n sc st P m0 a0 f ∧ eT4 d n sc st P m0 a0 f) ∧ (eT5 d n sc st P m0 a0 f ∧ eT6 d n sc st P m0 a0 f) := by
  intro f
  induction f with
  | zero =>
    refine ⟨⟨?_, ?_, ?_⟩, ⟨?_, ?_⟩, ?_, ?_⟩
    · intro lv p m a p0 b k t _ _ hf; omega
    · intro lv p m a p0 b k t γ _ _ hf; omega
    · intro lv p m a p0 b k t γ _ _ hf; omega
    · intro lv p m a p0 b k t γ _ _ hf; omega
    · intro lv p m a p0 b k t γ _ _ hf; omega
    · intro lv p v m a p0 b k t K T Z _ _ hf; omega
    · intro lv p v m a p0 b k t K T Z _ _ hf; omega
  | succ f ih =>
    obtain ⟨⟨h0, h1, h2⟩, ⟨h3, h4⟩, h5, h6⟩ := ih
    exact ⟨⟨eT0_step hC h0 h1, eT1_step hC h0 h1 h2, eT2_step h3 h5⟩, ⟨eT3_step h4 h6, eT4_step hC h0 h4⟩, eT5_step hC h3 h5, eT6_step hC h4 h6⟩
/-- readE, whole: as sp_e says -/
theorem rc_readE_ok (d : Nat) (hC : eCx n sc m0 a0) {p b : Nat} (hp : p ≤ n) (hat : m0 r_at = nI p) (hnd : m0 r_nodes = nI b) (hb : b + (n - sp_x (r_tx a0) n p) ≤ 250) (st : Int32) (P : pv_R)
    (h0 : ∀ q, sp_e (r_tx a0) n (a0 r_named) 2000 0 0 (sp_x (r_tx a0) n p) .nil = .inl q → eFk P m0 a0 q)
    (h1 : ∀ q u, sp_e (r_tx a0) n (a0 r_named) 2000 0 0 (sp_x (r_tx a0) n p) .nil = .inr (q, u) → ∀ (m' : Nat → Int32) (a' : Nat → Nat → Int32) (r : Nat), (Mf m0 m' ∧ m' r_wrong = -1) → (m' r_at = nI q ∧ m' r_nodes = nI (b + sp_z u)) → Fr a0 a' b 0 0 → Blk a' u b r → a' r_around r = st → (∀ i, b ≤ i → i < b + sp_z u → a' r_thereBefore i = eth a0 sc ∧ a' r_thereAfter i = eth a0 sc) → P (some (.int (nI r))) (rs m' a')) : pv_call rq_mt (d + 5) rq_m_R_readE [.ref 0, .int st] (rs m0 a0) P := by
  have x0 := sp_x_le (tx := r_tx a0) hp
  refine rc_readE (d + 1) m0 a0 hC.1.1 hp hat hnd hC.2.1.1 st P ?_
  refine (eT_all (d := d) (st := st) (P := P) hC 2000).1.1 0 (sp_x (r_tx a0) n p) m0 a0 p b 0 0 ⟨⟨by omega, fun _ _ _ => rfl, Fr_refl _ _ _ _⟩, ⟨hp, rfl⟩, hb, by omega⟩ (by omega) (by have := hC.1.1; omega) (by unfold top3 eTop; rw [if_pos rfl]; decide) ?_ [] (Or.inl rfl)
  cases hr0 : sp_e (r_tx a0) n (a0 r_named) 2000 0 0 (sp_x (r_tx a0) n p) .nil with
  | inl q => exact h0 q hr0
  | inr qu =>
    obtain ⟨q, u⟩ := qu
    obtain ⟨⟨⟨g1, g2⟩, ⟨g3, g4⟩, g5⟩, g6, g7, g8⟩ := sp_e_good 2000 0 0 _ .nil q u (by omega) x0.2 (by omega) hr0
    simp only [show ¬ (0 = 5 ∨ 0 = 6) by omega, if_false] at g1 g5
    intro m a p0 K T Z hm hp0 hF hP
    have hK := hP.1.1.2
    have hF0 : Fr a0 a 0 0 0 := Fr_le hF (by omega) (by omega) (by omega)
    have hw : m r_wrong = -1 := (hm 28 (by decide) (by decide)).trans hC.2.1.2.1
    have hsz : m r_size = nI n := (hm 27 (by decide) (by decide)).trans hC.2.1.1
    have htop : ¬ eTop a K = 33 := Pnd_top hP (by unfold eTop; rw [if_pos rfl]; decide)
    refine gZ_O hC hm hF0 hp0 (by omega) htop ?_
    have hqq : r_nx a n q = q := by rw [eCx_nx hC hF0, ← hp0.2]; exact sp_x_x hp0.1
    have w0 : ∀ s : Int32, s = 40 ∨ s = 63 → wts (a r_opSign) s K = 0 := fun s hs => Pnd_wts hP hs
    refine rc_ro_end (d + 1) m a hC.1.1 g2 hqq hsz hw (by omega) _ (g6 (by omega)) (g7 (by omega)) (g8 (by omega)) (fun _ => w0 63 (Or.inr rfl)) (fun _ => w0 40 (Or.inl rfl)) _ (fun _ _ => ?_) (fun q => absurd ⟨w0 63 (Or.inr rfl), w0 40 (Or.inl rfl)⟩ q)
    refine ⟨0, _, _, rfl, rfl, ?_⟩
    obtain ⟨a1, r, ⟨hF1, hCl⟩, hrw⟩ := Pnd_rw (x := 1) (y := 1) (w := 1) hP ⟨fun _ => by decide, fun _ => by decide, fun _ => by decide⟩ (by unfold eTop; rw [if_pos rfl]; intro q; rcases q with q | q | q <;> exact absurd q (by decide))
    have hr := Blk_root hCl.1.1
    refine rc_e_end (d + 2) (wb m 1 0) a a1 hw (by omega) htop hCl.1.2 (by omega) (hrw (d + 2) (wb m 1 0) q _) st _ _ P ?_
    refine h1 q u hr0 _ _ r ⟨Mf_em (Mw_wb hm 1 0) _ _ _ _ _, hw⟩ ⟨rfl, rfl⟩ (Fr_nd (Fr_trans hF hF1 (Nat.le_refl _) (Nat.le_refl _) (Nat.le_refl _)) _ (by decide) (by decide) (by omega)) (Blk_ar _ hCl.1.1 (Or.inr (Or.inr rfl))) (up2_eq _ _ _ _) (fun i i1 i2 => ⟨(up2_ne _ _ (fun q => absurd q.1 (by decide))).trans (hCl.2 i i1 i2).1, (up2_ne _ _ (fun q => absurd q.1 (by decide))).trans (hCl.2 i i1 i2).2⟩)
end ES
