section CV
variable {l : Nat → Nat → Int64} {w : Int64} {n V : Nat} {th : Int32} {nm tx : Nat → Int32}
theorem unf_up {a : Nat → Nat → Int32} {th : Int32} {b i : Nat} {x : Int32} (h : unf a th i) : unf (up2 a c_P_end b x) th i := ⟨⟨(up2_ne _ _ (fun q => absurd q.1 (by decide))).trans h.1.1, (up2_ne _ _ (fun q => absurd q.1 (by decide))).trans h.1.2⟩, ⟨(up2_ne _ _ (fun q => absurd q.1 (by decide))).trans h.2.1.1, (up2_ne _ _ (fun q => absurd q.1 (by decide))).trans h.2.1.2⟩, (up2_ne _ _ (fun q => absurd q.1 (by decide))).trans h.2.2.1, (up2_ne _ _ (fun q => absurd q.1 (by decide))).trans h.2.2.2⟩
theorem cT1_step {f : Nat} (i0 : cT l w n V th nm tx 0 cq_m_Reader_expression f) (i1 : cT l w n V th nm tx 1 cq_m_Reader_conditional f) (i2 : cT l w n V th nm tx 2 cq_m_Reader_alternatives f) : cT l w n V th nm tx 1 cq_m_Reader_conditional (f + 1) := by
  intro D lv p p0 b m a U A P hpre hlv hf hD hcnt hpost
  obtain ⟨hC, ⟨hat, hp0, hpx⟩, hs, hb⟩ := hpre
  have hC' := hC
  obtain ⟨⟨hn, hV⟩, ⟨hlen, hth, hvs⟩, htx, hnm⟩ := hC'
  have x0 := sp_x_le (tx := tx) hp0
  rw [hpx] at x0
  have hpp : sp_x tx n p = p := by rw [← hpx]; exact sp_x_x hp0
  obtain ⟨d, rfl⟩ : ∃ d, D = d + 4 := ⟨D - 4, by omega⟩
  have hm1 : Cm m (upd m c_R_at (nI p)) := Cm_up (Cm_refl m) _ (by decide)
  refine cc_cond d m a hn hp0 hat hlen (by omega) hs P (fun h30 => ?_) (fun h30 => ?_)
  · rw [htx, hpx]
    rw [sp_e_30 h30 (by omega)] at hpost
    exact hpost _ a b (Cm_up hm1 _ (by decide)) rfl ⟨hs, by omega⟩ (Ce_refl a 0)
  rw [htx, hpx]
  rw [sp_e1, if_neg (by omega)] at hpost
  refine i2 (d + 3) lv p p b _ a U A _ ⟨cCx_tr hC hm1 (Ce_refl a b), ⟨rfl, x0.2, hpp⟩, hs, hb⟩ hlv (by omega) (by omega) hcnt ?_
  cases hr : sp_e tx n nm f 2 lv p .nil with
  | inl q =>
    rw [hr] at hpost
    exact fun m' a' B k1 k2 k3 k4 => Or.inl ⟨rfl, hpost m' a' B (Cm_trans hm1 k1) k2 k3 k4⟩
  | inr qu =>
    obtain ⟨q, v⟩ := qu
    rw [hr] at hpost
    obtain ⟨⟨⟨g1, g2⟩, ⟨g3, g4⟩, g5⟩, -⟩ := sp_e_good f 2 lv _ .nil q v (by omega) x0.2 (by omega) hr
    simp only [show ¬ (2 = 5 ∨ 2 = 6) by omega, if_false] at g1 g5
    intro m' a' p1 k1 k2 k3 k4 k5 k6 k7
    refine Or.inr ⟨rfl, m', a', rfl, ?_⟩
    have hm3 := Cm_trans hm1 k1
    have hC3 := cCx_tr hC hm3 k4
    obtain ⟨-, ⟨hlen3, -, -⟩, htx3, -⟩ := hC3
    have hC3 := cCx_tr hC hm3 k4
    refine cd_34 d m' a' hn k3.1 k2.2 hlen3 (b := b) (B := b + sp_z v) (by omega) (fun e => ?_) k2.1 P (fun e => ?_) (fun e => ?_)
    · rw [htx3, k3.2] at e
      have := sp_c_lt e (by decide)
      omega
    · rw [htx3, k3.2] at e ⊢
      have hpost : cPost l w n th tx U A P m a b (.inr (q, v)) := by
        have h := hpost
        unfold sp_b at h
        simp only [e, if_false] at h
        exact h
      exact hpost _ a' q (Cm_up hm3 _ (by decide)) ⟨k2.1, rfl⟩ ⟨g2, g3⟩ k4 k5 k6 k7
    · rw [htx3, k3.2] at e ⊢
      have hpost : cPost l w n th tx U A P m a b (sp_b (sp_e tx n nm f 0 (lv + 1) (sp_x tx n (q + 1)) .nil) fun q2 u2 =>
          if sp_c tx n q2 = 58 then sp_b (sp_e tx n nm f 1 (lv + 1) (sp_x tx n (q2 + 1)) .nil) fun q3 u3 => .inr (q3, .tag (sp_n 63 (sp_1 v) 0) (.append v (.append u2 u3)))
          else .inl q2) := by
        have h := hpost
        unfold sp_b at h
        simp only [e, if_true] at h
        exact h
      have hqn := sp_c_lt e (by decide)
      have x1 := sp_x_le (tx := tx) (n := n) (p := q + 1) (by omega)
      obtain ⟨w1, w2, w3⟩ := wrA_row a' 63 (show b < b + sp_z v by omega)
      have w4 := wrA_unf 63 (show b < b + sp_z v by omega) k6
      have wu : (wrA a' (b + sp_z v) b 63) c_V_uses = a' c_V_uses := rfl
      have wa : (wrA a' (b + sp_z v) b 63) c_V_assigns = a' c_V_assigns := rfl
      have hf1 := PrE_first g4 k5
      generalize wrA a' (b + sp_z v) b 63 = a2 at *
      have hv2 : PrE a2 v (b + 1) := PrE_shift v b (b + 1) w1 rfl k5
      have hm4 : Cm m (upd (upd (upd m' c_R_at (nI q)) c_P_size (nI (b + sp_z v + 1))) c_R_at (nI (q + 1))) := Cm_up (Cm_up (Cm_up hm3 _ (by decide)) _ (by decide)) _ (by decide)
      have hca2 : Ce a a2 b := Ce_trans k4 w3 (Nat.le_refl _)
      have hs4 : (upd (upd (upd m' c_R_at (nI q)) c_P_size (nI (b + sp_z v + 1))) c_R_at (nI (q + 1))) c_P_size = nI (b + sp_z v + 1) := rfl
      have hat4 : (upd (upd (upd m' c_R_at (nI q)) c_P_size (nI (b + sp_z v + 1))) c_R_at (nI (q + 1))) c_R_at = nI (q + 1) := rfl
      generalize upd (upd (upd m' c_R_at (nI q)) c_P_size (nI (b + sp_z v + 1))) c_R_at (nI (q + 1)) = m4 at *
      refine i0 (d + 3) (lv + 1) (sp_x tx n (q + 1)) (q + 1) (b + sp_z v + 1) m4 a2 (a2 c_V_uses) (a2 c_V_assigns) _ ⟨cCx_tr hC hm4 hca2, ⟨hat4, by omega, rfl⟩, hs4, by omega⟩ (by omega) (by omega) (by omega) (cnt_nil a2) ?_
      cases hr0 : sp_e tx n nm f 0 (lv + 1) (sp_x tx n (q + 1)) .nil with
      | inl q2 =>
        rw [hr0] at hpost
        exact fun m5 a5 B j1 j2 j3 j4 => Or.inl ⟨rfl, hpost m5 a5 B (Cm_trans hm4 j1) j2 j3 (Ce_trans (Ce_trans (Ce_refl a 0) hca2 (Nat.zero_le _)) j4 (Nat.le_refl _))⟩
      | inr qu2 =>
        obtain ⟨q2, v2⟩ := qu2
        rw [hr0] at hpost
        obtain ⟨⟨⟨g1', g2'⟩, ⟨g3', g4'⟩, g5'⟩, -⟩ := sp_e_good f 0 (lv + 1) _ .nil q2 v2 (by omega) x1.2 (by omega) hr0
        simp only [show ¬ (0 = 5 ∨ 0 = 6) by omega, if_false] at g1' g5'
        intro m5 a5 p5 j1 j2 j3 j4 j5 j6 j7
        refine Or.inr ⟨rfl, m5, a5, rfl, ?_⟩
        have hm5 := Cm_trans hm4 j1
        have hca5 : Ce a a5 b := Ce_trans hca2 j4 (by omega)
        have hC5 := cCx_tr hC hm5 hca5
        obtain ⟨-, ⟨hlen5, -, -⟩, htx5, -⟩ := hC5
        refine cc_expect (d + 1) m5 a5 hn j3.1 j2.2 hlen5 58 _ (fun e2 => ?_) (fun e2 => ?_)
        · rw [htx5, j3.2] at e2 ⊢
          have hpost : cPost l w n th tx U A P m a b (sp_b (sp_e tx n nm f 1 (lv + 1) (sp_x tx n (q2 + 1)) .nil) fun q3 u3 => .inr (q3, .tag (sp_n 63 (sp_1 v) 0) (.append v (.append v2 u3)))) := by
            have h := hpost
            unfold sp_b at h
            simp only [e2, if_true] at h
            exact h
          have hqn2 := sp_c_lt e2 (by decide)
          have x2 := sp_x_le (tx := tx) (n := n) (p := q2 + 1) (by omega)
          refine Or.inr ⟨rfl, _, _, rfl, ?_⟩
          have hm6 : Cm m (upd m5 c_R_at (nI (q2 + 1))) := Cm_up hm5 _ (by decide)
          refine i1 (d + 3) (lv + 1) (sp_x tx n (q2 + 1)) (q2 + 1) (b + sp_z v + 1 + sp_z v2) _ a5 (a5 c_V_uses) (a5 c_V_assigns) _ ⟨cCx_tr hC hm6 hca5, ⟨rfl, by omega, rfl⟩, j2.1, by omega⟩ (by omega) (by omega) (by omega) (cnt_nil a5) ?_
          cases hr1 : sp_e tx n nm f 1 (lv + 1) (sp_x tx n (q2 + 1)) .nil with
          | inl q3 =>
            rw [hr1] at hpost
            exact fun m7 a7 B o1 o2 o3 o4 => Or.inl ⟨rfl, hpost m7 a7 B (Cm_trans hm6 o1) o2 o3 (Ce_trans (Ce_trans (Ce_refl a 0) hca5 (Nat.zero_le _)) o4 (Nat.le_refl _))⟩
          | inr qu3 =>
            obtain ⟨q3, v3⟩ := qu3
            rw [hr1] at hpost
            obtain ⟨⟨⟨g1'', g2''⟩, ⟨g3'', g4''⟩, g5''⟩, -⟩ := sp_e_good f 1 (lv + 1) _ .nil q3 v3 (by omega) x2.2 (by omega) hr1
            simp only [show ¬ (1 = 5 ∨ 1 = 6) by omega, if_false] at g1'' g5''
            intro m7 a7 p7 o1 o2 o3 o4 o5 o6 o7
            refine Or.inr ⟨rfl, m7, a7, rfl, ?_⟩
            refine cc_close (d + 1) m7 a7 (p := b) (b := b + sp_z v + 1 + sp_z v2 + sp_z v3) (by omega) (by omega) o2.1 _ ⟨rfl, ?_⟩
            have hne : ∀ j i, b + 1 ≤ i → (up2 a7 c_P_end b (nI (b + sp_z v + 1 + sp_z v2 + sp_z v3))) j i = a7 j i := fun j i hi => up2_ne _ _ (fun q => by have := q.2; omega)
            have ez : b + sp_z (.tag (sp_n 63 (sp_1 v) 0) (.append v (.append v2 v3))) = b + sp_z v + 1 + sp_z v2 + sp_z v3 := by simp only [sp_z]; omega
            have h27 : Ce a2 a7 (b + sp_z v + 1) := Ce_trans j4 o4 (by omega)
            have hpf : sp_1 v < 256 := sp_1_lt v
            refine hpost m7 _ p7 (Cm_trans hm6 o1) ⟨by rw [ez]; exact o2.1, o2.2⟩ o3 (Ce_up (Ce_trans hca5 o4 (by omega)) _ (by decide) (Nat.le_refl _)) ⟨⟨⟨?_, ?_⟩, ?_, ?_⟩, ?_, ?_, ?_⟩ (fun i i1 i2 => ?_) (fun x hx => ?_)
            · rw [sp_s_n (by decide) hpf]; exact (up2_ne _ _ (fun q => absurd q.1 (by decide))).trans ((Ce_row h27 (by decide) (by omega)).trans w2.1.1)
            · rw [sp_f_n (by decide) hpf]; exact (up2_ne _ _ (fun q => absurd q.1 (by decide))).trans ((Ce_row h27 (by decide) (by omega)).trans (w2.1.2.trans hf1))
            · rw [sp_v_n (by decide) hpf, show nI 0 - 1 = (-1 : Int32) by decide]; exact (up2_ne _ _ (fun q => absurd q.1 (by decide))).trans ((Ce_row h27 (by decide) (by omega)).trans w2.2)
            · rw [up2_eq]; congr 1; simp only [sp_z]; omega
            · exact PrE_same v _ (fun i i1 _ => ⟨⟨hne _ _ i1, hne _ _ i1⟩, hne _ _ i1, hne _ _ i1⟩) (PrE_Ce h27 (by omega) hv2)
            · rw [show b + 1 + sp_z v = b + sp_z v + 1 by omega]
              exact PrE_same v2 _ (fun i i1 _ => ⟨⟨hne _ _ (by omega), hne _ _ (by omega)⟩, hne _ _ (by omega), hne _ _ (by omega)⟩) (PrE_Ce o4 (by omega) j5)
            · rw [show b + 1 + sp_z v + sp_z v2 = b + sp_z v + 1 + sp_z v2 by omega]
              exact PrE_same v3 _ (fun i i1 _ => ⟨⟨hne _ _ (by omega), hne _ _ (by omega)⟩, hne _ _ (by omega), hne _ _ (by omega)⟩) o5
            · rw [ez] at i2
              refine unf_up ?_
              by_cases e : i < b + sp_z v + 1
              · exact unf_Ce h27 e (w4 i i1 e)
              · by_cases e3 : i < b + sp_z v + 1 + sp_z v2
                · exact unf_Ce o4 e3 (j6 i (by omega) e3)
                · exact o6 i (by omega) i2
            · obtain ⟨t1, t2⟩ := o7 x hx
              obtain ⟨t3, t4⟩ := j7 x hx
              obtain ⟨t5, t6⟩ := k7 x hx
              have e1 : cU x (.tag (sp_n 63 (sp_1 v) 0) (.append v (.append v2 v3))) = cU x v + (cU x v2 + cU x v3) := by
                show (if sp_v (sp_n 63 (sp_1 v) 0) = x + 1 ∧ ¬ sp_s (sp_n 63 (sp_1 v) 0) = 61 then 1 else 0) + (cU x v + (cU x v2 + cU x v3)) = _
                rw [sp_v_n (by decide) hpf, if_neg (by omega)]; omega
              have e2 : cA x (.tag (sp_n 63 (sp_1 v) 0) (.append v (.append v2 v3))) = cA x v + (cA x v2 + cA x v3) := by
                show (if sp_v (sp_n 63 (sp_1 v) 0) = x + 1 ∧ sp_s (sp_n 63 (sp_1 v) 0) = 61 then 1 else 0) + (cA x v + (cA x v2 + cA x v3)) = _
                rw [sp_v_n (by decide) hpf, if_neg (by omega)]; omega
              refine ⟨?_, ?_⟩
              · rw [up2_ne _ _ (fun q => absurd q.1 (by decide)), t1, t3, wu, t5, e1, ← nI_add, ← nI_add, Int32.add_assoc, Int32.add_assoc]
              · rw [up2_ne _ _ (fun q => absurd q.1 (by decide)), t2, t4, wa, t6, e2, ← nI_add, ← nI_add, Int32.add_assoc, Int32.add_assoc]
        · rw [htx5, j3.2] at e2 ⊢
          have hpost : cF l w P m a q2 := by
            have h := hpost
            unfold sp_b at h
            simp only [e2, if_false] at h
            exact h
          exact Or.inl ⟨rfl, hpost _ a5 _ (Cm_up (Cm_up hm5 _ (by decide)) _ (by decide)) rfl ⟨j2.1, by omega⟩ (Ce_trans (Ce_refl a 0) hca5 (Nat.zero_le _))⟩
theorem cT0_step {f : Nat} (i0 : cT l w n V th nm tx 0 cq_m_Reader_expression f) (i1 : cT l w n V th nm tx 1 cq_m_Reader_conditional f) : cT l w n V th nm tx 0 cq_m_Reader_expression (f + 1) := by
  intro D lv p p0 b m a U A P hpre hlv hf hD hcnt hpost
  obtain ⟨hC, ⟨hat, hp0, hpx⟩, hs, hb⟩ := hpre
  have hC' := hC
  obtain ⟨⟨hn, hV⟩, ⟨hlen, hth, hvs⟩, htx, hnm⟩ := hC'
  have x0 := sp_x_le (tx := tx) hp0
  rw [hpx] at x0
  have hpp : sp_x tx n p = p := by rw [← hpx]; exact sp_x_x hp0
  obtain ⟨d, rfl⟩ : ∃ d, D = d + 3 := ⟨D - 3, by omega⟩
  have hm1 : Cm m (upd m c_R_at (nI p)) := Cm_up (Cm_refl m) _ (by decide)
  refine cc_expr d m a hn hp0 hat hlen (by omega) P (fun h30 => ?_) (fun h30 hne => ?_) (fun h30 hc1 hc2 => ?_)
  · rw [htx, hpx]
    rw [sp_e_30 h30 (by omega)] at hpost
    exact hpost _ a b (Cm_up hm1 _ (by decide)) rfl ⟨hs, by omega⟩ (Ce_refl a 0)
  · rw [htx, hpx] at hne ⊢
    rw [sp_e0, if_neg (by omega), if_neg hne] at hpost
    refine i1 (d + 2) lv p p b _ a U A _ ⟨cCx_tr hC hm1 (Ce_refl a b), ⟨rfl, x0.2, hpp⟩, hs, hb⟩ hlv (by omega) (by omega) hcnt ?_
    cases hr : sp_e tx n nm f 1 lv p .nil with
    | inl q =>
      rw [hr] at hpost
      exact fun m' a' B k1 k2 k3 k4 => Or.inl ⟨rfl, hpost m' a' B (Cm_trans hm1 k1) k2 k3 k4⟩
    | inr qu =>
      obtain ⟨q, v⟩ := qu
      rw [hr] at hpost
      exact fun m' a' p1 k1 k2 k3 k4 k5 k6 k7 => Or.inr ⟨rfl, hpost m' a' p1 (Cm_trans hm1 k1) k2 k3 k4 k5 k6 k7⟩
  · rw [htx, hpx] at hc1 hc2 ⊢
    rw [sp_e0, if_neg (by omega), if_pos ⟨hc1, hc2⟩] at hpost
    have hpn := sp_nm_lt hc1
    have hpn2 := sp_c_lt hc2 (by decide)
    have x1 := sp_x_le (tx := tx) (n := n) (p := p + 1) (by omega)
    have x2 := sp_x_le (tx := tx) (n := n) (p := sp_x tx n (p + 1) + 1) (by omega)
    obtain ⟨u, hu, -, hcl, hcn⟩ := nm_u hc1
    rw [hcl] at hpost
    obtain ⟨hf1, hf2⟩ := hnm u hu
    have hat1 : (upd m c_R_at (nI p)) c_R_at = nI p := rfl
    have hs1 : (upd m c_R_at (nI p)) c_P_size = nI b := hs
    have hth1 : (upd m c_R_at (nI p)) c_R_there = th := hth
    have hvs1 : (upd m c_R_at (nI p)) c_V_size = nI V := hvs
    generalize upd m c_R_at (nI p) = m1 at *
    by_cases hv : nm u = -1
    · rw [if_pos hv] at hpost
      refine cx_bad (d + 1) m1 a hV hvs1 (nI lv) (sp_c tx n p) (by rw [hth1, hcn, hf1]; exact hv) P ?_
      exact hpost _ a b (Cm_up hm1 _ (by decide)) hat1 ⟨hs1, by omega⟩ (Ce_refl a 0)
    · rw [if_neg hv] at hpost
      obtain ⟨v, hv12, hvv⟩ := hf2.resolve_left hv
      rw [hvv, nI_clamp (by omega)] at hpost
      refine cx_set d m1 a hV hvs1 (by omega) hs1 hat1 (sp_c tx n p) (by rw [hth1, hcn, hf1]; exact hvv) hv12 P ?_
      rw [hth1]
      obtain ⟨n1, n2⟩ := apA_ndC a b 61 p (v + 1) (nI v) th (by decide) (by omega) (nI_pred v).symm
      have n1 : ndC (apA a b 61 (nI p) (nI v) th) b (sp_n 61 p (v + 1)) (b + 1) := n1
      have n2 : unf (apA a b 61 (nI p) (nI v) th) th b := n2
      have hCa : Ce a (apA a b 61 (nI p) (nI v) th) b := Ce_ap (Ce_refl a b) (Nat.le_refl _) _ _ _ _
      have eu : (apA a b 61 (nI p) (nI v) th) c_V_uses = a c_V_uses := rfl
      have ea : (apA a b 61 (nI p) (nI v) th) c_V_assigns = a c_V_assigns := rfl
      generalize apA a b 61 (nI p) (nI v) th = a1 at *
      have hCa2 : Ce a (up2 a1 c_V_assigns v (a c_V_assigns v + 1)) b := Ce_us hCa _ (by decide)
      have hne2 : ∀ j i, ¬ j = 24 → (up2 a1 c_V_assigns v (a c_V_assigns v + 1)) j i = a1 j i := fun j i hj => up2_ne _ _ (fun q => hj q.1)
      have has : ∀ x, (up2 a1 c_V_assigns v (a c_V_assigns v + 1)) c_V_assigns x = if x = v then a c_V_assigns v + 1 else a c_V_assigns x := fun x => by
        by_cases e : x = v
        · rw [e, up2_eq, if_pos rfl]
        · rw [up2_ne _ _ (fun q => e q.2), if_neg e, ea]
      generalize up2 a1 c_V_assigns v (a c_V_assigns v + 1) = a2 at *
      have hm2 : Cm m (upd (upd m1 c_P_size (nI (b + 1))) c_R_at (nI (p + 1))) := Cm_up (Cm_up hm1 _ (by decide)) _ (by decide)
      have hs2 : (upd (upd m1 c_P_size (nI (b + 1))) c_R_at (nI (p + 1))) c_P_size = nI (b + 1) := rfl
      have hat2 : (upd (upd m1 c_P_size (nI (b + 1))) c_R_at (nI (p + 1))) c_R_at = nI (p + 1) := rfl
      generalize upd (upd m1 c_P_size (nI (b + 1))) c_R_at (nI (p + 1)) = m2 at *
      have hC2 := cCx_tr hC hm2 hCa2
      obtain ⟨-, ⟨hlen2, -, -⟩, htx2, -⟩ := hC2
      have hC2 := cCx_tr hC hm2 hCa2
      refine cc_expect d m2 a2 hn (p := p + 1) (by omega) hat2 hlen2 61 _ (fun e => ?_) (fun e => ?_)
      · rw [htx2] at e ⊢
        refine Or.inr ⟨rfl, _, _, rfl, ?_⟩
        have hm3 : Cm m (upd m2 c_R_at (nI (sp_x tx n (p + 1) + 1))) := Cm_up hm2 _ (by decide)
        refine i0 (d + 2) (lv + 1) (sp_x tx n (sp_x tx n (p + 1) + 1)) (sp_x tx n (p + 1) + 1) (b + 1) _ a2 (a2 c_V_uses) (a2 c_V_assigns) _ ⟨cCx_tr hC hm3 hCa2, ⟨rfl, by omega, rfl⟩, hs2, by omega⟩ (by omega) (by omega) (by omega) (cnt_nil a2) ?_
        cases hr : sp_e tx n nm f 0 (lv + 1) (sp_x tx n (sp_x tx n (p + 1) + 1)) .nil with
        | inl q =>
          rw [hr] at hpost
          exact fun m' a' B k1 k2 k3 k4 => Or.inl ⟨rfl, hpost m' a' B (Cm_trans hm3 k1) k2 k3 (Ce_trans (Ce_trans (Ce_refl a 0) hCa2 (Nat.zero_le _)) k4 (Nat.le_refl _))⟩
        | inr qu =>
          obtain ⟨q, t⟩ := qu
          rw [hr] at hpost
          obtain ⟨⟨⟨g1, g2⟩, ⟨g3, g4⟩, g5⟩, -⟩ := sp_e_good f 0 (lv + 1) _ .nil q t (by omega) x2.2 (by omega) hr
          simp only [show ¬ (0 = 5 ∨ 0 = 6) by omega, if_false] at g1 g5
          intro m' a' p1 k1 k2 k3 k4 k5 k6 k7
          refine Or.inr ⟨rfl, m', a', rfl, ?_⟩
          refine cc_close d m' a' (p := b) (b := b + 1 + sp_z t) (by omega) (by omega) k2.1 _ ⟨rfl, ?_⟩
          have hne : ∀ j i, b + 1 ≤ i → (up2 a' c_P_end b (nI (b + 1 + sp_z t))) j i = a' j i := fun j i hi => up2_ne _ _ (fun q => by have := q.2; omega)
          have ez : b + sp_z (.tag (sp_n 61 p (v + 1)) t) = b + 1 + sp_z t := by simp only [sp_z]; omega
          refine hpost m' _ p1 (Cm_trans hm3 k1) ⟨by rw [ez]; exact k2.1, k2.2⟩ k3 (Ce_up (Ce_trans hCa2 k4 (by omega)) _ (by decide) (Nat.le_refl _)) ⟨⟨⟨?_, ?_⟩, ?_, ?_⟩, PrE_same t _ (fun i i1 _ => ⟨⟨hne _ _ i1, hne _ _ i1⟩, hne _ _ i1, hne _ _ i1⟩) k5⟩ (fun i i1 i2 => ?_) (fun x hx => ?_)
          · exact (up2_ne _ _ (fun q => absurd q.1 (by decide))).trans ((Ce_row k4 (by decide) (by omega)).trans ((hne2 _ _ (by decide)).trans n1.1.1))
          · exact (up2_ne _ _ (fun q => absurd q.1 (by decide))).trans ((Ce_row k4 (by decide) (by omega)).trans ((hne2 _ _ (by decide)).trans n1.1.2))
          · exact (up2_ne _ _ (fun q => absurd q.1 (by decide))).trans ((Ce_row k4 (by decide) (by omega)).trans ((hne2 _ _ (by decide)).trans n1.2.1))
          · exact up2_eq _ _ _ _
          · rw [ez] at i2
            refine unf_up ?_
            by_cases e : i = b
            · rw [e]
              refine unf_Ce k4 (by omega) ⟨⟨(hne2 _ _ (by decide)).trans n2.1.1, (hne2 _ _ (by decide)).trans n2.1.2⟩, ⟨(hne2 _ _ (by decide)).trans n2.2.1.1, (hne2 _ _ (by decide)).trans n2.2.1.2⟩, (hne2 _ _ (by decide)).trans n2.2.2.1, (hne2 _ _ (by decide)).trans n2.2.2.2⟩
            · exact k6 i (by omega) i2
          · obtain ⟨t1, t2⟩ := k7 x hx
            obtain ⟨t5, t6⟩ := hcnt x hx
            have e1 : cU x (.tag (sp_n 61 p (v + 1)) t) = cU x t := by
              show (if sp_v (sp_n 61 p (v + 1)) = x + 1 ∧ ¬ sp_s (sp_n 61 p (v + 1)) = 61 then 1 else 0) + cU x t = _
              rw [sp_s_n (by decide) (by omega), if_neg (fun q => q.2 rfl)]; omega
            have e2 : cA x (.tag (sp_n 61 p (v + 1)) t) = (if x = v then 1 else 0) + cA x t := by
              show (if sp_v (sp_n 61 p (v + 1)) = x + 1 ∧ sp_s (sp_n 61 p (v + 1)) = 61 then 1 else 0) + cA x t = _
              rw [sp_v_n (by decide) (by omega), sp_s_n (by decide) (by omega)]
              by_cases e : x = v
              · rw [if_pos e, if_pos ⟨by omega, rfl⟩]
              · rw [if_neg e, if_neg (fun q => e (by omega))]
            have z0 : ∀ y : Int32, y + nI 0 = y := fun y => Int32.add_zero y
            have t5 : a c_V_uses x = U x := t5.trans (z0 _)
            have t6 : a c_V_assigns x = A x := t6.trans (z0 _)
            refine ⟨?_, ?_⟩
            · rw [up2_ne _ _ (fun q => absurd q.1 (by decide)), t1, hne2 _ _ (by decide), eu, t5, e1]
            · rw [up2_ne _ _ (fun q => absurd q.1 (by decide)), t2, has, e2]
              by_cases e : x = v
              · rw [if_pos e, if_pos e, ← nI_add, ← e, t6, Int32.add_assoc]
                rfl
              · rw [if_neg e, if_neg e, t6, ← nI_add, show nI 0 = 0 from rfl, Int32.zero_add]
      · rw [htx2] at e
        exact absurd hc2 e
theorem cT_all : ∀ f, (cT l w n V th nm tx 0 cq_m_Reader_expression f ∧ cT l w n V th nm tx 1 cq_m_Reader_conditional f ∧ cT l w n V th nm tx 2 cq_m_Reader_alternatives f) ∧ (cT l w n V th nm tx 3 cq_m_Reader_conjunction f ∧ cT l w n V th nm tx 4 cq_m_Reader_unary f) ∧ (cTl l w n V th nm tx 5 cq_T54 f ∧ cTl l w n V th nm tx 6 cq_T55 f) := by
  intro f
  induction f with
  | zero =>
    refine ⟨⟨?_, ?_, ?_⟩, ⟨?_, ?_⟩, ?_, ?_⟩
    · intro D lv p p0 b m a U A P _ _ hf; omega
    · intro D lv p p0 b m a U A P _ _ hf; omega
    · intro D lv p p0 b m a U A P _ _ hf; omega
    · intro D lv p p0 b m a U A P _ _ hf; omega
    · intro D lv p p0 b m a U A P _ _ hf; omega
    · intro D lv p p0 b k v m a U A P _ _ hf; omega
    · intro D lv p p0 b k v m a U A P _ _ hf; omega
  | succ f ih =>
    obtain ⟨⟨h0, h1, h2⟩, ⟨h3, h4⟩, h5, h6⟩ := ih
    exact ⟨⟨cT0_step h0 h1, cT1_step h0 h1 h2, cT2_step h3 h5⟩, ⟨cT3_step h4 h6, cT4_step h0 h4⟩, cT5_step h3 h5, cT6_step h4 h6⟩
end CV
