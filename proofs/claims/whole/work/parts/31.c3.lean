section CU
variable {l : Nat → Nat → Int64} {w : Int64} {n V : Nat} {th : Int32} {nm tx : Nat → Int32}
theorem apA_ndC (a : Nat → Nat → Int32) (b s f v : Nat) (vI th : Int32) (hs : s < 256) (hf : f < 256) (hv : vI = nI v - 1) : ndC (apA a b (nI s) (nI f) vI th) b (sp_n s f v) (b + 1) ∧ unf (apA a b (nI s) (nI f) vI th) th b := by
  unfold ndC unf
  rw [sp_s_n hs hf, sp_f_n hs hf, sp_v_n hs hf, ← hv]
  have k2 : apA a b (nI s) (nI f) vI th c_P_sort b = if b = b then nI s else a c_P_sort b := rfl
  have k3 : apA a b (nI s) (nI f) vI th c_P_first b = if b = b then nI f else a c_P_first b := rfl
  have k4 : apA a b (nI s) (nI f) vI th c_P_named b = if b = b then vI else a c_P_named b := rfl
  have k5 : apA a b (nI s) (nI f) vI th c_P_there b = if b = b then th else a c_P_there b := rfl
  have k6 : apA a b (nI s) (nI f) vI th c_P_end b = if b = b then nI (b + 1) else a c_P_end b := rfl
  have k11 : apA a b (nI s) (nI f) vI th c_P_target b = if b = b then -1 else a c_P_target b := rfl
  have k12 : apA a b (nI s) (nI f) vI th c_P_catchFrom b = if b = b then -1 else a c_P_catchFrom b := rfl
  have k13 : apA a b (nI s) (nI f) vI th c_P_finallyFrom b = if b = b then -1 else a c_P_finallyFrom b := rfl
  have k14 : apA a b (nI s) (nI f) vI th c_P_isEntered b = if b = b then 0 else a c_P_isEntered b := rfl
  have k15 : apA a b (nI s) (nI f) vI th c_P_isSkipped b = if b = b then 0 else a c_P_isSkipped b := rfl
  rw [if_pos rfl] at k2 k3 k4 k5 k6 k11 k12 k13 k14 k15
  exact ⟨⟨⟨k2, k3⟩, k4, k6⟩, ⟨k5, k11⟩, ⟨k12, k13⟩, k14, k15⟩
/-- the loops, entered -/
theorem cT3_step {f : Nat} (i4 : cT l w n V th nm tx 4 cq_m_Reader_unary f) (i6 : cTl l w n V th nm tx 6 cq_T55 f) : cT l w n V th nm tx 3 cq_m_Reader_conjunction (f + 1) := by
  intro D lv p p0 b m a U A P hpre hlv hf hD hcnt hpost
  have hpre' := hpre
  obtain ⟨hC, ⟨hat, hp0, hpx⟩, hs, hb⟩ := hpre
  have x0 := sp_x_le (tx := tx) hp0
  rw [hpx] at x0
  obtain ⟨d, rfl⟩ : ∃ d, D = d + 1 := ⟨D - 1, by omega⟩
  rw [sp_e3] at hpost
  refine k55_in d m a hs P ?_
  refine i4 d lv p p0 b m a U A _ hpre' hlv (by omega) (by omega) hcnt ?_
  cases hr : sp_e tx n nm f 4 lv p .nil with
  | inl q =>
    rw [hr] at hpost
    exact fun m' a' B k1 k2 k3 k4 => Or.inl ⟨rfl, hpost m' a' B k1 k2 k3 k4⟩
  | inr qu =>
    obtain ⟨q, u⟩ := qu
    rw [hr] at hpost
    have hlv2 : lv < 30 := by
      refine Nat.lt_of_not_le fun hq => ?_
      rw [sp_e_30 hq (by omega)] at hr
      cases hr
    obtain ⟨⟨⟨g1, g2⟩, ⟨g3, g4⟩, g5⟩, -⟩ := sp_e_good f 4 lv _ .nil q u (by omega) x0.2 (by omega) hr
    simp only [show ¬ (4 = 5 ∨ 4 = 6) by omega, if_false] at g1 g5
    intro m' a' p1 k1 k2 k3 k4 k5 k6 k7
    exact Or.inr ⟨rfl, m', a', rfl, i6 d lv q p1 b 0 u m' a' U A P ⟨cCx_tr hC k1 k4, ⟨k2.2, k3⟩, k2.1, by omega⟩ hlv2 (by omega) (by omega) (by omega) ⟨g4, k5, k6⟩ k7 (cPost_tr hpost k1 k4 (Nat.le_refl _))⟩
theorem cT2_step {f : Nat} (i3 : cT l w n V th nm tx 3 cq_m_Reader_conjunction f) (i5 : cTl l w n V th nm tx 5 cq_T54 f) : cT l w n V th nm tx 2 cq_m_Reader_alternatives (f + 1) := by
  intro D lv p p0 b m a U A P hpre hlv hf hD hcnt hpost
  have hpre' := hpre
  obtain ⟨hC, ⟨hat, hp0, hpx⟩, hs, hb⟩ := hpre
  have x0 := sp_x_le (tx := tx) hp0
  rw [hpx] at x0
  obtain ⟨d, rfl⟩ : ∃ d, D = d + 1 := ⟨D - 1, by omega⟩
  rw [sp_e2] at hpost
  refine k54_in d m a hs P ?_
  refine i3 d lv p p0 b m a U A _ hpre' hlv (by omega) (by omega) hcnt ?_
  cases hr : sp_e tx n nm f 3 lv p .nil with
  | inl q =>
    rw [hr] at hpost
    exact fun m' a' B k1 k2 k3 k4 => Or.inl ⟨rfl, hpost m' a' B k1 k2 k3 k4⟩
  | inr qu =>
    obtain ⟨q, u⟩ := qu
    rw [hr] at hpost
    have hlv2 : lv < 30 := by
      refine Nat.lt_of_not_le fun hq => ?_
      cases f with
      | zero => cases hr
      | succ f =>
        rw [sp_e3, sp_e_30 hq (by omega)] at hr
        cases hr
    obtain ⟨⟨⟨g1, g2⟩, ⟨g3, g4⟩, g5⟩, -⟩ := sp_e_good f 3 lv _ .nil q u (by omega) x0.2 (by omega) hr
    simp only [show ¬ (3 = 5 ∨ 3 = 6) by omega, if_false] at g1 g5
    intro m' a' p1 k1 k2 k3 k4 k5 k6 k7
    exact Or.inr ⟨rfl, m', a', rfl, i5 d lv q p1 b 0 u m' a' U A P ⟨cCx_tr hC k1 k4, ⟨k2.2, k3⟩, k2.1, by omega⟩ hlv2 (by omega) (by omega) (by omega) ⟨g4, k5, k6⟩ k7 (cPost_tr hpost k1 k4 (Nat.le_refl _))⟩
theorem cT6_step {f : Nat} (i4 : cT l w n V th nm tx 4 cq_m_Reader_unary f) (i6 : cTl l w n V th nm tx 6 cq_T55 f) : cTl l w n V th nm tx 6 cq_T55 (f + 1) :=
  cTl_step (c := 38) (cI := 38) (Or.inl ⟨rfl, rfl⟩) rfl (fun d m a => k55_17 d m a) (fun k lv p t => sp_e6 k lv p t) i4 i6
theorem cT5_step {f : Nat} (i3 : cT l w n V th nm tx 3 cq_m_Reader_conjunction f) (i5 : cTl l w n V th nm tx 5 cq_T54 f) : cTl l w n V th nm tx 5 cq_T54 (f + 1) :=
  cTl_step (c := 124) (cI := 124) (Or.inr ⟨rfl, rfl⟩) rfl (fun d m a => k54_17 d m a) (fun k lv p t => sp_e5 k lv p t) i3 i5
theorem cT4_step {f : Nat} (i0 : cT l w n V th nm tx 0 cq_m_Reader_expression f) (i4 : cT l w n V th nm tx 4 cq_m_Reader_unary f) : cT l w n V th nm tx 4 cq_m_Reader_unary (f + 1) := by
  intro D lv p p0 b m a U A P hpre hlv hf hD hcnt hpost
  obtain ⟨hC, ⟨hat, hp0, hpx⟩, hs, hb⟩ := hpre
  have hC' := hC
  obtain ⟨⟨hn, hV⟩, ⟨hlen, hth, hvs⟩, htx, hnm⟩ := hC'
  have x0 := sp_x_le (tx := tx) hp0
  rw [hpx] at x0
  have hpp : sp_x tx n p = p := by rw [← hpx]; exact sp_x_x hp0
  obtain ⟨d, rfl⟩ : ∃ d, D = d + 4 := ⟨D - 4, by omega⟩
  have hm1 : Cm m (upd m c_R_at (nI p)) := Cm_up (Cm_refl m) _ (by decide)
  refine cc_unary (d + 2) m a hn hp0 hat hlen (by omega) P (fun h30 => ?_) (fun h30 => ?_)
  · rw [htx, hpx]
    rw [sp_e_30 h30 (by omega)] at hpost
    exact hpost _ a b (Cm_up hm1 _ (by decide)) rfl ⟨hs, by omega⟩ (Ce_refl a 0)
  rw [htx, hpx]
  rw [sp_e4, if_neg (by omega)] at hpost
  have hat1 : (upd m c_R_at (nI p)) c_R_at = nI p := rfl
  have hs1 : (upd m c_R_at (nI p)) c_P_size = nI b := hs
  have hth1 : (upd m c_R_at (nI p)) c_R_there = th := hth
  have hvs1 : (upd m c_R_at (nI p)) c_V_size = nI V := hvs
  have hC1 : cCx n V th nm tx (upd m c_R_at (nI p)) a := cCx_tr hC hm1 (Ce_refl a b)
  generalize upd m c_R_at (nI p) = m1 at *
  by_cases h40 : sp_c tx n p = 40
  · rw [if_pos h40] at hpost
    rw [h40]
    have hpn := sp_c_lt h40 (by decide)
    have x1 := sp_x_le (tx := tx) (n := n) (p := p + 1) (by omega)
    have hm2 : Cm m (upd m1 c_R_at (nI (p + 1))) := Cm_up hm1 _ (by decide)
    refine cu_open (d + 3) m1 a hat1 P ?_
    refine i0 (d + 3) (lv + 1) (sp_x tx n (p + 1)) (p + 1) b _ a U A _ ⟨cCx_tr hC hm2 (Ce_refl a b), ⟨rfl, by omega, rfl⟩, hs1, by omega⟩ (by omega) (by omega) (by omega) hcnt ?_
    cases hr : sp_e tx n nm f 0 (lv + 1) (sp_x tx n (p + 1)) .nil with
    | inl q =>
      rw [hr] at hpost
      exact fun m' a' B k1 k2 k3 k4 => Or.inl ⟨rfl, hpost m' a' B (Cm_trans hm2 k1) k2 k3 k4⟩
    | inr qu =>
      obtain ⟨q, u⟩ := qu
      rw [hr] at hpost
      obtain ⟨⟨⟨g1, g2⟩, ⟨g3, g4⟩, g5⟩, -⟩ := sp_e_good f 0 (lv + 1) _ .nil q u (by omega) x1.2 (by omega) hr
      simp only [show ¬ (0 = 5 ∨ 0 = 6) by omega, if_false] at g1 g5
      intro m' a' p1 k1 k2 k3 k4 k5 k6 k7
      refine Or.inr ⟨rfl, m', a', rfl, ?_⟩
      have hm3 := Cm_trans hm2 k1
      obtain ⟨-, ⟨hlen3, -, -⟩, htx3, -⟩ := cCx_tr hC hm3 k4
      refine cc_expect (d + 1) m' a' hn k3.1 k2.2 hlen3 41 _ (fun e => ?_) (fun e => ?_)
      · rw [htx3, k3.2] at e ⊢
        have hpost : cPost l w n th tx U A P m a b (.inr (sp_x tx n (q + 1), u)) := by
          have h := hpost
          unfold sp_b at h
          simp only [e, if_true] at h
          exact h
        have hqn := sp_c_lt e (by decide)
        exact Or.inr ⟨rfl, hpost _ a' (q + 1) (Cm_up hm3 _ (by decide)) ⟨k2.1, rfl⟩ ⟨by omega, rfl⟩ k4 k5 k6 k7⟩
      · rw [htx3, k3.2] at e ⊢
        have hpost : cF l w P m a q := by
          have h := hpost
          unfold sp_b at h
          simp only [e, if_false] at h
          exact h
        exact Or.inl ⟨rfl, hpost _ a' (b + sp_z u) (Cm_up (Cm_up hm3 _ (by decide)) _ (by decide)) rfl ⟨k2.1, by omega⟩ (Ce_trans (Ce_refl a 0) k4 (Nat.zero_le _))⟩
  rw [if_neg h40] at hpost
  by_cases h33 : sp_c tx n p = 33
  · rw [if_pos h33] at hpost
    rw [h33]
    have hpn := sp_c_lt h33 (by decide)
    have x1 := sp_x_le (tx := tx) (n := n) (p := p + 1) (by omega)
    refine cu_not (d + 1) m1 a (by omega) hs1 hat1 P ?_
    obtain ⟨n1, n2⟩ := apA_ndC a b 33 p 0 (-1) th (by decide) (by omega) (by decide)
    have hCa : Ce a (apA a b 33 (nI p) (-1) th) b := Ce_ap (Ce_refl a b) (Nat.le_refl _) _ _ _ _
    have eu : (apA a b 33 (nI p) (-1) th) c_V_uses = a c_V_uses := rfl
    have ea : (apA a b 33 (nI p) (-1) th) c_V_assigns = a c_V_assigns := rfl
    rw [hth1]
    have n1 : ndC (apA a b 33 (nI p) (-1) th) b (sp_n 33 p 0) (b + 1) := n1
    have n2 : unf (apA a b 33 (nI p) (-1) th) th b := n2
    generalize apA a b 33 (nI p) (-1) th = a2 at *
    have hm2 : Cm m (upd (upd m1 c_P_size (nI (b + 1))) c_R_at (nI (p + 1))) := Cm_up (Cm_up hm1 _ (by decide)) _ (by decide)
    have hcnt2 : cnt U A a2 .nil := fun x hx => by rw [eu, ea]; exact hcnt x hx
    refine i4 (d + 3) (lv + 1) (sp_x tx n (p + 1)) (p + 1) (b + 1) _ a2 U A _ ⟨cCx_tr hC hm2 hCa, ⟨rfl, by omega, rfl⟩, rfl, by omega⟩ (by omega) (by omega) (by omega) hcnt2 ?_
    cases hr : sp_e tx n nm f 4 (lv + 1) (sp_x tx n (p + 1)) .nil with
    | inl q =>
      rw [hr] at hpost
      exact fun m' a' B k1 k2 k3 k4 => Or.inl ⟨rfl, hpost m' a' B (Cm_trans hm2 k1) k2 k3 (Ce_trans (Ce_trans (Ce_refl a 0) hCa (Nat.zero_le _)) k4 (Nat.le_refl _))⟩
    | inr qu =>
      obtain ⟨q, u⟩ := qu
      rw [hr] at hpost
      obtain ⟨⟨⟨g1, g2⟩, ⟨g3, g4⟩, g5⟩, -⟩ := sp_e_good f 4 (lv + 1) _ .nil q u (by omega) x1.2 (by omega) hr
      simp only [show ¬ (4 = 5 ∨ 4 = 6) by omega, if_false] at g1 g5
      intro m' a' p1 k1 k2 k3 k4 k5 k6 k7
      refine Or.inr ⟨rfl, m', a', rfl, ?_⟩
      refine cc_close (d + 1) m' a' (p := b) (b := b + 1 + sp_z u) (by omega) (by omega) k2.1 _ ⟨rfl, ?_⟩
      have hne : ∀ j i, b + 1 ≤ i → (up2 a' c_P_end b (nI (b + 1 + sp_z u))) j i = a' j i := fun j i hi => up2_ne _ _ (fun q => by have := q.2; omega)
      have ez : b + sp_z (.tag (sp_n 33 p 0) u) = b + 1 + sp_z u := by simp only [sp_z]; omega
      refine hpost m' _ p1 (Cm_trans hm2 k1) ⟨by rw [ez]; exact k2.1, k2.2⟩ k3 (Ce_up (Ce_trans hCa k4 (by omega)) _ (by decide) (Nat.le_refl _)) ⟨⟨⟨?_, ?_⟩, ?_, ?_⟩, PrE_same u _ (fun i i1 _ => ⟨⟨hne _ _ i1, hne _ _ i1⟩, hne _ _ i1, hne _ _ i1⟩) k5⟩ (fun i i1 i2 => ?_) (fun x hx => ?_)
      · exact (up2_ne _ _ (fun q => absurd q.1 (by decide))).trans ((Ce_row k4 (by decide) (by omega)).trans n1.1.1)
      · exact (up2_ne _ _ (fun q => absurd q.1 (by decide))).trans ((Ce_row k4 (by decide) (by omega)).trans n1.1.2)
      · exact (up2_ne _ _ (fun q => absurd q.1 (by decide))).trans ((Ce_row k4 (by decide) (by omega)).trans n1.2.1)
      · exact up2_eq _ _ _ _
      · rw [ez] at i2
        have hun : unf a' th i := by
          by_cases e : i = b
          · rw [e]; exact unf_Ce k4 (by omega) n2
          · exact k6 i (by omega) i2
        exact ⟨⟨(up2_ne _ _ (fun q => absurd q.1 (by decide))).trans hun.1.1, (up2_ne _ _ (fun q => absurd q.1 (by decide))).trans hun.1.2⟩, ⟨(up2_ne _ _ (fun q => absurd q.1 (by decide))).trans hun.2.1.1, (up2_ne _ _ (fun q => absurd q.1 (by decide))).trans hun.2.1.2⟩, (up2_ne _ _ (fun q => absurd q.1 (by decide))).trans hun.2.2.1, (up2_ne _ _ (fun q => absurd q.1 (by decide))).trans hun.2.2.2⟩
      · have e1 : cU x (.tag (sp_n 33 p 0) u) = cU x u := by
          show (if sp_v (sp_n 33 p 0) = x + 1 ∧ ¬ sp_s (sp_n 33 p 0) = 61 then 1 else 0) + cU x u = _
          rw [sp_v_n (by decide) (by omega), if_neg (by omega)]; omega
        have e2 : cA x (.tag (sp_n 33 p 0) u) = cA x u := by
          show (if sp_v (sp_n 33 p 0) = x + 1 ∧ sp_s (sp_n 33 p 0) = 61 then 1 else 0) + cA x u = _
          rw [sp_v_n (by decide) (by omega), if_neg (by omega)]; omega
        rw [e1, e2]
        exact k7 x hx
  rw [if_neg h33] at hpost
  refine cu_leaf (d + 3) (cs m1 a l w) (nI lv) (sp_c tx n p) m1 a h40 h33 P ?_
  by_cases hnmc : sp_nm (sp_c tx n p)
  · rw [if_pos hnmc] at hpost
    have hpn := sp_nm_lt hnmc
    obtain ⟨u, hu, -, hcl, hcn⟩ := nm_u hnmc
    rw [hcl] at hpost
    obtain ⟨hf1, hf2⟩ := hnm u hu
    by_cases hv : nm u = -1
    · rw [if_pos hv] at hpost
      refine cc_leaf_bad (d + 1) m1 a hV hvs1 (sp_c tx n p) ⟨fun q => ?_, fun q => ?_, fun q => ?_⟩ (fun _ => by rw [hth1, hcn, hf1]; exact hv) _ (Or.inl ⟨rfl, ?_⟩)
      · rw [q] at hnmc; exact absurd hnmc (by decide)
      · rw [q] at hnmc; exact absurd hnmc (by decide)
      · rw [q] at hnmc; exact absurd hnmc (by decide)
      · exact hpost _ a b (Cm_up hm1 _ (by decide)) hat1 ⟨hs1, by omega⟩ (Ce_refl a 0)
    · rw [if_neg hv] at hpost
      obtain ⟨v, hv12, hvv⟩ := hf2.resolve_left hv
      rw [hvv, nI_clamp (by omega)] at hpost
      refine cc_leaf_var d m1 a hV hvs1 (by omega) hs1 hat1 (sp_c tx n p) hnmc (by rw [hth1, hcn, hf1]; exact hvv) hv12 _ (Or.inr ⟨rfl, ?_⟩)
      rw [hth1]
      have hcn' := hcn
      generalize sp_c tx n p = c at *
      subst hcn
      rw [nI_clamp (by omega)] at hpost
      obtain ⟨n1, n2⟩ := apA_ndC a b (u + 97) p (v + 1) (nI v) th (by omega) (by omega) (nI_pred v).symm
      have hCa : Ce a (apA a b (nI (u + 97)) (nI p) (nI v) th) b := Ce_ap (Ce_refl a b) (Nat.le_refl _) _ _ _ _
      have eu : (apA a b (nI (u + 97)) (nI p) (nI v) th) c_V_uses = a c_V_uses := rfl
      have ea : (apA a b (nI (u + 97)) (nI p) (nI v) th) c_V_assigns = a c_V_assigns := rfl
      generalize apA a b (nI (u + 97)) (nI p) (nI v) th = a2 at *
      refine hpost _ _ (p + 1) (Cm_up (Cm_up hm1 _ (by decide)) _ (by decide)) ⟨rfl, rfl⟩ ⟨by omega, rfl⟩ (Ce_us hCa _ (by decide)) ⟨⟨⟨?_, ?_⟩, ?_, ?_⟩, trivial⟩ (fun i i1 i2 => ?_) (fun x hx => ?_)
      · exact (up2_ne _ _ (fun q => absurd q.1 (by decide))).trans n1.1.1
      · exact (up2_ne _ _ (fun q => absurd q.1 (by decide))).trans n1.1.2
      · exact (up2_ne _ _ (fun q => absurd q.1 (by decide))).trans n1.2.1
      · exact (up2_ne _ _ (fun q => absurd q.1 (by decide))).trans n1.2.2
      · simp only [sp_z] at i2
        rw [show i = b by omega]
        exact ⟨⟨(up2_ne _ _ (fun q => absurd q.1 (by decide))).trans n2.1.1, (up2_ne _ _ (fun q => absurd q.1 (by decide))).trans n2.1.2⟩, ⟨(up2_ne _ _ (fun q => absurd q.1 (by decide))).trans n2.2.1.1, (up2_ne _ _ (fun q => absurd q.1 (by decide))).trans n2.2.1.2⟩, (up2_ne _ _ (fun q => absurd q.1 (by decide))).trans n2.2.2.1, (up2_ne _ _ (fun q => absurd q.1 (by decide))).trans n2.2.2.2⟩
      · obtain ⟨q1, q2⟩ := hcnt x hx
        have e1 : cU x (.tag (sp_n (u + 97) p (v + 1)) .nil) = if x = v then 1 else 0 := by
          show (if sp_v (sp_n (u + 97) p (v + 1)) = x + 1 ∧ ¬ sp_s (sp_n (u + 97) p (v + 1)) = 61 then 1 else 0) + 0 = _
          rw [sp_v_n (by omega) (by omega), sp_s_n (by omega) (by omega)]
          by_cases e : x = v
          · rw [if_pos e, if_pos (by omega)]
          · rw [if_neg e, if_neg (by omega)]
        have e2 : cA x (.tag (sp_n (u + 97) p (v + 1)) .nil) = 0 := by
          show (if sp_v (sp_n (u + 97) p (v + 1)) = x + 1 ∧ sp_s (sp_n (u + 97) p (v + 1)) = 61 then 1 else 0) + 0 = _
          rw [sp_v_n (by omega) (by omega), sp_s_n (by omega) (by omega), if_neg (by omega)]
        rw [e1, e2]
        refine ⟨?_, ?_⟩
        · by_cases e : x = v
          · rw [e, up2_eq, if_pos rfl]
            rw [e] at q1
            rw [q1]
            show U v + nI 0 + 1 = U v + nI 1
            rw [show nI 0 = 0 from rfl, Int32.add_zero]
            rfl
          · rw [if_neg e, up2_ne _ _ (fun q => e q.2), eu, q1]
            rfl
        · rw [up2_ne _ _ (fun q => absurd q.1 (by decide)), ea, q2]
          rfl
  · rw [if_neg hnmc] at hpost
    by_cases hlf : sp_c tx n p = 48 ∨ sp_c tx n p = 49 ∨ sp_c tx n p = 35
    · rw [if_pos hlf] at hpost
      have hpn : p < n := by rcases hlf with hc | hc | hc <;> exact sp_c_lt hc (by decide)
      obtain ⟨s, hs256, hcs⟩ : ∃ s, s < 256 ∧ sp_c tx n p = nI s := by
        rcases hlf with e | e | e
        · exact ⟨48, by decide, e⟩
        · exact ⟨49, by decide, e⟩
        · exact ⟨35, by decide, e⟩
      refine cc_leaf_lit d m1 a (by omega) hs1 hat1 (sp_c tx n p) hlf _ (Or.inr ⟨rfl, ?_⟩)
      rw [hth1]
      generalize sp_c tx n p = c at *
      subst hcs
      rw [nI_clamp (by omega)] at hpost
      obtain ⟨n1, n2⟩ := apA_ndC a b s p 0 (-1) th hs256 (by omega) (by decide)
      have hCa : Ce a (apA a b (nI s) (nI p) (-1) th) b := Ce_ap (Ce_refl a b) (Nat.le_refl _) _ _ _ _
      have eu : (apA a b (nI s) (nI p) (-1) th) c_V_uses = a c_V_uses := rfl
      have ea : (apA a b (nI s) (nI p) (-1) th) c_V_assigns = a c_V_assigns := rfl
      generalize apA a b (nI s) (nI p) (-1) th = a2 at *
      refine hpost _ _ (p + 1) (Cm_up (Cm_up hm1 _ (by decide)) _ (by decide)) ⟨rfl, rfl⟩ ⟨by omega, rfl⟩ hCa ⟨n1, trivial⟩ (fun i i1 i2 => ?_) (fun x hx => ?_)
      · simp only [sp_z] at i2
        rw [show i = b by omega]
        exact n2
      · obtain ⟨q1, q2⟩ := hcnt x hx
        have e1 : cU x (.tag (sp_n s p 0) .nil) = 0 := by
          show (if sp_v (sp_n s p 0) = x + 1 ∧ ¬ sp_s (sp_n s p 0) = 61 then 1 else 0) + 0 = _
          rw [sp_v_n hs256 (by omega), if_neg (by omega)]
        have e2 : cA x (.tag (sp_n s p 0) .nil) = 0 := by
          show (if sp_v (sp_n s p 0) = x + 1 ∧ sp_s (sp_n s p 0) = 61 then 1 else 0) + 0 = _
          rw [sp_v_n hs256 (by omega), if_neg (by omega)]
        rw [e1, e2, eu, ea]
        exact ⟨q1, q2⟩
    · rw [if_neg hlf] at hpost
      refine cc_leaf_bad (d + 1) m1 a hV hvs1 (sp_c tx n p) ⟨fun q => hlf (Or.inl q), fun q => hlf (Or.inr (Or.inl q)), fun q => hlf (Or.inr (Or.inr q))⟩ (fun q => absurd q hnmc) _ (Or.inl ⟨rfl, ?_⟩)
      exact hpost _ a b (Cm_up hm1 _ (by decide)) hat1 ⟨hs1, by omega⟩ (Ce_refl a 0)
end CU
