theorem cC_to_le {a : Nat → Nat → Int32} {b j L : Nat} : ∀ (cx : cx_T) (w : Nat), cxC a b cx → w ≤ b → cx_to j L w cx ≤ b
  | [], w, _, _ => Nat.zero_le _
  | (i, s, m) :: r, w, hc, hw => by
    have e2 : cx_to j L w ((i, s, m) :: r) = if m = L then (if j = 66 then i + 1 else w) else cx_to j L (if is_lp s then i + 1 else 0) r := rfl
    rw [e2]
    have hi := hc.1.1.2
    have ih := cC_to_le (j := j) (L := L) r (if is_lp s then i + 1 else 0) hc.2 (by split <;> omega)
    split
    · split <;> omega
    · exact ih
theorem cC_near_le {a : Nat → Nat → Int32} {b j : Nat} : ∀ (cx : cx_T), cxC a b cx → cx_near j cx ≤ b
  | [], _ => Nat.zero_le _
  | (i, s, m) :: r, hc => by
    have e2 : cx_near j ((i, s, m) :: r) = if is_lp s ∨ (j = 66 ∧ s = 83) then i + 1 else cx_near j r := rfl
    rw [e2]
    have hi := hc.1.1.2
    have ih := cC_near_le (j := j) r hc.2
    split
    · omega
    · exact ih
section KN
variable {l : Nat → Nat → Int64} {w : Int64} {tx : Nat → Int32} {n : Nat} {D : Nat} {P : pv_R} {m m1 : Nat → Int32} {a a1 : Nat → Nat → Int32} {cx : cx_T} {b p p1 V x f : Nat} {sc : sc_T}
theorem cSt_C {m : Nat → Int32} {a a' : Nat → Nat → Int32} {cx : cx_T} {b p V B k W : Nat} {sc : sc_T} (h : cSt tx n m a cx b p V sc) (ha : Cs a a' B k W) (hk : cx.length ≤ k) (hW : V ≤ W) : cSt tx n m a' cx b p V sc :=
  cSt_fr h rfl h.1.2.2.1 h.1.2.2.2 ⟨Nat.le_refl _, h.1.1.2⟩ ha hk h.2.1.1 h.2.1.2 (Nat.le_refl _) ⟨scC_mono (Nat.le_refl _) (fun v hv => Cs_vr ha (by decide) (by omega)) sc h.2.2.2.2.1, h.2.2.2.2.2⟩
theorem k_jend {E s tv p2 : Nat} {m2 : Nat → Int32} (hs : s = 66 ∨ s = 67) (kp : kPre tx n m m1 a a1 cx b p p1 V sc s 0) (hx : x < 4) (hD : 2 ≤ D) (hE : 2 ≤ E) (htv : 1 ≤ tv) (hM : Cms m1 m2) (hS : cSt tx n m2 a1 ((b, s, 0) :: cx) (b + 1) p2 V sc)
    (h : rP (cFs l w (kR l w E b P) m a) (sQ l w tx n P m a cx b V sc x) (st_x tx n 59 p2 fun q => .inr (q, V, sc, .tag (sp_n s p (2 * tv + x / 2)) .nil))) :
    pv_call cq_mt D cq_m_Reader_expect [.ref 3, .int 59] (cs m2 (up2 a1 c_P_target b (nI (tv - 1))) l w) (bz (kR l w E b P)) := by
  obtain ⟨⟨k1, k2, k3⟩, ⟨k4, k5, k6⟩, k7, k8, k9⟩ := kp
  have hn := k1.1.1.1
  have hC : Cs a1 (up2 a1 c_P_target b (nI (tv - 1))) b (cx.length + 1) V := Cs_p (Cs_refl _ _ _ _) _ (by decide) (Nat.le_refl _)
  have hC0 : Cs a (up2 a1 c_P_target b (nI (tv - 1))) b cx.length V := Cs_trans k3 hC (Nat.le_refl _) (Nat.le_succ _) (Nat.le_refl _)
  refine bz_bq (l := l) (w := w) (x_expect (tx := tx) (n := n) (by omega) (cSt_C hS hC (by simp only [List.length_cons]; omega) (Nat.le_refl _)) (by omega) (by decide) (Cms_trans k2 hM) (Cs_le hC0 (Nat.zero_le _) (Nat.zero_le _) (Nat.zero_le _)) h (fun m3 j1 j2 j3 j4 => ?_))
  obtain ⟨⟨⟨h1, h2⟩, h3, h4⟩, ⟨h5, h6, h7⟩, h8, h9⟩ := k4
  have n0 := pl_n (s := s) (p := p) (pl := tv) (z := x / 2) (by omega) (by omega) (by omega)
  have o := fun j (hj : ¬ j = 11) => congrFun (up2_row (a := a1) (j := c_P_target) (i := b) (x := nI (tv - 1)) (j2 := j) hj) b
  refine k_fin (by omega) ⟨_, rfl⟩ (by simp only [sp_z]; omega) j4 (Cms_trans k2 (Cms_trans hM j1)) j2 hC0 ?_ ((o 14 (by omega)).trans h8) (cnR_t (by rw [n0.1]; unfold stS; omega) ?_)
  · have nd := ndT_mk (a := up2 a1 c_P_target b (nI (tv - 1))) (W := V) (b := b) (s := s) (p := p) (pl := tv) (z := x / 2) (e := b + 1 + sp_z .nil) (sc := sc) (by omega) (by omega) (by omega) ⟨(o 2 (by omega)).trans h1, (o 3 (by omega)).trans h2⟩ ((o 5 (by omega)).trans h4) (fun q => by omega) (fun _ => (o 4 (by omega)).trans h3) (fun _ => ⟨htv, up2_at _ _ _ _⟩) (fun q => absurd hs q)
    have r := fun j (hj : ¬ (j = 6 ∨ j = 14)) => clE_o (a := up2 a1 c_P_target b (nI (tv - 1))) (b := b) (e := nI (b + 1 + sp_z .nil)) (z := nI (x / 2)) (j := j) (i := b) (fun q => hj q.2)
    unfold PrS
    rw [if_pos (by rw [n0.1]; unfold stS; omega)]
    refine ⟨⟨nd, ?_⟩, ?_⟩
    · unfold skT
      rw [if_neg (by rw [n0.1]; omega), r c_P_isSkipped (by decide)]
      exact (o 15 (by omega)).trans h9
    · rw [if_neg (by rw [n0.1]; omega), r c_P_catchFrom (by decide), r c_P_finallyFrom (by decide)]
      exact ⟨⟨(o 12 (by omega)).trans h6, (o 13 (by omega)).trans h7⟩, trivial⟩
  · refine cnR_a (a := a) ((up2_row (by decide)).trans k5) ((up2_row (by decide)).trans k6) (cnR_0 (fun _ => ⟨rfl, rfl⟩))
theorem lb_nI {c : Int32} (h : sp_lb c) : c.toNatClampNeg < 256 ∧ ¬ c.toNatClampNeg = 0 ∧ c = nI c.toNatClampNeg := by
  have h0 : ¬ c < 0 := fun q => absurd (Int32.lt_of_le_of_lt h.1 q) (by decide)
  obtain ⟨j, hj, rfl⟩ := nI_of h0
  have h1 : (nI 50) ≤ nI j := h.1
  have h2 : nI j ≤ nI 57 := h.2
  rw [nI_leI (by omega) hj] at h1
  rw [nI_leI hj (by omega)] at h2
  rw [nI_clamp hj]
  exact ⟨by omega, by omega, rfl⟩
theorem kc_jump {s : Nat} (hs : s = 66 ∨ s = 67) (kp : kPre tx n m m1 a a1 cx b p p1 V sc s 0) (hpp : p + 1 ≤ p1) (hrow : a1 c_R_sortAround cx.length = nI s) (hx : x < 4) (hD : 4 * (20 - cx.length) + 168 ≤ D)
    (h : rP (cFs l w (kR l w (D + 1) b P) m a) (sQ l w tx n P m a cx b V sc x) (if sp_lb (sp_c tx n p1) then
          if cx_to s (sp_c tx n p1).toNatClampNeg 0 cx = 0 then .inl p1
          else st_x tx n 59 (sp_x tx n (p1 + 1)) fun q => .inr (q, V, sc, .tag (sp_n s p (2 * cx_to s (sp_c tx n p1).toNatClampNeg 0 cx + x / 2)) .nil)
        else if cx_near s cx = 0 then .inl p1
        else st_x tx n 59 p1 fun q => .inr (q, V, sc, .tag (sp_n s p (2 * cx_near s cx + x / 2)) .nil))) :
    pv_go cq_T39 1 (pv_call cq_mt D) (kR l w (D + 1) b P) (366, rL b (nI s) cx.length, [], cs m1 a1 l w) := by
  obtain ⟨d, rfl⟩ := Nat.exists_eq_add_of_le' (show 5 ≤ D by omega)
  have hk := kp.2.2
  have hS := kp.1.1
  have hn := hS.1.1.1
  have hp := cSt_p hS
  obtain ⟨p0, e1, e2, e3⟩ := hS.2.1.1
  have htx := hS.2.2.1
  have hcx : cxC a1 (b + 1) cx := hS.2.2.2.1.1.2
  have hM1 : Cms m1 (upd m1 c_R_at (nI p1)) := Cms_up (Cms_refl _) _ (by decide)
  have hS1 : cSt tx n (upd m1 c_R_at (nI p1)) a1 ((b, s, 0) :: cx) (b + 1) p1 V sc := ⟨hS.1, ⟨⟨p1, rfl, hp.1, hp.2⟩, hS.2.1.2⟩, hS.2.2⟩
  have hfault : cFs l w (kR l w (d + 5 + 1) b P) m a p1 → kR l w (d + 5 + 1) b P (some (.int 0)) (cs (upd (upd m1 c_R_at (nI p1)) c_R_faultAt (nI p1)) a1 l w) := fun hF =>
    hF _ _ (b + 1) (Cms_trans kp.1.2.1 (Cms_up (Cms_up (Cms_refl _) _ (by decide)) _ (by decide))) rfl ⟨hS.2.1.2, by omega⟩ (kp_g kp)
  refine r366 (d + 5) m1 a1 b _ cx.length _ ?_
  have key : pv_call cq_mt (d + 5) cq_m_Reader_jump [.ref 3, .int (nI b), .int (nI s), .int (nI cx.length)] (cs m1 a1 l w) (bz (kR l w (d + 5 + 1) b P)) := by
    refine cc_jump (d + 1) m1 a1 hn e2 e1 hS.1.2.1 (b := b) (B := b + 1) (Nat.lt_succ_self _) (by omega) hS.2.1.2 (by omega) (nI s) _ rfl _ (fun q => ?_) (fun q => ?_) (fun q => ?_)
    · rw [htx, e3] at q ⊢
      refine Or.inl ⟨rfl, hfault ?_⟩
      rw [if_neg (fun e => q (Or.inl e))] at h
      by_cases c : cx_near s cx = 0
      · rw [if_pos c] at h; exact h
      · rw [if_neg c] at h
        unfold st_x at h
        rw [if_neg (fun e => q (Or.inr e))] at h
        exact h
    · rw [htx, e3] at q ⊢
      obtain ⟨l1, l2, l3⟩ := lb_nI q
      rw [if_pos q] at h
      have hlp : ¬ (cx.length < 20 ∧ lpI (a1 c_R_sortAround cx.length)) := by
        rintro ⟨-, h2⟩
        rw [hrow, lpI_nI (by omega)] at h2
        omega
      have ht := to_cx (a := a1) (b := b + 1) (L := (sp_c tx n p1).toNatClampNeg) (j := s) l1 l2 cx 0 hcx (by omega) (fun q => absurd q hlp) (fun _ => rfl) (by omega)
      rw [← l3] at ht
      have fin : ∀ T : Int32, (T = -1 ∧ cx_to s (sp_c tx n p1).toNatClampNeg 0 cx = 0) ∨ (1 ≤ cx_to s (sp_c tx n p1).toNatClampNeg 0 cx ∧ T = nI (cx_to s (sp_c tx n p1).toNatClampNeg 0 cx - 1)) → pv_go cq_T48 1 (pv_call cq_mt (d + 4)) (bz (kR l w (d + 5 + 1) b P)) (51, jL4 b (nI s) cx.length (sp_c tx n p1), [.int T], cs (upd m1 c_R_at (nI p1)) a1 l w) := by
        intro T hT
        have hle := cC_to_le (a := a1) (b := b + 1) (j := s) (L := (sp_c tx n p1).toNatClampNeg) cx 0 hcx (Nat.zero_le _)
        refine cj_51 (d + 3) (upd m1 c_R_at (nI p1)) a1 (b := b) (B := b + 1) (q := p1) (Nat.lt_succ_self _) (by omega) hS.2.1.2 rfl (nI s) cx.length _ T _ (fun e => ?_) (fun e => ?_)
        · refine Or.inl ⟨rfl, hfault ?_⟩
          rcases hT with hT | hT
          · rw [if_pos hT.2] at h; exact h
          · rw [hT.2] at e; exact absurd e (nI_ne_m1 (by omega))
        · rcases hT with hT | hT
          · exact absurd hT.1 e
          · rw [if_neg (by omega)] at h
            rw [hT.2, if_pos q, show upd (upd m1 c_R_at (nI p1)) c_R_at (nI (p1 + 1)) = upd m1 c_R_at (nI (p1 + 1)) from upd_upd _ _ _ _]
            have hx1 : p1 < n := by
              have := sp_lb_c q
              exact sp_c_lt rfl this
            refine bz_bq (l := l) (w := w) (pv_call_cm _ _ _ _ _ _ _ (fun o S h => ?_) (k_jend hs kp hx (by omega) (by omega) hT.1 (Cms_up (Cms_refl _) _ (by decide)) (cSt_at hS (p1 := p1 + 1) (by omega)) h))
            rcases h with ⟨h1, h2⟩ | ⟨h1, h2⟩
            · exact Or.inl ⟨h1, Or.inl ⟨rfl, h2⟩⟩
            · rcases h2 with ⟨h2, _⟩ | ⟨h2, m2, a2, rfl, h3⟩
              · cases h2
              · exact Or.inr ⟨h1, m2, a2, rfl, Or.inr ⟨rfl, Or.inr ⟨rfl, m2, a2, rfl, h3⟩⟩⟩
      rcases ht with ⟨t1, t2⟩ | ⟨i, t1, t2, t3, t4⟩
      · exact cc_lab_no (d + 1) _ a1 (by omega) _ _ t1 _ ⟨-1, rfl, rfl, fin _ (Or.inl ⟨rfl, t2⟩)⟩
      · rcases hs with hs' | hs'
        · subst hs'
          obtain ⟨t5, t6⟩ := t3 rfl
          refine cc_lab_B (d + 1) _ a1 (by omega) (by omega) _ t2 _ ⟨_, rfl, rfl, fin _ (Or.inr ⟨t5, t6⟩)⟩
        · subst hs'
          obtain ⟨t5, t6⟩ := t4 (by omega)
          refine cc_lab_C (d + 1) _ a1 (by omega) (by omega) _ _ (by decide) t2 _ (fun u1 u2 => ⟨_, rfl, rfl, fin _ (Or.inr (t5 ⟨u1, u2⟩))⟩) (fun u => ⟨_, rfl, rfl, fin _ (Or.inl ⟨rfl, t6 u⟩)⟩)
    · rw [htx, e3] at q ⊢
      have hnl : ¬ sp_lb (sp_c tx n p1) := by rw [q]; decide
      rw [if_neg hnl] at h
      have hle := cC_near_le (a := a1) (b := b + 1) (j := s) cx hcx
      rw [near_cx (by omega) cx hcx, q]
      refine cj_51 (d + 3) (upd m1 c_R_at (nI p1)) a1 (b := b) (B := b + 1) (q := p1) (Nat.lt_succ_self _) (by omega) hS.2.1.2 rfl (nI s) cx.length _ _ _ (fun e => ?_) (fun e => ?_)
      · refine Or.inl ⟨rfl, hfault ?_⟩
        by_cases c : cx_near s cx = 0
        · rw [if_pos c] at h; exact h
        · rw [if_neg c] at e; exact absurd e (nI_ne_m1 (by omega))
      · by_cases c : cx_near s cx = 0
        · rw [if_pos c] at e; exact absurd rfl e
        · rw [if_neg c] at h
          rw [if_neg c, if_neg (by decide), show upd (upd m1 c_R_at (nI p1)) c_R_at (nI p1) = upd m1 c_R_at (nI p1) from upd_upd _ _ _ _]
          refine bz_bq (l := l) (w := w) (pv_call_cm _ _ _ _ _ _ _ (fun o S h => ?_) (k_jend hs kp hx (by omega) (by omega) (by omega) hM1 hS1 h))
          rcases h with ⟨h1, h2⟩ | ⟨h1, h2⟩
          · exact Or.inl ⟨h1, Or.inl ⟨rfl, h2⟩⟩
          · rcases h2 with ⟨h2, _⟩ | ⟨h2, m2, a2, rfl, h3⟩
            · cases h2
            · exact Or.inr ⟨h1, m2, a2, rfl, Or.inr ⟨rfl, Or.inr ⟨rfl, m2, a2, rfl, h3⟩⟩⟩
  exact key
end KN
