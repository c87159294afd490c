def ndX (a : Nat → Nat → Int32) (b s p : Nat) (th ca fi sk : Int32) : Prop := ((a c_P_sort b = nI s ∧ a c_P_first b = nI p) ∧ (a c_P_named b = -1 ∧ a c_P_there b = th)) ∧ (a c_P_target b = -1 ∧ a c_P_catchFrom b = ca ∧ a c_P_finallyFrom b = fi) ∧ (a c_P_isEntered b = 0 ∧ a c_P_isSkipped b = sk)
theorem ndX_Cs {a a' : Nat → Nat → Int32} {b s p B k V : Nat} {th ca fi sk : Int32} (h : Cs a a' B k V) (hb : b < B) (hn : ndX a b s p th ca fi sk) : ndX a' b s p th ca fi sk := by
  obtain ⟨⟨⟨h1, h2⟩, h3, h4⟩, ⟨h5, h6, h7⟩, h8, h9⟩ := hn
  have r := fun j hj => Cs_row (j := j) h hj hb
  exact ⟨⟨⟨(r 2 (by omega)).trans h1, (r 3 (by omega)).trans h2⟩, (r 4 (by omega)).trans h3, (r 5 (by omega)).trans h4⟩, ⟨(r 11 (by omega)).trans h5, (r 12 (by omega)).trans h6, (r 13 (by omega)).trans h7⟩, (r 14 (by omega)).trans h8, (r 15 (by omega)).trans h9⟩
theorem ndX_ca {a : Nat → Nat → Int32} {b s p : Nat} {th ca fi sk : Int32} (x : Int32) (hn : ndX a b s p th ca fi sk) : ndX (up2 a c_P_catchFrom b x) b s p th x fi sk := by
  obtain ⟨⟨⟨h1, h2⟩, h3, h4⟩, ⟨h5, h6, h7⟩, h8, h9⟩ := hn
  have o := fun j (hj : ¬ j = 12) => congrFun (up2_row (a := a) (j := c_P_catchFrom) (i := b) (x := x) (j2 := j) hj) b
  exact ⟨⟨⟨(o 2 (by omega)).trans h1, (o 3 (by omega)).trans h2⟩, (o 4 (by omega)).trans h3, (o 5 (by omega)).trans h4⟩, ⟨(o 11 (by omega)).trans h5, up2_at _ _ _ _, (o 13 (by omega)).trans h7⟩, (o 14 (by omega)).trans h8, (o 15 (by omega)).trans h9⟩
theorem ndX_fi {a : Nat → Nat → Int32} {b s p : Nat} {th ca fi sk : Int32} (x : Int32) (hn : ndX a b s p th ca fi sk) : ndX (up2 a c_P_finallyFrom b x) b s p th ca x sk := by
  obtain ⟨⟨⟨h1, h2⟩, h3, h4⟩, ⟨h5, h6, h7⟩, h8, h9⟩ := hn
  have o := fun j (hj : ¬ j = 13) => congrFun (up2_row (a := a) (j := c_P_finallyFrom) (i := b) (x := x) (j2 := j) hj) b
  exact ⟨⟨⟨(o 2 (by omega)).trans h1, (o 3 (by omega)).trans h2⟩, (o 4 (by omega)).trans h3, (o 5 (by omega)).trans h4⟩, ⟨(o 11 (by omega)).trans h5, (o 12 (by omega)).trans h6, up2_at _ _ _ _⟩, (o 14 (by omega)).trans h8, (o 15 (by omega)).trans h9⟩
theorem ndX_sk {a : Nat → Nat → Int32} {b s p : Nat} {th ca fi sk : Int32} (x : Int32) (hn : ndX a b s p th ca fi sk) : ndX (up2 a c_P_isSkipped b x) b s p th ca fi x := by
  obtain ⟨⟨⟨h1, h2⟩, h3, h4⟩, ⟨h5, h6, h7⟩, h8, h9⟩ := hn
  have o := fun j (hj : ¬ j = 15) => congrFun (up2_row (a := a) (j := c_P_isSkipped) (i := b) (x := x) (j2 := j) hj) b
  exact ⟨⟨⟨(o 2 (by omega)).trans h1, (o 3 (by omega)).trans h2⟩, (o 4 (by omega)).trans h3, (o 5 (by omega)).trans h4⟩, ⟨(o 11 (by omega)).trans h5, (o 12 (by omega)).trans h6, (o 13 (by omega)).trans h7⟩, (o 14 (by omega)).trans h8, up2_at _ _ _ _⟩
section KT
variable {l : Nat → Nat → Int64} {w : Int64} {tx : Nat → Int32} {n : Nat} {D : Nat} {P : pv_R} {m m1 : Nat → Int32} {a a1 : Nat → Nat → Int32} {cx : cx_T} {b p p1 V x f : Nat} {sc : sc_T}
theorem k_84f {E pl q V1 : Nat} {m' : Nat → Int32} {a' : Nat → Nat → Int32} {u v z : Std.Format} {F : Nat → Prop} (hx : x < 4) (hE : 2 ≤ E) (hp : p < 256)
    (hQ : rP F (sQ l w tx n P m a cx b V sc x) (.inr (q, V1, sc, .tag (sp_n 84 p (2 * pl + x / 2)) (.append u (.append v z))))) (hM : Cms m m') (hS : cSt tx n m' a' ((b, 84, 0) :: cx) (b + 1 + sp_z u + sp_z v + sp_z z) q V1 sc) (hb : b + 1 + sp_z u + sp_z v + sp_z z ≤ 241) (hC : Cs a a' b cx.length V)
    (hnd : ndX a' b 84 p (thOf sc) (if pl % 2 = 1 then nI (b + 1 + sp_z u) else -1) (if pl / 2 = 1 then nI (b + 1 + sp_z u + sp_z v) else -1) 0) (hu : PrS a' V1 u (b + 1) sc) (hv : PrS a' V1 v (b + 1 + sp_z u) sc) (hz : PrS a' V1 z (b + 1 + sp_z u + sp_z v) sc) (hc : cnR (a c_V_uses) (a c_V_assigns) V a' V1 (.append u (.append v z))) : kR l w E b P (some (.int 1)) (cs m' a' l w) := by
  have ez : b + 1 + sp_z (.append u (.append v z)) = b + 1 + sp_z u + sp_z v + sp_z z := by simp only [sp_z]; omega
  have n0 := pl_n (s := 84) (p := p) (pl := pl) (z := x / 2) (by omega) (by omega) (by omega)
  obtain ⟨⟨⟨h1, h2⟩, h3, h4⟩, ⟨h5, h6, h7⟩, h8, h9⟩ := hnd
  refine k_fin hE ⟨_, rfl⟩ (by rw [ez]; exact hb) hQ hM (by rw [ez]; exact hS) hC ?_ h8 (cnR_t (by rw [n0.1]; unfold stS; omega) hc)
  rw [ez]
  have nd := ndT_mk (a := a') (W := V1) (b := b) (s := 84) (p := p) (pl := pl) (z := x / 2) (e := b + 1 + sp_z u + sp_z v + sp_z z) (sc := sc) (by omega) (by omega) (by omega) ⟨h1, h2⟩ h4 (fun q => by omega) (fun _ => h3) (fun q => by omega) (fun _ => h5)
  have r := fun j (hj : ¬ (j = 6 ∨ j = 14)) => clE_o (a := a') (b := b) (e := nI (b + 1 + sp_z u + sp_z v + sp_z z)) (z := nI (x / 2)) (j := j) (i := b) (fun q => hj q.2)
  unfold PrS
  rw [if_pos (by rw [n0.1]; unfold stS; omega), ez]
  refine ⟨⟨nd, ?_⟩, ?_⟩
  · unfold skT
    rw [if_neg (by rw [n0.1]; omega), r c_P_isSkipped (by decide)]
    exact h9
  · rw [if_pos n0.1]
    simp only
    rw [n0.2.2.1, r c_P_catchFrom (by decide), r c_P_finallyFrom (by decide)]
    exact ⟨⟨h6, h7⟩, PrS_clE (by omega) hu, PrS_clE (by omega) hv, PrS_clE (by omega) hz⟩
theorem rP_bz {P : pv_R} {m0 : Nat → Int32} {a0 : Nat → Nat → Int32} {Q : Nat → Nat → sc_T → Std.Format → Prop} {r : st_R} (h : rP (cFs l w P m0 a0) Q r) : rP (cFs l w (bz P) m0 a0) Q r :=
  rP_imp (fun _ _ h => fun m2 a2 B u1 u2 u3 u4 => Or.inl ⟨rfl, h m2 a2 B u1 u2 u3 u4⟩) (fun _ _ _ _ _ h => h) h
theorem kt_N (i1 : sC1 l w tx n f) {E pl q V1 : Nat} {m2 : Nat → Int32} {a2 : Nat → Nat → Int32} {u v : Std.Format} (kp : kPre tx n m m1 a a1 cx b p p1 V sc 84 0) (hpl : pl ≤ 1) (hx : x < 4) (hD : 4 * (20 - cx.length) + 167 ≤ D) (hE : 2 ≤ E) (hf : 2 * (n - q) ≤ f) (hM : Cms m m2) (hC : Cs a a2 b cx.length V) (hS : cSt tx n m2 a2 ((b, 84, 0) :: cx) (b + 1 + sp_z u + sp_z v) q V1 sc) (hV : V ≤ V1) (hbq : b + 1 + sp_z u + sp_z v ≤ q) (hc78 : sp_c tx n q = 78)
    (hnd : ndX a2 b 84 p (thOf sc) (if pl % 2 = 1 then nI (b + 1 + sp_z u) else -1) (-1) 0) (hu : PrS a2 V1 u (b + 1) sc) (hv : PrS a2 V1 v (b + 1 + sp_z u) sc) (hc : cnR (a c_V_uses) (a c_V_assigns) V a2 V1 (.append u v))
    (h : rP (cFs l w (kR l w E b P) m a) (sQ l w tx n P m a cx b V sc x) (st_x tx n 123 (sp_x tx n (q + 1)) fun q => st_b (st tx n f 1 ((b, 84, 0) :: cx) (b + 1 + sp_z u + sp_z v) q V1 sc 0) fun q V3 _ t3 => .inr (q, V3, sc, .tag (sp_n 84 p (2 * (pl + 2) + x / 2)) (.append u (.append v t3))))) :
    pv_call cq_mt D cq_m_Reader_block [.ref 3, .int (nI (cx.length + 1))] (cs (upd m2 c_R_at (nI (q + 1))) (up2 a2 c_P_finallyFrom b (nI (b + 1 + sp_z u + sp_z v))) l w) (bz (bz (kR l w E b P))) := by
  have hk := kp.2.2
  have hn := hS.1.1.1
  have hx1 := sp_c_x hc78 (by decide)
  have hC2 : Cs a2 (up2 a2 c_P_finallyFrom b (nI (b + 1 + sp_z u + sp_z v))) b (cx.length + 1) V1 := Cs_p (Cs_refl _ _ _ _) _ (by decide) (Nat.le_refl _)
  have hC0 : Cs a (up2 a2 c_P_finallyFrom b (nI (b + 1 + sp_z u + sp_z v))) b cx.length V := Cs_trans hC hC2 (Nat.le_refl _) (Nat.le_succ _) hV
  have hF2 : PrF a2 (up2 a2 c_P_finallyFrom b (nI (b + 1 + sp_z u + sp_z v))) (b + 1) 300 V1 := ⟨fun j i hj h1 h2 => up2_no (by omega), fun j i hj h1 => up2_no (by rintro ⟨e, -⟩; rw [e] at hj; exact absurd hj (by decide))⟩
  refine bz_bq (l := l) (w := w) (x_block (cx := (b, 84, 0) :: cx) (P := bz (kR l w E b P)) i1 (by simp only [List.length_cons]; omega) (cSt_C (cSt_at hS (by omega)) hC2 (by simp only [List.length_cons]; omega) (Nat.le_refl _)) (by omega) (by omega) (Cms_up hM _ (by decide)) (Cs_le hC0 (Nat.zero_le _) (Nat.zero_le _) (Nat.zero_le _)) (rP_bz h) (fun q3 V3 sc3 t3 m3 a3 g1 g2 g3 g4 g5 g6 g7 => ?_))
  refine Or.inr ⟨rfl, ?_⟩
  have hnd2 := ndX_Cs g3 (by omega) (ndX_fi (nI (b + 1 + sp_z u + sp_z v)) hnd)
  have e1 : (pl + 2) % 2 = pl % 2 := by omega
  have e2 : (pl + 2) / 2 = 1 := by omega
  refine k_84f (pl := pl + 2) hx hE (by omega) g7 (Cms_trans (Cms_up hM _ (by decide)) g1) g2 (by omega) (Cs_trans hC0 g3 (by omega) (Nat.le_succ _) hV) ?_ ?_ ?_ g5 ?_
  · rw [e1, e2, if_pos rfl]; exact hnd2
  · exact PrS_Cs g3 (Nat.le_refl _) g4.2.2.1 (by omega) (PrS_F hF2 (Nat.le_refl _) _ u (Nat.lt_succ_self _) _ sc (Nat.le_refl _) (by omega) hu)
  · exact PrS_Cs g3 (Nat.le_refl _) g4.2.2.1 (by omega) (PrS_F hF2 (Nat.le_refl _) _ v (Nat.lt_succ_self _) _ sc (by omega) (by omega) hv)
  · intro y hy
    have r1 := cnR_2 hV g4.2.2.1 hc g6 y hy
    have e1 : uS y (.append (.append u v) t3) = uS y (.append u (.append v t3)) := by simp only [uS]; omega
    have e2 : aS y (.append (.append u v) t3) = aS y (.append u (.append v t3)) := by simp only [aS]; omega
    rw [e1, e2] at r1
    exact r1
theorem rP_unz {P : pv_R} {m0 : Nat → Int32} {a0 : Nat → Nat → Int32} {Q : Nat → Nat → sc_T → Std.Format → Prop} {r : st_R} (h : rP (cFs l w (bz P) m0 a0) Q r) : rP (cFs l w P m0 a0) Q r :=
  rP_imp (fun _ _ h => fun m2 a2 B u1 u2 u3 u4 => (h m2 a2 B u1 u2 u3 u4).elim (fun e => e.2) (fun e => by cases e.1)) (fun _ _ _ _ _ h => h) h
theorem k_84 (i1 : sC1 l w tx n f) (kp : kPre tx n m m1 a a1 cx b p p1 V sc 84 0) (hb : b + 1 ≤ p1) (hpp : p + 1 ≤ p1) (hf : 2 * (n - p) ≤ f + 2) (hx : x < 4) (hD : 4 * (20 - cx.length) + 168 ≤ D)
    (h : rP (cFs l w (kR l w (D + 1) b P) m a) (sQ l w tx n P m a cx b V sc x) (st_x tx n 123 p1 fun q => st_b (st tx n f 1 ((b, 84, 0) :: cx) (b + 1) q V sc 0) fun q V1 _ t =>
          if sp_c tx n q = 75 then st_x tx n 123 (sp_x tx n (q + 1)) fun q => st_b (st tx n f 1 ((b, 84, 0) :: cx) (b + 1 + sp_z t) q V1 sc 0) fun q V2 _ t2 =>
            if sp_c tx n q = 78 then st_x tx n 123 (sp_x tx n (q + 1)) fun q => st_b (st tx n f 1 ((b, 84, 0) :: cx) (b + 1 + sp_z t + sp_z t2) q V2 sc 0) fun q V3 _ t3 => .inr (q, V3, sc, .tag (sp_n 84 p (2 * 3 + x / 2)) (.append t (.append t2 t3)))
            else .inr (q, V2, sc, .tag (sp_n 84 p (2 * 1 + x / 2)) (.append t (.append t2 .nil)))
          else st_x tx n 78 q fun q => st_x tx n 123 q fun q => st_b (st tx n f 1 ((b, 84, 0) :: cx) (b + 1 + sp_z t) q V1 sc 0) fun q V3 _ t3 => .inr (q, V3, sc, .tag (sp_n 84 p (2 * 2 + x / 2)) (.append t (.append .nil t3))))) :
    pv_go cq_T39 1 (pv_call cq_mt D) (kR l w (D + 1) b P) (358, rL b 84 cx.length, [], cs m1 a1 l w) := by
  obtain ⟨d, rfl⟩ := Nat.exists_eq_add_of_le' (show 2 ≤ D by omega)
  have hk := kp.2.2
  have hS := kp.1.1
  have hn := hS.1.1.1
  have hp := cSt_p hS
  refine r358 (d + 2) m1 a1 b _ cx.length _ (cc_tryParts d m1 a1 (t := b) (B := b + 1) (Nat.lt_succ_self _) (by omega) hS.2.1.2 (cx.length + 1) _ ?_)
  refine x_block (cx := (b, 84, 0) :: cx) i1 (by simp only [List.length_cons]; omega) hS (by omega) (by omega) kp.1.2.1 (kp_g kp) (rP_bz h) (fun q V1 sc1 t m2 a2 h1 h2 h3 h4 h5 h6 h7 => ?_)
  obtain ⟨p0, e1, e2, e3⟩ := h2.2.1.1
  have htx := h2.2.2.1
  have hq := cSt_p h2
  have hM2 := Cms_trans kp.1.2.1 h1
  have hC2 : Cs a a2 b cx.length V := Cs_trans kp.1.2.2 h3 (by omega) (Nat.le_succ _) (Nat.le_refl _)
  have hMu : Cms m2 (upd m2 c_R_at (nI q)) := Cms_up (Cms_refl _) _ (by decide)
  have hnd : ndX a2 b 84 p (thOf sc) (-1) (-1) 0 := ndX_Cs h3 (by omega) kp.2.1.1
  have hcn : cnR (a c_V_uses) (a c_V_assigns) V a2 V1 t := by
    rw [kp.2.1.2.1, kp.2.1.2.2] at h6; exact h6
  have hS2 : cSt tx n (upd m2 c_R_at (nI q)) a2 ((b, 84, 0) :: cx) (b + 1 + sp_z t) q V1 sc := ⟨h2.1, ⟨⟨q, rfl, hq.1, hq.2⟩, h2.2.1.2⟩, h2.2.2⟩
  refine tp_21 d m2 a2 hn e2 e1 h2.1.2.1 (cx.length + 1) _ (fun c => ?_) (fun c => ?_)
  · rw [htx, e3] at c ⊢
    rw [if_neg (fun e => c (Or.inl e))] at h7
    unfold st_x at h7
    rw [if_neg (fun e => c (Or.inr e))] at h7
    exact h7 _ _ (b + 1 + sp_z t) (Cms_trans hM2 (Cms_up (Cms_up (Cms_refl _) _ (by decide)) _ (by decide))) rfl ⟨h2.2.1.2, by omega⟩ (Cs_le hC2 (Nat.zero_le _) (Nat.zero_le _) (Nat.zero_le _))
  · rw [htx, e3] at c ⊢
    refine tp_43 (d + 1) (upd m2 c_R_at (nI q)) a2 (t := b) (B := b + 1 + sp_z t) (q := q) (by omega) rfl h2.2.1.2 (cx.length + 1) _ _ (fun c75 => ?_) (fun c75 => ?_)
    · have c78 := c.resolve_left c75
      rw [if_neg c75] at h7
      unfold st_x at h7
      rw [if_pos c78] at h7
      refine tp_85 d (upd m2 c_R_at (nI q)) a2 (t := b) (B := b + 1 + sp_z t) (p := q) hn hq.1 rfl h2.1.2.1 (by omega) h2.2.1.2 (cx.length + 1) _ _ (fun e => ?_) (fun e => ?_)
      · rw [htx, hq.2] at e; exact absurd c78 e
      · rw [htx, hq.2]
        exact kt_N (u := t) (v := .nil) (pl := 0) (D := d + 1) (E := d + 2 + 1) i1 kp (by omega) hx (by omega) (by omega) (by omega) (Cms_trans hM2 hMu) hC2 hS2 h4.2.2.1 (by simp only [sp_z]; omega) c78 hnd h5 trivial (cnR_n h4.2.2.1 hcn) (rP_unz h7)
    · rw [if_pos c75] at h7
      have hxq := sp_c_x c75 (by decide)
      rw [show upd (upd m2 c_R_at (nI q)) c_R_at (nI (q + 1)) = upd m2 c_R_at (nI (q + 1)) from upd_upd _ _ _ _]
      have hMv : Cms m2 (upd m2 c_R_at (nI (q + 1))) := Cms_up (Cms_refl _) _ (by decide)
      have hC3 : Cs a2 (up2 a2 c_P_catchFrom b (nI (b + 1 + sp_z t))) b (cx.length + 1) V1 := Cs_p (Cs_refl _ _ _ _) _ (by decide) (Nat.le_refl _)
      have hC4 : Cs a (up2 a2 c_P_catchFrom b (nI (b + 1 + sp_z t))) b cx.length V := Cs_trans hC2 hC3 (Nat.le_refl _) (Nat.le_succ _) h4.2.2.1
      have hF3 : PrF a2 (up2 a2 c_P_catchFrom b (nI (b + 1 + sp_z t))) (b + 1) 300 V1 := ⟨fun j i hj h1 h2 => up2_no (by omega), fun j i hj h1 => up2_no (by rintro ⟨e, -⟩; rw [e] at hj; exact absurd hj (by decide))⟩
      have hP3 : PrS (up2 a2 c_P_catchFrom b (nI (b + 1 + sp_z t))) V1 t (b + 1) sc := PrS_F hF3 (Nat.le_refl _) _ t (Nat.lt_succ_self _) _ sc (Nat.le_refl _) (by omega) h5
      have hcn3 : cnR (a c_V_uses) (a c_V_assigns) V (up2 a2 c_P_catchFrom b (nI (b + 1 + sp_z t))) V1 t := cnR_a (up2_row (by decide)) (up2_row (by decide)) hcn
      have hnd3 := ndX_ca (nI (b + 1 + sp_z t)) hnd
      have hS3 : cSt tx n (upd m2 c_R_at (nI (q + 1))) (up2 a2 c_P_catchFrom b (nI (b + 1 + sp_z t))) ((b, 84, 0) :: cx) (b + 1 + sp_z t) (sp_x tx n (q + 1)) V1 sc := cSt_C (cSt_at h2 (by omega)) hC3 (by simp only [List.length_cons]; omega) (Nat.le_refl _)
      generalize up2 a2 c_P_catchFrom b (nI (b + 1 + sp_z t)) = a3 at *
      generalize upd m2 c_R_at (nI (q + 1)) = m3 at *
      refine x_block (cx := (b, 84, 0) :: cx) i1 (by simp only [List.length_cons]; omega) hS3 (by omega) (by omega) (Cms_trans hM2 hMv) (Cs_le hC4 (Nat.zero_le _) (Nat.zero_le _) (Nat.zero_le _)) h7 (fun q4 V4 sc4 t4 m4 a4 g1 g2 g3 g4 g5 g6 g7 => ?_)
      obtain ⟨y0, y1, y2, y3⟩ := g2.2.1.1
      have htx4 := g2.2.2.1
      have hq4 := cSt_p g2
      have hM4 := Cms_trans (Cms_trans hM2 hMv) g1
      have hC5 : Cs a a4 b cx.length V := Cs_trans hC4 g3 (by omega) (Nat.le_succ _) h4.2.2.1
      have hnd4 := ndX_Cs g3 (by omega) hnd3
      have hP4 : PrS a4 V4 t (b + 1) sc := PrS_Cs g3 (Nat.le_refl _) g4.2.2.1 (by omega) hP3
      have hcn4 : cnR (a c_V_uses) (a c_V_assigns) V a4 V4 (.append t t4) := cnR_2 h4.2.2.1 g4.2.2.1 hcn3 g6
      refine tp_85 d m4 a4 (t := b) (B := b + 1 + sp_z t + sp_z t4) (p := y0) hn y2 y1 g2.1.2.1 (by omega) g2.2.1.2 (cx.length + 1) _ _ (fun e => ?_) (fun e => ?_)
      · rw [htx4, y3] at e ⊢
        rw [if_neg e] at g7
        refine Or.inr ⟨rfl, ?_⟩
        refine k_84f (pl := 1) (u := t) (v := t4) (z := .nil) hx (by omega) (by omega) g7 (Cms_up hM4 _ (by decide)) ⟨g2.1, ⟨⟨q4, rfl, hq4.1, hq4.2⟩, g2.2.1.2⟩, g2.2.2⟩ (by simp only [sp_z]; omega) hC5 hnd4 hP4 g5 trivial ?_
        intro y hy
        have r1 := hcn4 y hy
        have e1 : uS y (.append t t4) = uS y (.append t (.append t4 .nil)) := by simp only [uS]; omega
        have e2 : aS y (.append t t4) = aS y (.append t (.append t4 .nil)) := by simp only [aS]; omega
        rw [e1, e2] at r1
        exact r1
      · rw [htx4, y3] at e ⊢
        rw [if_pos e] at g7
        have hS4 : cSt tx n m4 a4 ((b, 84, 0) :: cx) (b + 1 + sp_z t + sp_z t4) q4 V4 sc := g2
        exact kt_N (u := t) (v := t4) (pl := 1) (D := d + 1) (E := d + 2 + 1) i1 kp (by omega) hx (by omega) (by omega) (by omega) hM4 hC5 hS4 (by omega) (by omega) e hnd4 hP4 g5 hcn4 (rP_unz g7)
end KT
