section KP
variable {l : Nat → Nat → Int64} {w : Int64} {tx : Nat → Int32} {n : Nat} {D : Nat} {P : pv_R} {m m1 : Nat → Int32} {a a1 : Nat → Nat → Int32} {cx : cx_T} {b p p1 V x f : Nat} {sc : sc_T}
theorem k_83 (i2 : sC2 l w tx n f) (kp : kPre tx n m m1 a a1 cx b p p1 V sc 83 0) (hb : b + 1 ≤ p1) (hpp : p + 1 ≤ p1) (hf : 2 * (n - p) ≤ f + 2) (hx : x < 4) (hD : 4 * (20 - cx.length) + 168 ≤ D)
    (h : rP (cFs l w (kR l w (D + 1) b P) m a) (sQ l w tx n P m a cx b V sc x) (st_x tx n 40 p1 fun q => st_eb (st_e tx n sc q) fun q e => st_x tx n 41 q fun q => st_x tx n 123 q fun q => st_b (st tx n f 2 ((b, 83, 0) :: cx) (b + 1 + sp_z e) q V sc 1) fun q V1 _ t => .inr (q, V1, sc, .tag (sp_n 83 p (x / 2)) (.append e t)))) :
    pv_go cq_T39 1 (pv_call cq_mt D) (kR l w (D + 1) b P) (326, rL b 83 cx.length, [], cs m1 a1 l w) := by
  have hk := kp.2.2
  have hn := kp.1.1.1.1.1
  have hp := cSt_p kp.1.1
  obtain ⟨d, rfl⟩ := Nat.exists_eq_add_of_le' (show 1 ≤ D by omega)
  refine r326 (d + 1) m1 a1 b _ cx.length _ (x_cond (tx := tx) (n := n) (by omega) kp.1.1 hb kp.1.2.1 (kp_g kp) h (fun q u m2 a2 j1 j2 j3 j4 j5 j6 j7 => ?_))
  have hc2 : Cs a1 a2 (b + 1) (cx.length + 1) V := Cs_Ce j3
  refine x_expect (tx := tx) (n := n) (by omega) j2 (by omega) (by decide) (Cms_trans kp.1.2.1 j1) (Cg_tr (kp_g kp) hc2) j7 (fun m3 r1 r2 r3 r4 => ?_)
  have hM3 := Cms_trans j1 r1
  refine cc_items d m3 a2 b (cx.length + 1) _ ?_
  rw [r2.1.2.2.1]
  rw [rP_b] at r4
  refine i2 d ((b, 83, 0) :: cx) (b + 1 + sp_z u) (sp_x tx n (q + 1)) V b sc sc 0 1 [] m3 a2 _ r2 r2.2.2.2.2 (by omega) (by omega) (by omega) (by omega) (Or.inl rfl) (by omega) (by simp only [List.length_cons]; omega) ?_
  refine rP_imp (fun q1 _ h => cFs_tr ?_ (Cms_trans kp.1.2.1 hM3) (Cg_tr (kp_g kp) hc2)) (fun q1 V1 sc1 t ht h => ?_) r4
  · exact fun m2 a2 B u1 u2 u3 u4 => Or.inl ⟨rfl, h m2 a2 B u1 u2 u3 u4⟩
  have hV := st_V r2 (by omega) ht
  intro m' a' z g1 g2 g3 g4 g5 g6
  refine Or.inr ⟨rfl, ?_⟩
  have hCz : Cs a2 (up2 a2 c_P_isSkipped b z) b (cx.length + 1) V := Cs_p (Cs_refl _ _ _ _) _ (by decide) (Nat.le_refl _)
  have hC3 : Cs a1 a' b (cx.length + 1) V := Cs_trans (Cs_le hc2 (Nat.le_succ _) (Nat.le_refl _) (Nat.le_refl _)) (Cs_trans hCz g4 (by omega) (Nat.le_refl _) (Nat.le_refl _)) (Nat.le_refl _) (Nat.le_refl _) (Nat.le_refl _)
  have hnd : ndX a' b 83 p (thOf sc) (-1) (-1) z := ndX_Cs g4 (by omega) (ndX_sk z (ndX_Cs hc2 (by omega) kp.2.1.1))
  have hF : PrF a2 (up2 a2 c_P_isSkipped b z) (b + 1) 300 V := ⟨fun j i hj h1 h2 => up2_no (by omega), fun j i hj h1 => up2_no (by rintro ⟨e, -⟩; rw [e] at hj; exact absurd hj (by decide))⟩
  have hPu : PrS a' V1 u (b + 1) sc := PrS_Cs g4 (Nat.le_refl _) hV.2.2.1 (Nat.le_refl _) (PrS_F hF (Nat.le_refl _) _ u (Nat.lt_succ_self _) (b + 1) sc (Nat.le_refl _) (by omega) j5.2)
  have ez : b + 1 + sp_z (.append u t) = b + 1 + sp_z u + sp_z t := by simp only [sp_z]; omega
  have n0 := pl_n (s := 83) (p := p) (pl := 0) (z := x / 2) (by omega) (by omega) (by omega)
  have n1 := n0.1
  rw [Nat.mul_zero, Nat.zero_add] at n1
  obtain ⟨⟨⟨h1, h2⟩, h3, h4⟩, ⟨h5, h6, h7⟩, h8, h9⟩ := hnd
  have hcn : cnR (a c_V_uses) (a c_V_assigns) V a' V1 (.append u t) := by
    have := cnR_2 (Nat.le_refl _) hV.2.2.1 j6 g6
    rw [kp.2.1.2.1, kp.2.1.2.2] at this
    exact this
  refine k_fin (by omega) ⟨_, rfl⟩ (by rw [ez]; omega) h (Cms_trans kp.1.2.1 (Cms_trans hM3 g1)) (by rw [ez]; exact g2) (Cs_trans kp.1.2.2 hC3 (Nat.le_refl _) (Nat.le_succ _) (Nat.le_refl _)) ?_ h8 (cnR_t (by rw [n1]; unfold stS; omega) hcn)
  rw [ez]
  have nd := ndT_mk (a := a') (W := V1) (b := b) (s := 83) (p := p) (pl := 0) (z := x / 2) (e := b + 1 + sp_z u + sp_z t) (sc := sc) (by omega) (by omega) (by omega) ⟨h1, h2⟩ h4 (fun q => by omega) (fun _ => h3) (fun q => by omega) (fun _ => h5)
  rw [Nat.mul_zero, Nat.zero_add] at nd
  have r := fun j (hj : ¬ (j = 6 ∨ j = 14)) => clE_o (a := a') (b := b) (e := nI (b + 1 + sp_z u + sp_z t)) (z := nI (x / 2)) (j := j) (i := b) (fun q => hj q.2)
  unfold PrS
  rw [if_pos (by rw [n1]; unfold stS; omega), ez]
  refine ⟨⟨nd, ?_⟩, ?_⟩
  · unfold skT
    rw [if_pos n1, r c_P_isSkipped (by decide), h9]
    exact g3
  · rw [if_neg (by rw [n1]; omega), r c_P_catchFrom (by decide), r c_P_finallyFrom (by decide)]
    refine ⟨⟨h6, h7⟩, PrS_clE (by omega) hPu, PrS_clE (by omega) ?_⟩
    rw [scA_eW j5.1]; exact g5
theorem kp_mk {s lb p2 : Nat} {lab : Int32} (hS : cSt tx n m a cx b p V sc) (hb : b ≤ p) (hk : cx.length < 20) (hs : s < 256) (hl : lb < 256) (hlab : lab = if lb = 0 then -1 else nI lb) (hp2 : p2 ≤ n) :
    kPre tx n m (upd (upd (upd m c_R_at (nI p)) c_P_size (nI (b + 1))) c_R_at (nI p2)) a (apA (arA a cx.length (nI b) (nI s) lab) b (nI s) (nI p) (-1) (m c_R_there)) cx b p (sp_x tx n p2) V sc s lb ∧ apA (arA a cx.length (nI b) (nI s) lab) b (nI s) (nI p) (-1) (m c_R_there) c_R_sortAround cx.length = nI s := by
  have hp := cSt_p hS
  have hM : Cms m (upd (upd (upd m c_R_at (nI p)) c_P_size (nI (b + 1))) c_R_at (nI p2)) := Cms_up (Cms_up (Cms_up (Cms_refl _) _ (by decide)) _ (by decide)) _ (by decide)
  have hC1 : Cs a (arA a cx.length (nI b) (nI s) lab) b cx.length V := by
    unfold arA
    exact Cs_r (Cs_r (Cs_r (Cs_refl _ _ _ _) _ (by decide) (Nat.le_refl _)) _ (by decide) (Nat.le_refl _)) _ (by decide) (Nat.le_refl _)
  have hCe : Ce (arA a cx.length (nI b) (nI s) lab) (apA (arA a cx.length (nI b) (nI s) lab) b (nI s) (nI p) (-1) (m c_R_there)) b := Ce_ap (Ce_refl _ _) (Nat.le_refl _) _ _ _ _
  have hC2 : Cs a (apA (arA a cx.length (nI b) (nI s) lab) b (nI s) (nI p) (-1) (m c_R_there)) b cx.length V := Cs_trans hC1 (Cs_Ce hCe) (Nat.le_refl _) (Nat.le_refl cx.length) (Nat.le_refl V)
  have o := fun j (hj : ¬ ((2 ≤ j ∧ j ≤ 6) ∨ (11 ≤ j ∧ j ≤ 15) ∨ j = 23 ∨ j = 24)) => Ce_oth hCe (j := j) hj
  have r16 : arA a cx.length (nI b) (nI s) lab c_R_placeAround cx.length = nI b := by
    unfold arA
    rw [up2_row (by decide), up2_row (by decide), up2_at]
  have r17 : arA a cx.length (nI b) (nI s) lab c_R_sortAround cx.length = nI s := by
    unfold arA
    rw [up2_row (by decide), up2_at]
  have r18 : arA a cx.length (nI b) (nI s) lab c_R_labelAround cx.length = lab := by
    unfold arA
    rw [up2_at]
  have nd := (apA_ndC (arA a cx.length (nI b) (nI s) lab) b s p 0 (-1) (m c_R_there) hs (by have := hS.1.1.1; omega) rfl)
  have ru : ∀ j, j = 23 ∨ j = 24 → apA (arA a cx.length (nI b) (nI s) lab) b (nI s) (nI p) (-1) (m c_R_there) j = a j := by
    intro j hj
    unfold apA arA
    rw [up2_row (show ¬ j = 15 by omega), up2_row (show ¬ j = 14 by omega), up2_row (show ¬ j = 13 by omega), up2_row (show ¬ j = 12 by omega), up2_row (show ¬ j = 11 by omega), up2_row (show ¬ j = 6 by omega), up2_row (show ¬ j = 5 by omega), up2_row (show ¬ j = 4 by omega), up2_row (show ¬ j = 3 by omega), up2_row (show ¬ j = 2 by omega), up2_row (show ¬ j = 18 by omega), up2_row (show ¬ j = 17 by omega), up2_row (show ¬ j = 16 by omega)]
  have n1 := sp_s_n (s := s) (f := p) (v := 0) hs (by have := hS.1.1.1; omega)
  have n2 := sp_f_n (s := s) (f := p) (v := 0) hs (by have := hS.1.1.1; omega)
  have n3 := sp_v_n (s := s) (f := p) (v := 0) hs (by have := hS.1.1.1; omega)
  obtain ⟨⟨⟨c1, c2⟩, c3, c4⟩, ⟨u1, u2⟩, ⟨u3, u4⟩, u5, u6⟩ := nd
  rw [n1] at c1
  rw [n2] at c2
  rw [n3] at c3
  have hpop := cSt_fr (m' := upd (upd (upd m c_R_at (nI p)) c_P_size (nI (b + 1))) c_R_at (nI p2)) hS rfl hS.1.2.2.1 hS.1.2.2.2 ⟨Nat.le_refl _, hS.1.1.2⟩ hC2 (Nat.le_refl _) ⟨p2, rfl, hp2, rfl⟩ rfl (Nat.le_succ _) ⟨scC_mono (Nat.le_refl _) (fun v hv => Cs_vr hC2 (by decide) hv) sc hS.2.2.2.2.1, hS.2.2.2.2.2⟩
  refine ⟨⟨⟨⟨hpop.1, hpop.2.1, hpop.2.2.1, ⟨⟨⟨⟨?_, Nat.lt_succ_self _⟩, ⟨?_, hs⟩, ?_, hl⟩, hpop.2.2.2.1.1⟩, by simp only [List.length_cons]; omega⟩, hpop.2.2.2.2⟩, hM, hC2⟩, ⟨⟨⟨⟨c1, c2⟩, c3, ?_⟩, ⟨u2, u3, u4⟩, u5, u6⟩, ru 23 (Or.inl rfl), ru 24 (Or.inr rfl)⟩, hb, hp.1, hk⟩, ?_⟩
  · rw [o c_R_placeAround (by decide)]; exact r16
  · rw [o c_R_sortAround (by decide)]; exact r17
  · rw [o c_R_labelAround (by decide), r18, hlab]
  · rw [u1, hS.1.2.2.1]
  · rw [o c_R_sortAround (by decide)]; exact r17
end KP
