section KM
variable {l : Nat → Nat → Int64} {w : Int64} {tx : Nat → Int32} {n : Nat} {D : Nat} {P : pv_R} {m m1 : Nat → Int32} {a a1 : Nat → Nat → Int32} {cx : cx_T} {b p p1 V x f : Nat} {sc : sc_T}
theorem kp_g {s lb : Nat} (kp : kPre tx n m m1 a a1 cx b p p1 V sc s lb) : Cg a a1 := Cs_le kp.1.2.2 (Nat.zero_le _) (Nat.zero_le _) (Nat.zero_le _)
theorem Cg_tr {a a1 a2 : Nat → Nat → Int32} {B k W : Nat} (h : Cg a a1) (h2 : Cs a1 a2 B k W) : Cg a a2 := Cs_trans h h2 (Nat.zero_le _) (Nat.zero_le _) (Nat.zero_le _)
theorem cnR_n {U A : Nat → Int32} {V0 V1 : Nat} {a : Nat → Nat → Int32} {t : Std.Format} (h01 : V0 ≤ V1) (h : cnR U A V0 a V1 t) : cnR U A V0 a V1 (.append t .nil) := cnR_2 h01 (Nat.le_refl _) h (cnR_0 (fun _ => ⟨rfl, rfl⟩))
theorem k_59 (kp : kPre tx n m m1 a a1 cx b p p V sc 59 0) (hx : x < 4) (hD : 4 * (20 - cx.length) + 168 ≤ D)
    (h : rP (cFs l w (kR l w (D + 1) b P) m a) (sQ l w tx n P m a cx b V sc x) (st_eb (st_e tx n sc p) fun q e => st_x tx n 59 q fun q => .inr (q, V, sc, .tag (sp_n 59 p (x / 2)) (.append e .nil)))) :
    pv_go cq_T39 1 (pv_call cq_mt D) (kR l w (D + 1) b P) (406, rL b 59 cx.length, [], cs m1 a1 l w) := by
  have hk := kp.2.2
  have hn := kp.1.1.1.1.1
  refine r406 D m1 a1 b _ cx.length _ (x_expr (by omega) kp.1.1 (by omega) kp.1.2.1 (kp_g kp) h (fun q u m' a' h1 h2 h3 h4 h5 h6 h7 => ?_))
  refine bz_bq (l := l) (w := w) (x_expect (tx := tx) (n := n) (by omega) h2 (by omega) (by decide) (Cms_trans kp.1.2.1 h1) (Cg_tr (kp_g kp) (Cs_Ce (k := 0) (V := 0) h3)) h7 (fun m2 j1 j2 j3 j4 => ?_))
  exact k_done kp (by decide) hx (by omega) j4 (Cms_trans h1 j1) j2 (Cs_Ce h3) ⟨h5.2, trivial⟩ (cnR_n (Nat.le_refl _) h6) (by simp only [sp_z]; omega)
theorem k_RX {s : Nat} (hs : s = 82 ∨ s = 88) (kp : kPre tx n m m1 a a1 cx b p p1 V sc s 0) (hb : b + 1 ≤ p1) (hpp : p + 1 ≤ p1) (hx : x < 4) (hD : 4 * (20 - cx.length) + 168 ≤ D)
    (h : rP (cFs l w (kR l w (D + 1) b P) m a) (sQ l w tx n P m a cx b V sc x) (if sp_c tx n p1 = 59 then .inr (sp_x tx n (p1 + 1), V, sc, .tag (sp_n s p (x / 2)) .nil)
        else st_eb (st_e tx n sc p1) fun q e => st_x tx n 59 q fun q => .inr (q, V, sc, .tag (sp_n s p (x / 2)) (.append e .nil)))) :
    pv_go cq_T39 1 (pv_call cq_mt D) (kR l w (D + 1) b P) (374, rL b (nI s) cx.length, [], cs m1 a1 l w) := by
  obtain ⟨d, rfl⟩ := Nat.exists_eq_add_of_le' (show 1 ≤ D by omega)
  have hk := kp.2.2
  have hS := kp.1.1
  have hn := hS.1.1.1
  have hp := cSt_p hS
  obtain ⟨p0, e1, e2, e3⟩ := hS.2.1.1
  have htx := hS.2.2.1
  have hM1 : Cms m1 (upd m1 c_R_at (nI p1)) := Cms_up (Cms_refl _) _ (by decide)
  have hS1 : cSt tx n (upd m1 c_R_at (nI p1)) a1 ((b, s, 0) :: cx) (b + 1) p1 V sc := ⟨hS.1, ⟨⟨p1, rfl, hp.1, hp.2⟩, hS.2.1.2⟩, hS.2.2⟩
  refine r374 d m1 a1 hn e2 e1 hS.1.2.1 b _ cx.length _ (fun q => ?_) (fun q => ?_)
  · rw [htx, e3] at q ⊢
    rw [if_pos q] at h
    refine bz_bq (l := l) (w := w) (x_expect (tx := tx) (n := n) (f := fun q => .inr (q, V, sc, .tag (sp_n s p (x / 2)) .nil)) (Q := sQ l w tx n P m a cx b V sc x) (by omega) hS1 (by omega) (by decide) (Cms_trans kp.1.2.1 hM1) (kp_g kp) ?_ (fun m2 j1 j2 j3 j4 => ?_))
    · unfold st_x; rw [if_pos q]; exact h
    · exact k_done kp (by omega) hx (by omega) j4 (Cms_trans hM1 j1) j2 (Cs_refl _ _ _ _) trivial (cnR_0 (fun _ => ⟨rfl, rfl⟩)) (by simp only [sp_z]; omega)
  · rw [htx, e3] at q ⊢
    rw [if_neg q] at h
    refine x_expr (by omega) hS1 (by omega) (Cms_trans kp.1.2.1 hM1) (kp_g kp) h (fun q u m' a' h1 h2 h3 h4 h5 h6 h7 => ?_)
    refine bz_bq (l := l) (w := w) (x_expect (tx := tx) (n := n) (by omega) h2 (by omega) (by decide) (Cms_trans kp.1.2.1 (Cms_trans hM1 h1)) (Cg_tr (kp_g kp) (Cs_Ce (k := 0) (V := 0) h3)) h7 (fun m2 j1 j2 j3 j4 => ?_))
    exact k_done kp (by omega) hx (by omega) j4 (Cms_trans hM1 (Cms_trans h1 j1)) j2 (Cs_Ce h3) ⟨h5.2, trivial⟩ (cnR_n (Nat.le_refl _) h6) (by simp only [sp_z]; omega)
theorem k_123 (i1 : sC1 l w tx n f) (kp : kPre tx n m m1 a a1 cx b p p V sc 123 0) (hf : 2 * (n - p) ≤ f) (hx : x < 4) (hD : 4 * (20 - cx.length) + 168 ≤ D)
    (h : rP (cFs l w (kR l w (D + 1) b P) m a) (sQ l w tx n P m a cx b V sc x) (st_x tx n 123 p fun q => st_b (st tx n f 1 ((b, 123, 0) :: cx) (b + 1) q V sc 0) fun q V1 _ t => .inr (q, V1, sc, .tag (sp_n 123 p (x / 2)) t))) :
    pv_go cq_T39 1 (pv_call cq_mt D) (kR l w (D + 1) b P) (135, rL b 123 cx.length, [], cs m1 a1 l w) := by
  have hk := kp.2.2
  have hn := kp.1.1.1.1.1
  refine r135 D m1 a1 b _ cx.length _ (bz_bq (l := l) (w := w) (x_block (cx := (b, 123, 0) :: cx) i1 (by simp only [List.length_cons]; omega) kp.1.1 (by omega) hf kp.1.2.1 (kp_g kp) h (fun q V1 sc1 t m' a' h1 h2 h3 h4 h5 h6 h7 => ?_)))
  exact k_done kp (by decide) hx (by omega) h7 h1 h2 h3 h5 h6 (by omega)
theorem k_58 {lb : Nat} (i0 : sC0 l w tx n f) (kp : kPre tx n m m1 a a1 cx b p p1 V sc 58 lb) (hb : b + 1 ≤ p1) (hpp : p + 1 ≤ p1) (hf : 2 * (n - p) ≤ f + 2) (hx : x < 4) (hD : 4 * (20 - cx.length) + 168 ≤ D)
    (h : rP (cFs l w (kR l w (D + 1) b P) m a) (sQ l w tx n P m a cx b V sc x) (st_x tx n 58 p1 fun q => st_b (st tx n f 0 ((b, 58, lb) :: cx) (b + 1) q V sc 0) fun q V1 _ t => .inr (q, V1, sc, .tag (sp_n 58 p (x / 2)) (.append t .nil)))) :
    pv_go cq_T39 1 (pv_call cq_mt D) (kR l w (D + 1) b P) (142, rL b 58 cx.length, [], cs m1 a1 l w) := by
  have hk := kp.2.2
  have hn := kp.1.1.1.1.1
  have hp := cSt_p kp.1.1
  refine r142 D m1 a1 b _ cx.length _ (x_expect (tx := tx) (n := n) (by omega) kp.1.1 (by omega) (by decide) kp.1.2.1 (kp_g kp) h (fun m2 j1 j2 j3 j4 => ?_))
  refine bz_bq (l := l) (w := w) (x_body (cx := (b, 58, lb) :: cx) i0 (by simp only [List.length_cons]; omega) j2 (by omega) (by omega) (Cms_trans kp.1.2.1 j1) (kp_g kp) j4 (fun q V1 sc1 t m' a' h1 h2 h3 h4 h5 h6 h7 => ?_))
  exact k_done kp (by decide) hx (by omega) h7 (Cms_trans j1 h1) h2 h3 ⟨h5.1, trivial⟩ (cnR_n h4.2.2.2.1 h6) (by simp only [sp_z]; omega)
theorem k_87 (i0 : sC0 l w tx n f) (kp : kPre tx n m m1 a a1 cx b p p1 V sc 87 0) (hb : b + 1 ≤ p1) (hpp : p + 1 ≤ p1) (hf : 2 * (n - p) ≤ f + 2) (hx : x < 4) (hD : 4 * (20 - cx.length) + 168 ≤ D)
    (h : rP (cFs l w (kR l w (D + 1) b P) m a) (sQ l w tx n P m a cx b V sc x) (st_x tx n 40 p1 fun q => st_eb (st_e tx n sc q) fun q e => st_x tx n 41 q fun q => st_b (st tx n f 0 ((b, 87, 0) :: cx) (b + 1 + sp_z e) q V sc 0) fun q V1 _ t => .inr (q, V1, sc, .tag (sp_n 87 p (x / 2)) (.append e (.append t .nil))))) :
    pv_go cq_T39 1 (pv_call cq_mt D) (kR l w (D + 1) b P) (215, rL b 87 cx.length, [], cs m1 a1 l w) := by
  have hk := kp.2.2
  have hn := kp.1.1.1.1.1
  have hp := cSt_p kp.1.1
  refine r215 D m1 a1 b _ cx.length _ (x_cond (tx := tx) (n := n) (by omega) kp.1.1 hb kp.1.2.1 (kp_g kp) h (fun q u m2 a2 j1 j2 j3 j4 j5 j6 j7 => ?_))
  have hc2 : Cs a1 a2 (b + 1) (cx.length + 1) V := Cs_Ce j3
  refine bz_bq (l := l) (w := w) (x_body (cx := (b, 87, 0) :: cx) i0 (by simp only [List.length_cons]; omega) j2 (by omega) (by omega) (Cms_trans kp.1.2.1 j1) (Cg_tr (kp_g kp) hc2) j7 (fun q V1 sc1 t m' a' h1 h2 h3 h4 h5 h6 h7 => ?_))
  refine k_done kp (by decide) hx (by omega) h7 (Cms_trans j1 h1) (by simp only [sp_z]; rw [Nat.add_zero, ← Nat.add_assoc]; exact h2) (Cs_trans hc2 h3 (by omega) (Nat.le_refl _) (Nat.le_refl _)) ⟨PrS_Cs h3 (Nat.le_refl _) h4.2.2.2.1 (Nat.le_refl _) j5.2, ?_, trivial⟩ (cnR_2 (Nat.le_refl _) h4.2.2.2.1 j6 (cnR_n h4.2.2.2.1 h6)) (by simp only [sp_z]; omega)
  rw [scA_eW j5.1]; exact h5.1
theorem k_70 (i0 : sC0 l w tx n f) (kp : kPre tx n m m1 a a1 cx b p p1 V sc 70 0) (hb : b + 1 ≤ p1) (hpp : p + 1 ≤ p1) (hf : 2 * (n - p) ≤ f + 2) (hx : x < 4) (hD : 4 * (20 - cx.length) + 168 ≤ D)
    (h : rP (cFs l w (kR l w (D + 1) b P) m a) (sQ l w tx n P m a cx b V sc x) (st_x tx n 40 p1 fun q => st_eb (st_e tx n sc q) fun q e => st_x tx n 59 q fun q => st_eb (st_e tx n sc q) fun q e2 => st_x tx n 41 q fun q => st_b (st tx n f 0 ((b, 70, 0) :: cx) (b + 1 + sp_z e + sp_z e2) q V sc 0) fun q V1 _ t => .inr (q, V1, sc, .tag (sp_n 70 p (x / 2)) (.append e (.append e2 (.append t .nil)))))) :
    pv_go cq_T39 1 (pv_call cq_mt D) (kR l w (D + 1) b P) (268, rL b 70 cx.length, [], cs m1 a1 l w) := by
  have hk := kp.2.2
  have hn := kp.1.1.1.1.1
  have hp := cSt_p kp.1.1
  refine r268 D m1 a1 b _ cx.length _ (x_expect (tx := tx) (n := n) (by omega) kp.1.1 (by omega) (by decide) kp.1.2.1 (kp_g kp) h (fun m2 j1 j2 j3 j4 => ?_))
  refine x_expr (by omega) j2 (by omega) (Cms_trans kp.1.2.1 j1) (kp_g kp) j4 (fun q u m3 a3 g1 g2 g3 g4 g5 g6 g7 => ?_)
  have hc3 : Cs a1 a3 (b + 1) (cx.length + 1) V := Cs_Ce g3
  have hM3 := Cms_trans j1 g1
  refine x_expect (tx := tx) (n := n) (by omega) g2 (by omega) (by decide) (Cms_trans kp.1.2.1 hM3) (Cg_tr (kp_g kp) hc3) g7 (fun m4 r1 r2 r3 r4 => ?_)
  have hM4 := Cms_trans hM3 r1
  refine x_expr (by omega) r2 (by omega) (Cms_trans kp.1.2.1 hM4) (Cg_tr (kp_g kp) hc3) r4 (fun q2 u2 m5 a5 s1 s2 s3 s4 s5 s6 s7 => ?_)
  have hc5 : Cs a3 a5 (b + 1 + sp_z u) (cx.length + 1) V := Cs_Ce s3
  have hc6 : Cs a1 a5 (b + 1) (cx.length + 1) V := Cs_trans hc3 hc5 (by omega) (Nat.le_refl _) (Nat.le_refl _)
  have hM5 := Cms_trans hM4 s1
  refine x_expect (tx := tx) (n := n) (by omega) s2 (by omega) (by decide) (Cms_trans kp.1.2.1 hM5) (Cg_tr (kp_g kp) hc6) s7 (fun m6 t1 t2 t3 t4 => ?_)
  have hM6 := Cms_trans hM5 t1
  refine bz_bq (l := l) (w := w) (x_body (cx := (b, 70, 0) :: cx) i0 (by simp only [List.length_cons]; omega) t2 (by omega) (by omega) (Cms_trans kp.1.2.1 hM6) (Cg_tr (kp_g kp) hc6) t4 (fun q V1 sc1 t m' a' h1 h2 h3 h4 h5 h6 h7 => ?_))
  refine k_done kp (by decide) hx (by omega) h7 (Cms_trans hM6 h1) (by simp only [sp_z]; rw [Nat.add_zero, ← Nat.add_assoc, ← Nat.add_assoc]; exact h2) (Cs_trans hc6 h3 (by omega) (Nat.le_refl _) (Nat.le_refl _)) ⟨PrS_Cs (Cs_trans hc5 h3 (by omega) (Nat.le_refl _) (Nat.le_refl _)) (Nat.le_refl _) h4.2.2.2.1 (Nat.le_refl _) g5.2, ?_⟩ (cnR_2 (Nat.le_refl _) h4.2.2.2.1 g6 (cnR_2 (Nat.le_refl _) h4.2.2.2.1 s6 (cnR_n h4.2.2.2.1 h6))) (by simp only [sp_z]; omega)
  rw [scA_eW g5.1]
  refine ⟨PrS_Cs h3 (Nat.le_refl _) h4.2.2.2.1 (Nat.le_refl _) s5.2, ?_, trivial⟩
  rw [scA_eW s5.1]; exact h5.1
theorem k_68 (i0 : sC0 l w tx n f) (kp : kPre tx n m m1 a a1 cx b p p1 V sc 68 0) (hb : b + 1 ≤ p1) (hpp : p + 1 ≤ p1) (hf : 2 * (n - p1) < f) (hx : x < 4) (hD : 4 * (20 - cx.length) + 168 ≤ D)
    (h : rP (cFs l w (kR l w (D + 1) b P) m a) (sQ l w tx n P m a cx b V sc x) (st_b (st tx n f 0 ((b, 68, 0) :: cx) (b + 1) p1 V sc 0) fun q V1 _ t => st_x tx n 40 q fun q => st_eb (st_e tx n sc q) fun q e => st_x tx n 41 q fun q => st_x tx n 59 q fun q => .inr (q, V1, sc, .tag (sp_n 68 p (x / 2)) (.append t (.append e .nil))))) :
    pv_go cq_T39 1 (pv_call cq_mt D) (kR l w (D + 1) b P) (237, rL b 68 cx.length, [], cs m1 a1 l w) := by
  have hk := kp.2.2
  have hn := kp.1.1.1.1.1
  have hp := cSt_p kp.1.1
  refine r237 D m1 a1 b _ cx.length _ (x_body (cx := (b, 68, 0) :: cx) i0 (by simp only [List.length_cons]; omega) kp.1.1 hb hf kp.1.2.1 (kp_g kp) h (fun q V1 sc1 t m2 a2 h1 h2 h3 h4 h5 h6 h7 => ?_))
  refine x_cond (tx := tx) (n := n) (by omega) h2 (by omega) (Cms_trans kp.1.2.1 h1) (Cg_tr (kp_g kp) h3) h7 (fun q2 u m3 a3 j1 j2 j3 j4 j5 j6 j7 => ?_)
  have hc2 : Cs a2 a3 (b + 1 + sp_z t) (cx.length + 1) V1 := Cs_Ce j3
  have hc3 : Cs a1 a3 (b + 1) (cx.length + 1) V := Cs_trans h3 hc2 (by omega) (Nat.le_refl _) h4.2.2.2.1
  refine bz_bq (l := l) (w := w) (x_expect (tx := tx) (n := n) (by omega) j2 (by omega) (by decide) (Cms_trans kp.1.2.1 (Cms_trans h1 j1)) (Cg_tr (kp_g kp) hc3) j7 (fun m4 r1 r2 r3 r4 => ?_))
  refine k_done kp (by decide) hx (by omega) r4 (Cms_trans h1 (Cms_trans j1 r1)) (by simp only [sp_z]; rw [Nat.add_zero, ← Nat.add_assoc]; exact r2) hc3 ⟨PrS_Cs hc2 (Nat.le_refl _) (Nat.le_refl _) (Nat.le_refl _) h5.1, ?_, trivial⟩ (cnR_2 h4.2.2.2.1 (Nat.le_refl _) h6 (cnR_n (Nat.le_refl _) j6)) (by simp only [sp_z]; omega)
  rw [h5.2]; exact j5.2
theorem k_73 (i0 : sC0 l w tx n f) (kp : kPre tx n m m1 a a1 cx b p p1 V sc 73 0) (hb : b + 1 ≤ p1) (hpp : p + 1 ≤ p1) (hf : 2 * (n - p) ≤ f + 2) (hx : x < 4) (hD : 4 * (20 - cx.length) + 168 ≤ D)
    (h : rP (cFs l w (kR l w (D + 1) b P) m a) (sQ l w tx n P m a cx b V sc x) (st_x tx n 40 p1 fun q => st_eb (st_e tx n sc q) fun q e => st_x tx n 41 q fun q => st_b (st tx n f 0 ((b, 73, 0) :: cx) (b + 1 + sp_z e) q V sc 0) fun q V1 _ t =>
          if sp_c tx n q = 69 then st_b (st tx n f 0 ((b, 73, 0) :: cx) (b + 1 + sp_z e + sp_z t) (sp_x tx n (q + 1)) V1 sc 0) fun q V2 _ t2 => .inr (q, V2, sc, .tag (sp_n 73 p (x / 2)) (.append e (.append t (.append t2 .nil))))
          else .inr (q, V1, sc, .tag (sp_n 73 p (x / 2)) (.append e (.append t .nil))))) :
    pv_go cq_T39 1 (pv_call cq_mt D) (kR l w (D + 1) b P) (166, rL b 73 cx.length, [], cs m1 a1 l w) := by
  have hk := kp.2.2
  have hn := kp.1.1.1.1.1
  have hp := cSt_p kp.1.1
  refine r166 D m1 a1 b _ cx.length _ (x_cond (tx := tx) (n := n) (by omega) kp.1.1 hb kp.1.2.1 (kp_g kp) h (fun q u m2 a2 j1 j2 j3 j4 j5 j6 j7 => ?_))
  have hc2 : Cs a1 a2 (b + 1) (cx.length + 1) V := Cs_Ce j3
  refine x_body (cx := (b, 73, 0) :: cx) i0 (by simp only [List.length_cons]; omega) j2 (by omega) (by omega) (Cms_trans kp.1.2.1 j1) (Cg_tr (kp_g kp) hc2) j7 (fun q V1 sc1 t m' a' h1 h2 h3 h4 h5 h6 h7 => ?_)
  have hc3 : Cs a1 a' (b + 1) (cx.length + 1) V := Cs_trans hc2 h3 (by omega) (Nat.le_refl _) (Nat.le_refl _)
  have hM3 := Cms_trans j1 h1
  obtain ⟨d, rfl⟩ := Nat.exists_eq_add_of_le' (show 1 ≤ D by omega)
  obtain ⟨p0, e1, e2, e3⟩ := h2.2.1.1
  have htx := h2.2.2.1
  have hq := cSt_p h2
  have hM1 : Cms m' (upd m' c_R_at (nI q)) := Cms_up (Cms_refl _) _ (by decide)
  have hS1 : cSt tx n (upd m' c_R_at (nI q)) a' ((b, 73, 0) :: cx) (b + 1 + sp_z u + sp_z t) q V1 sc := ⟨h2.1, ⟨⟨q, rfl, hq.1, hq.2⟩, h2.2.1.2⟩, h2.2.2⟩
  have hP1 : PrS a' V1 u (b + 1) sc := PrS_Cs h3 (Nat.le_refl _) h4.2.2.2.1 (Nat.le_refl _) j5.2
  refine r182 d m' a' hn e2 e1 h2.1.2.1 b _ cx.length _ (fun c => ?_) (fun c => ?_)
  · rw [htx, e3] at c ⊢
    rw [if_pos c] at h7
    refine x_expect (tx := tx) (n := n) (f := fun q1 => st_b (st tx n f 0 ((b, 73, 0) :: cx) (b + 1 + sp_z u + sp_z t) q1 V1 sc 0) fun q V2 _ t2 => .inr (q, V2, sc, .tag (sp_n 73 p (x / 2)) (.append u (.append t (.append t2 .nil))))) (Q := sQ l w tx n P m a cx b V sc x) (by omega) hS1 (by omega) (by decide) (Cms_trans kp.1.2.1 (Cms_trans hM3 hM1)) (Cg_tr (kp_g kp) hc3) ?_ (fun m4 r1 r2 r3 r4 => ?_)
    · unfold st_x; rw [if_pos c]; exact h7
    · have hM4 := Cms_trans hM3 (Cms_trans hM1 r1)
      refine bz_bq (l := l) (w := w) (x_body (cx := (b, 73, 0) :: cx) i0 (by simp only [List.length_cons]; omega) r2 (by omega) (by omega) (Cms_trans kp.1.2.1 hM4) (Cg_tr (kp_g kp) hc3) r4 (fun q5 V5 sc5 t5 m5 a5 g1 g2 g3 g4 g5 g6 g7 => ?_))
      refine k_done kp (by decide) hx (by omega) g7 (Cms_trans hM4 g1) (by simp only [sp_z]; rw [Nat.add_zero, ← Nat.add_assoc, ← Nat.add_assoc]; exact g2) (Cs_trans hc3 g3 (by omega) (Nat.le_refl _) h4.2.2.2.1) ⟨PrS_Cs g3 (Nat.le_refl _) g4.2.2.2.1 (by omega) hP1, ?_⟩ (cnR_2 (Nat.le_refl _) (by omega) j6 (cnR_2 h4.2.2.2.1 g4.2.2.2.1 h6 (cnR_n g4.2.2.2.1 g6))) (by simp only [sp_z]; omega)
      rw [scA_eW j5.1]
      refine ⟨PrS_Cs g3 (Nat.le_refl _) g4.2.2.2.1 (Nat.le_refl _) h5.1, ?_, trivial⟩
      rw [h5.2]; exact g5.1
  · rw [htx, e3] at c ⊢
    rw [if_neg c] at h7
    refine k_done kp (by decide) hx (by omega) h7 (Cms_trans hM3 hM1) (by simp only [sp_z]; rw [Nat.add_zero, ← Nat.add_assoc]; exact hS1) hc3 ⟨hP1, ?_, trivial⟩ (cnR_2 (Nat.le_refl _) h4.2.2.2.1 j6 (cnR_n h4.2.2.2.1 h6)) (by simp only [sp_z]; omega)
    rw [scA_eW j5.1]; exact h5.1
end KM
