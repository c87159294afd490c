section TD
variable {d n : Nat} {P : pv_R} {m0 : Nat → Int32} {a0 : Nat → Nat → Int32} {tx : Nat → Int32}
theorem rd_body {f : Nat} (i0 : sT0 (d + 10) n P m0 a0 tx f) (e : Nat) {m : Nat → Int32} {a : Nat → Nat → Int32} {cx : cx_T} {b s l B q V : Nat} {sc : sc_T} {ptb : Nat} (hM : Ms m0 m) (hG : Fg a0 a) (hR : sRI tx n m a ((b, s, l) :: cx) B q V sc 0) (hB : B + (n - q) ≤ 240) (hU : cxU ((b, s, l) :: cx)) (hf : 2 * (n - q) + 1 < f)
    (h0 : ∀ r, st tx n f 0 ((b, s, l) :: cx) B q V sc 0 = .inl r → sFk P m0 a0 r)
    (h1 : ∀ r V1 t, st tx n f 0 ((b, s, l) :: cx) B q V sc 0 = .inr (r, V1, sc, t) → (q + sp_z t ≤ r ∧ r ≤ n ∧ V ≤ V1) → scA sc t = sc → ∀ m' a', Ms m0 m' → Fg a0 a' → sRI tx n m' a' ((b, s, l) :: cx) (B + sp_z t) r V1 sc 0 → Fs a a' B (cx.length + 1) V sc.length → BlkS a' V1 t B (nI b) ptb sc → Hd (d + 10) P n m' a') : pv_call rq_mt (e + 6) rq_m_R_readStmt [.ref 0, .int 0, .int (nI ptb)] (rs m a) (HdP (d + 10) P n) := by
  have hp := sRI_p hR
  refine i0 e m a _ B q V sc 0 ptb ⟨⟨hM, hG⟩, hR, hB, hU⟩ (by omega) (by omega) ?_
  cases hr : st tx n f 0 ((b, s, l) :: cx) B q V sc 0 with
  | inl r => exact h0 r hr
  | inr z =>
    obtain ⟨r, V1, sc1, t⟩ := z
    obtain ⟨⟨⟨g1, g2⟩, g3, -⟩, ⟨g4, -⟩, -⟩ := st_good f 0 _ _ _ _ _ _ r V1 sc1 t (by omega) hp.1 hp.2 hr
    obtain ⟨s1, s2⟩ := st_scA hR.2.2.2.1.1 (by omega) hR.2.2.2.2.2.2 hr
    have s2 := s2 rfl
    subst s2
    exact fun m' a' k1 k2 k3 k4 k5 => h1 r V1 t hr ⟨g1, g2, g4⟩ s1.symm m' a' k1 k2 k3 k4 k5
/-- a plain stmt's end: the state of reading behind it, with its block -/
theorem post_plain {a a2 a5 : Nat → Nat → Int32} {m5 : Nat → Int32} {cx : cx_T} {b p V V1 q : Nat} {sc : sc_T} {s x pt : Nat} {t : Std.Format} (hx : x < 4) (hs : s < 256) (hp : p < 256) (hs2 : stS s ∧ ¬ (s = 36 ∨ s = 37) ∧ ¬ (s = 66 ∨ s = 67) ∧ ¬ s = 84 ∧ ¬ s = 83 ∧ ¬ s = 123) (hpost : sPost (d + 10) n P m0 a0 tx a cx b V sc (oOf cx) pt (.inr (q, V1, sc, .tag (sp_n s p (x / 2)) t))) (hN : nd1 a2 b (nI s) (nI p) (thOf sc) (oOf cx) (nI pt) (nI (x / 2))) (hF : Fs a a2 b cx.length V sc.length) (hF2 : Fs a2 a5 (b + 1) cx.length V sc.length) (hM : Ms m0 m5) (hG : Fg a0 a5) (hR : sRI tx n m5 a5 cx (b + 1 + sp_z t) q V1 sc 0) (hB : BlkS a5 V1 t (b + 1) (nI b) 9 sc) : Hd (d + 10) P n m5 a5 := by
  have hss : sp_s (sp_n s p (x / 2)) = s := sp_s_n hs hp
  have hN' := nd1_Fs hF2 (by omega) hN
  refine hpost m5 a5 hM hG ?_ (Fs_trans hF hF2 (by omega) (Nat.le_refl _) (Nat.le_refl _) (Nat.le_refl _)) ?_
  · rw [show b + sp_z (.tag (sp_n s p (x / 2)) t) = b + 1 + sp_z t by simp only [sp_z]; omega]
    exact hR
  · refine BlkS_tag (by rw [hss]; exact hs2.1) (by rw [hss]; exact hs2.2.2.2.1) (by rw [hss]; exact hs2.2.2.2.2.1) (nd1_S hs hp (by omega) rfl ⟨hs2.2.1, hs2.2.2.1, hs2.2.2.2.1⟩ hN') hN'.1.2.1.2 ?_
    rw [hss, if_neg hs2.2.2.2.2.2]
    exact hB
theorem k_label {f : Nat} (i0 : sT0 (d + 10) n P m0 a0 tx f) (e : Nat) {a a1 : Nat → Nat → Int32} {m1 : Nat → Int32} {cx : cx_T} {b p V : Nat} {sc : sc_T} {x pt l : Nat} (hx : x < 4) (hk : cx.length < 20) (hU : cxU cx) (hf : 2 * (n - p) + 1 < f + 1) (g pt' : Int32) (hl : 50 ≤ l ∧ l ≤ 57) (hc : sp_c tx n p = nI l) (h : kSt n m0 a0 tx a m1 a1 cx b p V sc 58 x pt)
    (hpost : sPost (d + 10) n P m0 a0 tx a cx b V sc (oOf cx) pt (if cx_lab cx l then .inl p
        else st_x tx n 58 (sp_x tx n (p + 1)) fun q => st_b (st tx n f 0 ((b, 58, l) :: cx) (b + 1) q V sc 0) fun q V1 _ t => .inr (q, V1, sc, .tag (sp_n 58 p (x / 2)) (.append t .nil)))) : pv_go rq_T26 3 (pv_call rq_mt (e + 5)) (HdP (d + 10) P n) (288, sL6 g pt' (nI l) 1 0 (nI b), [], rs m1 a1) := by
  obtain ⟨⟨hM, hG⟩, ⟨hR, hat⟩, ⟨hN, hlb⟩, hF, hb⟩ := h
  have hn : n ≤ 240 := hR.2.2.2.1.1
  have hpn : p < n := sp_c_lt hc (nI_m1 (by omega))
  have x1 := sp_x_le (tx := tx) (n := n) (p := p + 1) (by omega)
  have hcx := hR.2.2.1.1.1
  have hlbx := lbH_cx (a := a1) (b := b + 1) (l := l) (by omega) (by omega) (by omega) cx hcx
  -- the row with the label
  have hFl : ∀ K V s, Fs a1 (up2 a1 r_label b (nI l)) b K V s := fun K V s => Fs_nd (Fs_refl _ _ _ _ _) _ (by decide) (Nat.le_refl _)
  have hG' : Fg a0 (up2 a1 r_label b (nI l)) := Fg_Fs hG (hFl 0 0 0)
  have hv' : vOK (up2 a1 r_label b (nI l)) := hR.2.2.2.2.1
  have bad : ∀ (q : Nat) (m2 : Nat → Int32), Ms m0 m2 → m2 r_wrong = nI q → q ≤ 240 → m2 r_scopes = nI sc.length → m2 r_opened = nI cx.length → sFk P m0 a0 q → pv_call rq_mt (e + 5) rq_m_R_begin [.ref 0, .int (nI b)] (rs m2 (up2 a1 r_label b (nI l))) (fun o S => o = none ∧ HdP (d + 10) P n none S) := by
    intro q m2 hM2 hw hq hs2 hop hp2
    refine rc_begin (e + 4) m2 (up2 a1 r_label b (nI l)) (k := cx.length) (by omega) hop (nI b) _ ⟨rfl, fSt_P ⟨⟨Ms_upd hM2 _ (by decide), ?_, hv'⟩, ⟨hw, hq⟩, sc.length, sRI_len hR, hs2⟩ hp2⟩
    exact Fg_Fs hG' (Fs_op (Fs_op (Fs_op (Fs_refl _ 0 0 0 0) _ (by decide) (Nat.zero_le _)) _ (by decide) (Nat.zero_le _)) _ (by decide) (Nat.zero_le _))
  refine rs_doLabel (e + 4) m1 a1 g pt' (nI l) (nI b) ⟨(nI_leI (a := 50) (by omega) (by omega)).mpr hl.1, (nI_leI (b := 57) (by omega) (by omega)).mpr hl.2⟩ _ ?_
  refine rc_readLabel (e + 1) m1 a1 hn hpn hat hR.1.1.1 hR.1.1.2 (by omega) (by omega) hR.1.2.1.1 (cx_open (by omega) cx hcx) (nI l) _ (fun hL => ?_) (fun hL hq => ?_) (fun hL hq => ?_)
  · rw [if_pos (hlbx.mp hL)] at hpost
    exact ⟨rfl, _, _, rfl, bad p _ (Ms_upd (Ms_upd hM _ (by decide)) _ (by decide)) rfl (by omega) hR.1.2.2.2.1 hR.1.2.1.1 hpost⟩
  · rw [if_neg (fun q => hL (hlbx.mpr q))] at hpost
    rw [sRI_nx hR, sRI_ch hR] at hq
    rw [sRI_nx hR]
    have hpost : sPost (d + 10) n P m0 a0 tx a cx b V sc (oOf cx) pt (st_b (st tx n f 0 ((b, 58, l) :: cx) (b + 1) (sp_x tx n (sp_x tx n (p + 1) + 1)) V sc 0) fun q V1 _ t => .inr (q, V1, sc, .tag (sp_n 58 p (x / 2)) (.append t .nil))) := by
      have h := hpost
      unfold st_x at h
      simp only [hq, if_true] at h
      exact h
    have hq1 := sp_c_lt hq (by decide)
    have x2 := sp_x_le (tx := tx) (n := n) (p := sp_x tx n (p + 1) + 1) (by omega)
    refine ⟨rfl, _, _, rfl, ?_⟩
    -- the labelled row keeps the reading's state: its label is b's own
    have hRl : sRI tx n (upd m1 r_at (nI (sp_x tx n (p + 1) + 1))) (up2 a1 r_label b (nI l)) cx (b + 1) (sp_x tx n (sp_x tx n (p + 1) + 1)) V sc 0 := by
      obtain ⟨r1, r8, ⟨⟨r11, r12⟩, ⟨r13, r14⟩, r15⟩, r16⟩ := sRI_at hR (q := sp_x tx n (p + 1) + 1) (by omega)
      have hsr : ∀ y : sc_T, scR a1 y → scR (up2 a1 r_label b (nI l)) y := by
        intro y
        induction y with
        | nil => intro _; trivial
        | cons q r ih =>
          obtain ⟨u, v⟩ := q
          intro h
          exact ⟨h.1, ih h.2⟩
      have hlt : ∀ y : cx_T, cxR a1 b y → cxR (up2 a1 r_label b (nI l)) (b + 1) y := fun y hy => cxR_Fs y (hFl y.length 0 0) (Nat.le_refl _) (by omega) (Nat.le_refl _) hy
      have hcxb : cxR a1 b cx := hb.2
      exact ⟨r1, r8, ⟨⟨hlt cx hcxb, r12⟩, ⟨hsr sc r13, r14⟩, r15⟩, r16⟩
    refine rd_begin (e + 4) (m0 := m0) (a0 := a0) (Ms_upd hM _ (by decide)) hG' hRl hk ((up2_ne _ _ (fun q => absurd q.1 (by decide))).trans hN.1.1.1) (by decide) (l := l) (by rw [up2_eq, if_neg (by omega)]; simp) (by omega) _ (fun m2 a2 k1 k2 k3 k4 k5 => ⟨rfl, rfl, m2, a2, rfl, ?_⟩)
    have hmk := k5.2
    have hN2 : nd1 a2 b (nI 58) (nI p) (thOf sc) (oOf cx) (nI pt) (nI (x / 2)) := by
      refine nd1_Fs (k4 (b + 1) 0 0) (by omega) ?_
      obtain ⟨⟨⟨h1, h2⟩, ⟨h3, h4⟩, h5, h6⟩, ⟨⟨h7, h8⟩, h10, h11⟩, h12, h13, h14⟩ := hN
      exact ⟨⟨⟨(up2_ne _ _ (fun q => absurd q.1 (by decide))).trans h1, (up2_ne _ _ (fun q => absurd q.1 (by decide))).trans h2⟩, ⟨(up2_ne _ _ (fun q => absurd q.1 (by decide))).trans h3, (up2_ne _ _ (fun q => absurd q.1 (by decide))).trans h4⟩, (up2_ne _ _ (fun q => absurd q.1 (by decide))).trans h5, (up2_ne _ _ (fun q => absurd q.1 (by decide))).trans h6⟩, ⟨⟨(up2_ne _ _ (fun q => absurd q.1 (by decide))).trans h7, (up2_ne _ _ (fun q => absurd q.1 (by decide))).trans h8⟩, (up2_ne _ _ (fun q => absurd q.1 (by decide))).trans h10, (up2_ne _ _ (fun q => absurd q.1 (by decide))).trans h11⟩, (up2_ne _ _ (fun q => absurd q.1 (by decide))).trans h12, (up2_ne _ _ (fun q => absurd q.1 (by decide))).trans h13, (up2_ne _ _ (fun q => absurd q.1 (by decide))).trans h14⟩
    have hF2 : Fs a a2 b cx.length V sc.length := Fs_trans hF (Fs_trans (hFl cx.length V sc.length) (k4 b V sc.length) (Nat.le_refl _) (Nat.le_refl _) (Nat.le_refl _) (Nat.le_refl _)) (Nat.le_refl _) (Nat.le_refl _) (Nat.le_refl _) (Nat.le_refl _)
    refine Hd_pre k3 (by omega) 103 rfl ?_
    refine st_103 (d + 8) m2 a2 (x := 0) (by omega) k5.1 (by decide) _ (fun _ => ?_) (fun q => absurd rfl q)
    have hFst : ∀ B V s, Fs a2 (up2 a2 r_state cx.length (nI (0 + 1))) B cx.length V s := fun B V s => Fs_op (Fs_refl _ _ _ _ _) _ (by decide) (Nat.le_refl _)
    refine HdP_cm (fun m a hH => ⟨rfl, m, a, rfl, hH⟩) (rd_body i0 (d + 3) (ptb := 0) k1 (Fg_Fs k2 (hFst 0 0 0)) (sRI_row _ _ k3 (by decide)) (by omega) ⟨Or.inr (fun q => hL (hlbx.mpr q)), hU⟩ (by omega) (fun r hr => ?_) (fun r V1 t hr hg hsA m3 a3 j1 j2 j3 j4 j5 => ?_))
    · rw [hr] at hpost; exact hpost
    · rw [hr] at hpost
      have hmk3 : a3 r_mark cx.length = nI sc.length := (Fs_st j4 (by decide) (Nat.lt_succ_self _)).trans ((up2_ne _ _ (fun q => absurd q.1 (by decide))).trans hmk)
      have hst3 : a3 r_state cx.length = nI 1 := (Fs_st j4 (by decide) (Nat.lt_succ_self _)).trans (up2_eq _ _ _ _)
      refine Hd_pre j3 (by omega) 103 rfl ?_
      refine st_103 (d + 8) m3 a3 (x := 1) (by omega) hst3 (by decide) _ (fun q => absurd q (by decide)) (fun _ => ?_)
      have hFs3 : ∀ B V s, Fs a3 (up2 a3 r_state cx.length (nI (1 + 1))) B cx.length V s := fun B V s => Fs_op (Fs_refl _ _ _ _ _) _ (by decide) (Nat.le_refl _)
      refine rd_finish (d + 7) (ext := []) j1 (Fg_Fs j2 (hFs3 0 0 0)) (sRI_row _ _ j3 (by decide)) ((up2_ne _ _ (fun q => absurd q.1 (by decide))).trans hmk3) _ (fun m5 a5 l1 l2 l3 l4 => ⟨rfl, rfl, m5, a5, rfl, ?_⟩)
      have h35 : Fs a3 a5 (b + 1 + sp_z t) cx.length V1 sc.length := Fs_trans (hFs3 _ _ _) (l4 _ _ _ _) (Nat.le_refl _) (Nat.le_refl _) (Nat.le_refl _) (Nat.le_refl _)
      have h25 : Fs a2 a5 (b + 1) cx.length V sc.length := Fs_trans (hFst _ _ _) (Fs_trans (Fs_le j4 (Nat.le_refl _) (Nat.le_succ _) (Nat.le_refl _) (Nat.le_refl _)) h35 (by omega) (Nat.le_refl _) (by omega) (Nat.le_refl _)) (Nat.le_refl _) (Nat.le_refl _) (Nat.le_refl _) (Nat.le_refl _)
      refine post_plain hx (by decide) (by omega) (by decide) hpost hN2 hF2 h25 l1 l2 ?_ ⟨?_, trivial⟩
      · rw [show sp_z (.append t .nil) = sp_z t from rfl]
        exact l3
      · exact BlkS_9 _ _ _ _ _ (BlkS_mono h35 (Nat.le_refl _) (Nat.le_refl _) _ t (Nat.lt_succ_self _) _ _ _ _ (Nat.le_refl _) j5)
  · rw [if_neg (fun q => hL (hlbx.mpr q))] at hpost
    rw [sRI_nx hR, sRI_ch hR] at hq
    rw [sRI_nx hR]
    have hpost : sFk P m0 a0 (sp_x tx n (p + 1)) := by
      have h := hpost
      unfold st_x at h
      simp only [hq, if_false] at h
      exact h
    exact ⟨rfl, _, _, rfl, bad _ _ (Ms_upd (Ms_upd hM _ (by decide)) _ (by decide)) rfl (by omega) hR.1.2.2.2.1 hR.1.2.1.1 hpost⟩
end TD
