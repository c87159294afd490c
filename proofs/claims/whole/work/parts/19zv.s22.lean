section TI
variable {d n : Nat} {P : pv_R} {m0 : Nat → Int32} {a0 : Nat → Nat → Int32} {tx : Nat → Int32}
theorem k_S {f : Nat} (i2 : sT2 d n P m0 a0 tx f) (e : Nat) {a a1 : Nat → Nat → Int32} {m1 : Nat → Int32} {cx : cx_T} {b p V : Nat} {sc : sc_T} {x pt : Nat} (hx : x < 4) (hk : cx.length < 20) (hU : cxU cx) (hf : 2 * (n - p) + 1 < f + 1) (g pt' : Int32) (hc : sp_c tx n p = 83) (h : kSt n m0 a0 tx a m1 a1 cx b p V sc 83 x pt)
    (hpost : sPost (d + 10) n P m0 a0 tx a cx b V sc (oOf cx) pt (st_x tx n 40 (sp_x tx n (p + 1)) fun q => st_eb (st_e tx n sc q) fun q u => st_x tx n 41 q fun q => st_x tx n 123 q fun q => st_b (st tx n f 2 ((b, 83, 0) :: cx) (b + 1 + sp_z u) q V sc 1) fun q V1 _ t => .inr (q, V1, sc, .tag (sp_n 83 p (x / 2)) (.append u t)))) : pv_go rq_T26 3 (pv_call rq_mt (e + 5)) (HdP (d + 10) P n) (288, sL6 g pt' 83 1 0 (nI b), [], rs m1 a1) := by
  have hb := h.2.2.2.2.1
  have hn : n ≤ 240 := h.2.1.1.2.2.2.1.1
  have hpn : p < n := sp_c_lt hc (by decide)
  have x1 := sp_x_le (tx := tx) (n := n) (p := p + 1) (by omega)
  refine k_open e hk (by decide) (by decide) g pt' hc h (fun m2 a2 ho => ?_)
  obtain ⟨⟨hM, hG⟩, hR, ⟨hst, hmk⟩, hN, hF⟩ := ho
  refine Hd_pre hR (by omega) 278 rfl (st_278 (d + 8) m2 a2 _ _ _ (rc_stepCases (d + 8) _ _ _ _ ?_))
  refine t37_0 (d + 8) m2 a2 (x := 0) (by omega) hst (by decide) _ (fun _ => ?_) (fun q => absurd rfl q)
  have fend : ∀ q m' a', fSt m0 a0 q m' a' → sFk P m0 a0 q → pv_go rq_T37 3 (pv_call rq_mt (d + 8)) (noneP (HdP (d + 10) P n)) (32, tL cx.length b, [], rs m' a') := by
    intro q m' a' k1 k2
    obtain ⟨⟨v1, v2, v3⟩, v4, s, v5, v6⟩ := k1
    refine t37_32 (d + 8) m' a' (by omega) _ ⟨rfl, fSt_P ⟨⟨Ms_upd v1 _ (by decide), ?_, v3⟩, v4, s, v5, v6⟩ k2⟩
    exact Fg_Fs v2 (Fs_op (Fs_refl a' 0 0 0 0) _ (by decide) (Nat.zero_le _))
  have f26 : ∀ q m' a', fSt m0 a0 q m' a' → sFk P m0 a0 q → pv_go rq_T37 3 (pv_call rq_mt (d + 8)) (noneP (HdP (d + 10) P n)) (26, tL cx.length b, [], rs m' a') := fun q m' a' k1 k2 => t37_26_no (d + 5) m' a' (fSt_w k1) _ (fend q m' a' k1 k2)
  have f20 : ∀ q m' a', fSt m0 a0 q m' a' → sFk P m0 a0 q → pv_go rq_T37 3 (pv_call rq_mt (d + 8)) (noneP (HdP (d + 10) P n)) (20, tL cx.length b, [], rs m' a') := fun q m' a' k1 k2 => t37_20_no (d + 5) m' a' (fSt_w k1) _ (f26 q m' a' k1 k2)
  refine tkU t37_9L (by decide) (d + 5) hM hG hR _ (fun hq hlt m4 j1 j2 => ?_) (fun hq m4 j1 => ?_)
  · rw [st_x_t hq] at hpost
    have x4 := sp_x_le (tx := tx) (n := n) (p := sp_x tx n (p + 1) + 1) (by omega)
    refine ptU t37_15L (d + 2) j1 hG j2 (by omega) _ (fun q u hu hqu hsu m5 a5 l1 l2 l3 l4 l5 l6 => ?_) (fun q hu m5 a5 l1 => ?_)
    · rw [st_eb_r hu] at hpost
      refine tkU t37_20L (by decide) (d + 5) l1 l2 l3 _ (fun hq2 hlt2 m6 o1 o2 => ?_) (fun hq2 m6 o1 => ?_)
      · rw [st_x_t hq2] at hpost
        have x5 := sp_x_le (tx := tx) (n := n) (p := q + 1) (by omega)
        refine tkU t37_26L (by decide) (d + 5) o1 l2 o2 _ (fun hq3 hlt3 m7 v1 v2 => ?_) (fun hq3 m7 v1 => ?_)
        · rw [st_x_t hq3] at hpost
          have x6 := sp_x_le (tx := tx) (n := n) (p := sp_x tx n (q + 1) + 1) (by omega)
          refine t37_32 (d + 8) m7 a5 (by omega) _ ⟨rfl, rfl, _, _, rfl, ?_⟩
          have hFst : ∀ B V s, Fs a5 (up2 a5 r_state cx.length 1) B cx.length V s := fun B V s => Fs_op (Fs_refl _ _ _ _ _) _ (by decide) (Nat.le_refl _)
          have hR7 : sRI tx n (upd m7 r_isCase 0) (up2 a5 r_state cx.length 1) ((b, 83, 0) :: cx) (b + 1 + sp_z u) (sp_x tx n (sp_x tx n (q + 1) + 1)) V sc 0 := by
            obtain ⟨⟨⟨r1, r2⟩, ⟨r3, r4⟩, r5, r6, r7⟩, r8, r9⟩ := sRI_row (j := 38) cx.length 1 v2 (by decide)
            exact ⟨⟨⟨r1, r2⟩, ⟨r3, r4⟩, r5, r6, rfl⟩, r8, r9⟩
          have hmk7 : (up2 a5 r_state cx.length 1) r_mark cx.length = nI sc.length := (up2_ne _ _ (fun q => absurd q.1 (by decide))).trans (by rw [l5.2]; exact hmk)
          have hN5 : nd1 a5 b (nI 83) (nI p) (thOf sc) (oOf cx) (nI pt) (nI (x / 2)) := nd1_Fs (l4 0 0 0) (by omega) hN
          have hN7 : nd1 (up2 a5 r_state cx.length 1) b (nI 83) (nI p) (thOf sc) (oOf cx) (nI pt) (nI (x / 2)) := nd1_Fs (hFst (b + 1) 0 0) (by omega) hN5
          have h27 : Fs a2 (up2 a5 r_state cx.length 1) (b + 1) cx.length V sc.length := Fs_trans (l4 _ _ _) (hFst _ _ _) (Nat.le_refl _) (Nat.le_refl _) (Nat.le_refl _) (Nat.le_refl _)
          have hu7 : BlkS (up2 a5 r_state cx.length 1) V u (b + 1) (nI b) 9 sc := BlkS_mono (hFst _ _ 0) (Nat.le_refl _) (Nat.le_refl _) _ u (Nat.lt_succ_self _) _ _ _ _ (Nat.le_refl _) l6
          refine i2 _ _ cx b (b + 1 + sp_z u) _ V sc 1 ⟨⟨Ms_upd v1 _ (by decide), Fg_Fs l2 (hFst 0 0 0)⟩, hR7, by omega, ⟨Or.inl rfl, hU⟩⟩ (by decide) ⟨up2_eq _ _ _ _, hN7.2.2.1⟩ (by omega) (by omega) ?_
          generalize up2 a5 r_state cx.length 1 = a7 at *
          cases hr : st tx n f 2 ((b, 83, 0) :: cx) (b + 1 + sp_z u) (sp_x tx n (sp_x tx n (q + 1) + 1)) V sc 1 with
          | inl q2 => rw [hr] at hpost; exact hpost
          | inr z =>
            obtain ⟨q2, V1, sc1, t⟩ := z
            rw [hr] at hpost
            obtain ⟨⟨⟨g1, g2⟩, g3, -⟩, ⟨g4, ext, g5, -⟩, -⟩ := st_good f 2 _ _ _ _ _ _ q2 V1 sc1 t (by omega) x6.2 (sp_x_x (by omega)) hr
            intro m8 a8 p8 o e8 k1 k2 k3 k4 k5 k6 k7
            obtain ⟨⟨w1, w2, w3⟩, w4, y, w5, w6, w7⟩ := k5
            rw [g5] at k3
            obtain ⟨p0, y1, y2, y3⟩ := k3.2.1
            have hp8 := sRI_p k3
            have hnx := fun q => sRI_nx k3 q
            have hch := fun q => sRI_ch k3 q
            have hmk8 : a8 r_mark cx.length = nI sc.length := (iFs_row k6 (j := 39) ⟨fun q => by omega, fun _ => Nat.lt_succ_self _, fun q => by omega, fun q => by omega, by omega⟩ (by omega) (by omega)).trans hmk7
            have hoth : ∀ j i, ((3 ≤ j ∧ j ≤ 17) ∨ j = 42) → i < b + 1 + sp_z u → ¬ (j = 14 ∧ i = b) → a8 j i = a7 j i := fun j i hj hi hne => iFs_row k6 ⟨fun _ => hi, fun q => by omega, fun q => by omega, fun q => by omega, by omega⟩ hne (by omega)
            have hE : nI e8 = 0 ∨ nI e8 = 1 := by
              rcases Nat.eq_zero_or_pos e8 with q | q
              · rw [q]; exact Or.inl rfl
              · rw [show e8 = 1 by omega]; exact Or.inr rfl
            have hO : nI o = 0 ∨ nI o = 1 := by
              rcases Nat.eq_zero_or_pos o with q | q
              · rw [q]; exact Or.inl rfl
              · rw [show o = 1 by omega]; exact Or.inr rfl
            refine Hd_pre k3 (by omega) 278 rfl (st_278 (d + 8) m8 a8 _ _ _ (rc_stepCases (d + 8) _ _ _ _ ?_))
            refine t37_0 (d + 8) m8 a8 (by omega) w5 (by omega) _ (fun q => by omega) (fun _ => ?_)
            refine t37_45 (d + 5) m8 a8 hn y2 y1 k3.1.1.1 k3.1.1.2 (by omega) w5 (by omega) (by omega) w1 hO k3.1.2.2.2.2 hE _ (fun _ => ?_) (fun q1 => ?_) (fun q1 => ?_) (fun q1 => ?_) (fun q1 => ?_)
            · rw [hnx, y3]
              have hp9 := sp_c_lt k4.1 (by decide)
              have hFt : ∀ K V s, Fs a8 (up2 a8 r_tailMarked b (nI e8)) b K V s := fun K V s => Fs_nd (Fs_refl _ _ _ _ _) _ (by decide) (Nat.le_refl _)
              have hR9 : sRI tx n (upd (upd m8 r_at (nI (p8 + 1))) r_isCase 0) (up2 a8 r_tailMarked b (nI e8)) ((b, 83, 0) :: cx) (b + 1 + sp_z u + sp_z t) (sp_x tx n (p8 + 1)) V1 (ext ++ sc) 0 := by
                obtain ⟨⟨⟨r1, r2⟩, ⟨r3, r4⟩, r5, r6, r7⟩, r8, r9⟩ := sRI_row (j := 42) b (nI e8) (sRI_at k3 (q := p8 + 1) (by omega)) (by decide)
                exact ⟨⟨⟨r1, r2⟩, ⟨r3, r4⟩, r5, r6, rfl⟩, r8, r9⟩
              refine rd_finish (d + 6) (Ms_upd (Ms_upd k1 _ (by decide)) _ (by decide)) (Fg_Fs k2 (hFt 0 0 0)) hR9 ((up2_ne _ _ (fun q => absurd q.1 (by decide))).trans hmk8) _ (fun m10 a10 u1 u2 u3 u4 => ⟨rfl, rfl, rfl, m10, a10, rfl, ?_⟩)
              rw [← k4.2] at u3
              have e10 : ∀ j i, (j = 42 ∧ i = b → False) → ((3 ≤ j ∧ j ≤ 17) ∨ j = 42) → a10 j i = a8 j i := fun j i hne hj => (u4 (i + 1) 0 0 0 j i ⟨fun _ => Nat.lt_succ_self _, fun q => by omega, fun q => by omega, fun q => by omega, by omega⟩).trans (up2_ne _ _ hne)
              have hmv : ∀ (y : Std.Format) (B0 W : Nat), b + 1 ≤ B0 → W ≤ V1 → BlkS a8 W y B0 (nI b) 9 sc → BlkS a10 V1 y B0 (nI b) 9 sc := by
                intro y B0 W h1 h2 hy
                exact BlkS_mono (u4 (B0 + sp_z y) 0 W 0) (Nat.le_refl _) h2 _ y (Nat.lt_succ_self _) _ _ _ _ (Nat.le_refl _) (BlkS_up (j := 42) (by decide) h1 hy)
              have hu8 : BlkS a8 V u (b + 1) (nI b) 9 sc := by
                obtain ⟨yy, zz, hFi⟩ := k6
                have b1 := BlkS_up (y := yy) (j := 14) (b := b) (by decide) (Nat.le_refl _) hu7
                have b2 : BlkS (up2 (up2 a7 r_hasOther b yy) r_state cx.length zz) V u (b + 1) (nI b) 9 sc := BlkS_mono (Fs_op (Fs_refl (up2 a7 r_hasOther b yy) (b + 1 + sp_z u) 0 V 0) zz (j := 38) (by decide) (Nat.zero_le _)) (Nat.le_refl _) (Nat.le_refl _) _ u (Nat.lt_succ_self _) _ _ _ _ (Nat.le_refl _) b1
                exact BlkS_mono hFi (Nat.le_refl _) (Nat.le_refl _) _ u (Nat.lt_succ_self _) _ _ _ _ (Nat.le_refl _) b2
              have hFx : Fs a a10 b cx.length V sc.length := by
                intro j i hq
                have q1 := hF j i hq
                have q2 := h27 j i (sIn_le (by omega) (Nat.le_refl _) (Nat.le_refl _) (Nat.le_refl _) hq)
                have q3 : a8 j i = a7 j i := iFs_row k6 (sIn_le (by omega) (by omega) (Nat.le_refl _) (Nat.le_refl _) hq) (fun e => by have := hq.1 (Or.inl (by omega)); omega) (fun e => by have := hq.2.1 (by omega); omega)
                have q4 : (up2 a8 r_tailMarked b (nI e8)) j i = a8 j i := up2_ne _ _ (fun e => by have := hq.1 (Or.inr e.1); omega)
                have q5 := u4 b cx.length V sc.length j i hq
                rw [q5, q4, q3, q2, q1]
              refine hpost m10 a10 u1 u2 ?_ hFx ?_
              · rw [show b + sp_z (.tag (sp_n 83 p (x / 2)) (.append u t)) = b + 1 + sp_z u + sp_z t by simp only [sp_z]; omega]
                exact u3
              · have hss : sp_s (sp_n 83 p (x / 2)) = 83 := sp_s_n (by decide) (by omega)
                have hndS : ndS a10 V1 b (sp_n 83 p (x / 2)) (oOf cx) sc := by
                  unfold ndS sp_pl sp_en
                  rw [hss, sp_f_n (by decide) (by omega), sp_v_n (by decide) (by omega), Nat.mod_eq_of_lt (by omega)]
                  obtain ⟨⟨⟨h1, h2⟩, ⟨h3, h4⟩, h5, h6⟩, ⟨⟨h7, h8⟩, h10, h11⟩, h12⟩ := hN7
                  have c : ∀ j, ((3 ≤ j ∧ j ≤ 17) ∧ ¬ j = 14) → a10 j b = a7 j b := fun j hj => (e10 j b (by omega) (Or.inl hj.1)).trans (hoth j b (Or.inl hj.1) (by omega) (by omega))
                  exact ⟨⟨⟨(c 3 (by decide)).trans h1, (c 4 (by decide)).trans h2⟩, ⟨(c 5 (by decide)).trans h3, (c 8 (by decide)).trans h6⟩, (c 9 (by decide)).trans h7, (c 13 (by decide)).trans h11⟩, fun q => absurd q (by decide), fun _ => ⟨(c 7 (by decide)).trans h5, (c 10 (by decide)).trans h8⟩, fun q => absurd q (by decide), fun q => absurd q (by decide)⟩
                unfold BlkS
                rw [hss, if_pos (by decide), if_neg (by decide), if_neg (by decide)]
                refine ⟨⟨hndS, Or.inr ?_, fun _ => ?_⟩, hmv u _ V (Nat.le_refl _) g4 hu8, ?_⟩
                · exact ((e10 6 b (by omega) (by omega)).trans (hoth 6 b (by omega) (by omega) (by omega))).trans hN7.1.2.1.2
                · have t1 : a10 r_tailMarked b = nI e8 := (u4 (b + 1) 0 0 0 42 b ⟨fun _ => Nat.lt_succ_self _, fun q => by omega, fun q => by omega, fun q => by omega, by omega⟩).trans (up2_eq _ _ _ _)
                  have t2 : a10 r_hasOther b = nI o := (e10 14 b (by omega) (by omega)).trans w1
                  show fLine t ↔ _
                  rw [w4, t1, t2]
                  constructor
                  · intro q
                    rcases q with q | q
                    · left; rw [q]; decide
                    · right; rw [q]; rfl
                  · intro q
                    rcases q with q | q
                    · left
                      rcases Nat.eq_zero_or_pos e8 with w | w
                      · rw [w] at q; exact absurd rfl q
                      · omega
                    · right
                      rcases Nat.eq_zero_or_pos o with w | w
                      · exact w
                      · rw [show o = 1 by omega] at q; exact absurd q (by decide)
                · rw [hsu]
                  exact hmv t _ V1 (by omega) (Nat.le_refl _) k7
            · rw [hnx, y3, hch, k4.1] at q1
              exact absurd q1 (fun q => q.elim (by decide) (fun q => absurd q.1 (by decide)))
            · rw [hnx, y3, hch, k4.1] at q1
              exact absurd q1 (fun q => q.elim (by decide) (fun q => absurd q.1 (by decide)))
            · rw [hnx, y3, hch, k4.1] at q1
              exact absurd rfl q1
            · rw [hnx, y3, hch, k4.1] at q1
              exact absurd rfl q1
        · rw [st_x_f hq3] at hpost
          exact fend _ _ _ v1.1 hpost
      · rw [st_x_f hq2] at hpost
        exact f26 _ _ _ o1.1 hpost
    · rw [st_eb_l hu] at hpost
      exact f20 _ _ _ l1.1 hpost
  · rw [st_x_f hq] at hpost
    exact t37_15_no (d + 5) m4 a2 (fSt_w j1.1) _ (f20 _ _ _ j1.1 hpost)
end TI
