section TG
variable {d n : Nat} {P : pv_R} {m0 : Nat → Int32} {a0 : Nat → Nat → Int32} {tx : Nat → Int32}
theorem k_I {f : Nat} (i0 : sT0 (d + 10) n P m0 a0 tx f) (e : Nat) {a a1 : Nat → Nat → Int32} {m1 : Nat → Int32} {cx : cx_T} {b p V : Nat} {sc : sc_T} {x pt : Nat} (hx : x < 4) (hk : cx.length < 20) (hU : cxU cx) (hf : 2 * (n - p) + 1 < f + 1) (g pt' : Int32) (hc : sp_c tx n p = 73) (h : kSt n m0 a0 tx a m1 a1 cx b p V sc 73 x pt)
    (hpost : sPost (d + 10) n P m0 a0 tx a cx b V sc (oOf cx) pt (st_x tx n 40 (sp_x tx n (p + 1)) fun q => st_eb (st_e tx n sc q) fun q u => st_x tx n 41 q fun q => st_b (st tx n f 0 ((b, 73, 0) :: cx) (b + 1 + sp_z u) q V sc 0) fun q V1 _ t =>
          if sp_c tx n q = 69 then st_b (st tx n f 0 ((b, 73, 0) :: cx) (b + 1 + sp_z u + sp_z t) (sp_x tx n (q + 1)) V1 sc 0) fun q V2 _ t2 => .inr (q, V2, sc, .tag (sp_n 73 p (x / 2)) (.append u (.append t (.append t2 .nil))))
          else .inr (q, V1, sc, .tag (sp_n 73 p (x / 2)) (.append u (.append t .nil))))) : pv_go rq_T26 3 (pv_call rq_mt (e + 5)) (HdP (d + 10) P n) (288, sL6 g pt' 73 1 0 (nI b), [], rs m1 a1) := by
  have hb := h.2.2.2.2.1
  have hn : n ≤ 240 := h.2.1.1.2.2.2.1.1
  have hpn : p < n := sp_c_lt hc (by decide)
  have x1 := sp_x_le (tx := tx) (n := n) (p := p + 1) (by omega)
  refine k_open e hk (by decide) (by decide) g pt' hc h (fun m2 a2 ho => ?_)
  obtain ⟨⟨hM, hG⟩, hR, ⟨hst, hmk⟩, hN, hF⟩ := ho
  refine Hd_pre hR (by omega) 139 rfl (st_139 (d + 8) m2 a2 _ _ _ (rc_stepIf (d + 8) _ _ _ _ ?_))
  refine t36_0 (d + 8) m2 a2 (x := 0) (by omega) hst (by decide) _ (fun _ => ?_) (fun q => absurd rfl q)
  have hFst : ∀ B V s, Fs a2 (up2 a2 r_state cx.length (nI (0 + 1))) B cx.length V s := fun B V s => Fs_op (Fs_refl _ _ _ _ _) _ (by decide) (Nat.le_refl _)
  have hst3 : (up2 a2 r_state cx.length (nI (0 + 1))) r_state cx.length = nI 1 := up2_eq _ _ _ _
  have hmk3 : (up2 a2 r_state cx.length (nI (0 + 1))) r_mark cx.length = nI sc.length := (up2_ne _ _ (fun q => absurd q.1 (by decide))).trans hmk
  have hR3 : sRI tx n m2 (up2 a2 r_state cx.length (nI (0 + 1))) ((b, 73, 0) :: cx) (b + 1) (sp_x tx n (p + 1)) V sc 0 := sRI_row _ _ hR (by decide)
  have hG3 := Fg_Fs hG (hFst 0 0 0)
  generalize up2 a2 r_state cx.length (nI (0 + 1)) = a3 at *
  have f37 : ∀ q m' a', fSt m0 a0 q m' a' → sFk P m0 a0 q → pv_go rq_T36 3 (pv_call rq_mt (d + 8)) (noneP (HdP (d + 10) P n)) (37, tL cx.length b, [], rs m' a') := fun q m' a' k1 k2 => t36_37_no (d + 5) m' a' (fSt_w k1) _ ⟨rfl, fSt_P k1 k2⟩
  have f31 : ∀ q m' a', fSt m0 a0 q m' a' → sFk P m0 a0 q → pv_go rq_T36 3 (pv_call rq_mt (d + 8)) (noneP (HdP (d + 10) P n)) (31, tL cx.length b, [], rs m' a') := fun q m' a' k1 k2 => t36_31_no (d + 5) m' a' (fSt_w k1) _ (f37 q m' a' k1 k2)
  refine tkU t36_20L (by decide) (d + 5) hM hG3 hR3 _ (fun hq hlt m4 j1 j2 => ?_) (fun hq m4 j1 => ?_)
  · rw [st_x_t hq] at hpost
    have x4 := sp_x_le (tx := tx) (n := n) (p := sp_x tx n (p + 1) + 1) (by omega)
    refine ptU t36_26L (d + 2) j1 hG3 j2 (by omega) _ (fun q u hu hqu hsu m5 a5 l1 l2 l3 l4 l5 l6 => ?_) (fun q hu m5 a5 l1 => ?_)
    · rw [st_eb_r hu] at hpost
      refine tkU t36_31L (by decide) (d + 5) l1 l2 l3 _ (fun hq2 hlt2 m6 o1 o2 => ?_) (fun hq2 m6 o1 => ?_)
      · rw [st_x_t hq2] at hpost
        have x5 := sp_x_le (tx := tx) (n := n) (p := q + 1) (by omega)
        refine t36_37_ok (d + 5) m6 a5 o2.1.1.2 _ ?_
        refine HdP_cm (fun m a hH => ⟨rfl, rfl, m, a, rfl, hH⟩) (rd_body i0 (d + 1) (ptb := 0) o1 l2 o2 (by omega) ⟨Or.inl rfl, hU⟩ (by omega) (fun r hr => ?_) (fun r V1 t hr hg hsA m7 a7 r1 r2 r3 r4 r5 => ?_))
        · rw [hr] at hpost; exact hpost
        · rw [hr] at hpost
          have hpost : sPost (d + 10) n P m0 a0 tx a cx b V sc (oOf cx) pt (if sp_c tx n r = 69 then st_b (st tx n f 0 ((b, 73, 0) :: cx) (b + 1 + sp_z u + sp_z t) (sp_x tx n (r + 1)) V1 sc 0) fun q V2 _ t2 => .inr (q, V2, sc, .tag (sp_n 73 p (x / 2)) (.append u (.append t (.append t2 .nil))))
            else .inr (r, V1, sc, .tag (sp_n 73 p (x / 2)) (.append u (.append t .nil)))) := hpost
          have hmk7 : a7 r_mark cx.length = nI sc.length := (Fs_st r4 (by decide) (Nat.lt_succ_self _)).trans (by rw [l5.2]; exact hmk3)
          have hst7 : a7 r_state cx.length = nI 1 := (Fs_st r4 (by decide) (Nat.lt_succ_self _)).trans (by rw [l5.1]; exact hst3)
          have h27 : Fs a2 a7 (b + 1) cx.length V sc.length := Fs_trans (hFst _ _ _) (Fs_trans (l4 _ _ _) (Fs_le r4 (Nat.le_refl _) (Nat.le_succ _) (Nat.le_refl _) (Nat.le_refl _)) (by omega) (Nat.le_refl _) (Nat.le_refl _) (Nat.le_refl _)) (Nat.le_refl _) (Nat.le_refl _) (Nat.le_refl _) (Nat.le_refl _)
          have hu7 : BlkS a7 V1 u (b + 1) (nI b) 9 sc := BlkS_mono r4 (Nat.le_refl _) (by omega) _ u (Nat.lt_succ_self _) _ _ _ _ (Nat.le_refl _) l6
          refine Hd_pre r3 (by omega) 139 rfl (st_139 (d + 8) m7 a7 _ _ _ (rc_stepIf (d + 8) _ _ _ _ ?_))
          refine t36_0 (d + 8) m7 a7 (x := 1) (by omega) hst7 (by decide) _ (fun q => absurd q (by decide)) (fun _ => ?_)
          have hFs7 : ∀ B V s, Fs a7 (up2 a7 r_state cx.length (nI (1 + 1))) B cx.length V s := fun B V s => Fs_op (Fs_refl _ _ _ _ _) _ (by decide) (Nat.le_refl _)
          have hmk8 : (up2 a7 r_state cx.length (nI (1 + 1))) r_mark cx.length = nI sc.length := (up2_ne _ _ (fun q => absurd q.1 (by decide))).trans hmk7
          have hst8 : (up2 a7 r_state cx.length (nI (1 + 1))) r_state cx.length = nI 2 := up2_eq _ _ _ _
          have r3' : sRI tx n m7 (up2 a7 r_state cx.length (nI (1 + 1))) ((b, 73, 0) :: cx) (b + 1 + sp_z u + sp_z t) r V1 sc 0 := sRI_row _ _ r3 (by decide)
          have r2' := Fg_Fs r2 (hFs7 0 0 0)
          generalize up2 a7 r_state cx.length (nI (1 + 1)) = a8 at *
          obtain ⟨p0, y1, y2, y3⟩ := r3'.2.1
          have hrp := sRI_p r3'
          refine t36_44 (d + 6) m7 a8 hn y2 y1 r3'.1.1.1 (by omega) hst8 (by decide) (by omega) _ (fun _ hE => ?_) (fun _ hE => ?_) (fun q => absurd rfl q)
          · rw [sRI_nx r3', y3] at hE ⊢
            rw [sRI_ch r3'] at hE
            rw [if_pos hE] at hpost
            have hrn := sp_c_lt hE (by decide)
            have x6 := sp_x_le (tx := tx) (n := n) (p := r + 1) (by omega)
            have hFe : ∀ K V s, Fs a8 (up2 a8 r_hasElse b 1) b K V s := fun K V s => Fs_nd (Fs_refl _ _ _ _ _) _ (by decide) (Nat.le_refl _)
            have hR9 : sRI tx n (upd m7 r_at (nI (r + 1))) (up2 a8 r_hasElse b 1) ((b, 73, 0) :: cx) (b + 1 + sp_z u + sp_z t) (sp_x tx n (r + 1)) V1 sc 0 := sRI_row _ _ (sRI_at r3' (by omega)) (by decide)
            -- nodes behind b stand
            have hEx : ∀ (j i : Nat), ¬ (j = 17 ∧ i = b) → (up2 a8 r_hasElse b 1) j i = a8 j i := fun j i hq => up2_ne _ _ hq
            refine HdP_cm (fun m a hH => ⟨rfl, rfl, m, a, rfl, hH⟩) (rd_body i0 (d + 2) (ptb := 1) (Ms_upd r1 _ (by decide)) (Fg_Fs r2' (hFe 0 0 0)) hR9 (by omega) ⟨Or.inl rfl, hU⟩ (by omega) (fun r' hr' => ?_) (fun r' V2 t2 hr' hg' hsA' m9 a9 s1 s2 s3 s4 s5 => ?_))
            · rw [hr'] at hpost; exact hpost
            · rw [hr'] at hpost
              have hmk9 : a9 r_mark cx.length = nI sc.length := (Fs_st s4 (by decide) (Nat.lt_succ_self _)).trans hmk8
              have hst9 : a9 r_state cx.length = nI 2 := (Fs_st s4 (by decide) (Nat.lt_succ_self _)).trans hst8
              refine Hd_pre s3 (by omega) 139 rfl (st_139 (d + 8) m9 a9 _ _ _ (rc_stepIf (d + 8) _ _ _ _ ?_))
              refine t36_0 (d + 8) m9 a9 (x := 2) (by omega) hst9 (by decide) _ (fun q => absurd q (by decide)) (fun _ => ?_)
              have hFs9 : ∀ B V s, Fs a9 (up2 a9 r_state cx.length (nI (2 + 1))) B cx.length V s := fun B V s => Fs_op (Fs_refl _ _ _ _ _) _ (by decide) (Nat.le_refl _)
              have hst10 : (up2 a9 r_state cx.length (nI (2 + 1))) r_state cx.length = nI 3 := up2_eq _ _ _ _
              obtain ⟨p9, z1, z2, z3⟩ := s3.2.1
              refine t36_44 (d + 6) m9 _ hn z2 z1 s3.1.1.1 (by omega) hst10 (by decide) (by omega) _ (fun q => absurd q (by decide)) (fun q => absurd q (by decide)) (fun _ => ?_)
              refine t36_89 (d + 7) m9 _ cx.length b _ ?_
              refine rd_finish (d + 6) (ext := []) s1 (Fg_Fs s2 (hFs9 0 0 0)) (sRI_row _ _ s3 (by decide)) ((up2_ne _ _ (fun q => absurd q.1 (by decide))).trans hmk9) _ (fun m10 a10 u1 u2 u3 u4 => ⟨rfl, rfl, rfl, m10, a10, rfl, ?_⟩)
              have h9x : Fs a9 a10 (b + 1 + sp_z u + sp_z t + sp_z t2) cx.length V2 sc.length := Fs_trans (hFs9 _ _ _) (u4 _ _ _ _) (Nat.le_refl _) (Nat.le_refl _) (Nat.le_refl _) (Nat.le_refl _)
              have hEx10 : Fs (up2 a8 r_hasElse b 1) a10 (b + 1 + sp_z u + sp_z t) cx.length V1 sc.length := Fs_trans (Fs_le s4 (Nat.le_refl _) (Nat.le_succ _) (Nat.le_refl _) (Nat.le_refl _)) h9x (by omega) (Nat.le_refl _) (by omega) (Nat.le_refl _)
              -- the blocks of u and t, from a7 on: all rows but hasElse of b
              have hmv : ∀ (y : Std.Format) (B0 : Nat) (o : Int32) (pp : Nat), b + 1 ≤ B0 → B0 + sp_z y ≤ b + 1 + sp_z u + sp_z t → BlkS a7 V1 y B0 o pp sc → BlkS a10 V2 y B0 o pp sc := by
                intro y B0 o pp hB1 hB2 hy
                have hy8 : BlkS a8 V1 y B0 o pp sc := BlkS_mono (hFs7 (b + 1 + sp_z u + sp_z t) V1 0) (Nat.le_refl _) (Nat.le_refl _) _ y (Nat.lt_succ_self _) _ _ _ _ hB2 hy
                have hy9 : BlkS (up2 a8 r_hasElse b 1) V1 y B0 o pp sc := BlkS_up (by decide) hB1 hy8
                exact BlkS_mono hEx10 (Nat.le_refl _) (by omega) _ y (Nat.lt_succ_self _) _ _ _ _ hB2 hy9
              have hF2x : Fs a a10 b cx.length V sc.length := Fs_trans hF (Fs_trans (Fs_le h27 (by omega) (Nat.le_refl _) (Nat.le_refl _) (Nat.le_refl _)) (Fs_trans (hFs7 b V sc.length) (Fs_trans (hFe cx.length V sc.length) hEx10 (by omega) (Nat.le_refl _) (by omega) (Nat.le_refl _)) (Nat.le_refl _) (Nat.le_refl _) (Nat.le_refl _) (Nat.le_refl _)) (Nat.le_refl _) (Nat.le_refl _) (Nat.le_refl _) (Nat.le_refl _)) (Nat.le_refl _) (Nat.le_refl _) (Nat.le_refl _) (Nat.le_refl _)
              have hN8 : nd1 a8 b (nI 73) (nI p) (thOf sc) (oOf cx) (nI pt) (nI (x / 2)) := nd1_Fs (hFs7 (b + 1) 0 0) (by omega) (nd1_Fs h27 (by omega) hN)
              have hN10 : nd1 a10 b (nI 73) (nI p) (thOf sc) (oOf cx) (nI pt) (nI (x / 2)) := nd1_Fs hEx10 (by omega) (nd1_up (by decide) hN8)
              refine hpost m10 a10 u1 u2 ?_ hF2x ?_
              · rw [show b + sp_z (.tag (sp_n 73 p (x / 2)) (.append u (.append t (.append t2 .nil)))) = b + 1 + sp_z u + sp_z t + sp_z t2 by simp only [sp_z]; omega]
                exact u3
              · have hss : sp_s (sp_n 73 p (x / 2)) = 73 := sp_s_n (by decide) (by omega)
                refine BlkS_tag (by rw [hss]; decide) (by rw [hss]; decide) (by rw [hss]; decide) (nd1_S (by decide) (by omega) (by omega) rfl (by decide) hN10) hN10.1.2.1.2 ?_
                rw [hss, if_neg (by decide)]
                refine ⟨hmv u _ _ _ (Nat.le_refl _) (by omega) hu7, ?_, ?_, trivial⟩
                · rw [hsu]
                  exact hmv t _ _ _ (by omega) (Nat.le_refl _) (BlkS_9 _ _ _ _ _ r5)
                · rw [hsu, hsA]
                  exact BlkS_9 _ _ _ _ _ (BlkS_mono h9x (Nat.le_refl _) (Nat.le_refl _) _ t2 (Nat.lt_succ_self _) _ _ _ _ (Nat.le_refl _) s5)
          · rw [sRI_nx r3', y3] at hE ⊢
            rw [sRI_ch r3'] at hE
            rw [if_neg hE] at hpost
            refine t36_89 (d + 7) _ _ cx.length b _ ?_
            have hR9 := sRI_at r3' hrp.1
            rw [hrp.2] at hR9
            refine rd_finish (d + 6) (ext := []) (Ms_upd r1 _ (by decide)) r2' hR9 hmk8 _ (fun m10 a10 u1 u2 u3 u4 => ⟨rfl, rfl, rfl, m10, a10, rfl, ?_⟩)
            have h7x : Fs a7 a10 (b + 1 + sp_z u + sp_z t) cx.length V1 sc.length := Fs_trans (hFs7 _ _ _) (u4 _ _ _ _) (Nat.le_refl _) (Nat.le_refl _) (Nat.le_refl _) (Nat.le_refl _)
            have h2x : Fs a2 a10 (b + 1) cx.length V sc.length := Fs_trans h27 h7x (by omega) (Nat.le_refl _) (by omega) (Nat.le_refl _)
            refine post_plain hx (by decide) (by omega) (by decide) hpost hN hF h2x u1 u2 ?_ ⟨BlkS_mono h7x (Nat.le_refl _) (Nat.le_refl _) _ u (Nat.lt_succ_self _) _ _ _ _ (by omega) hu7, ?_, trivial⟩
            · rw [show b + 1 + sp_z (.append u (.append t .nil)) = b + 1 + sp_z u + sp_z t by simp only [sp_z]; omega]
              exact u3
            · rw [hsu]
              exact BlkS_9 _ _ _ _ _ (BlkS_mono h7x (Nat.le_refl _) (Nat.le_refl _) _ t (Nat.lt_succ_self _) _ _ _ _ (Nat.le_refl _) r5)
      · rw [st_x_f hq2] at hpost
        exact f37 _ _ _ o1.1 hpost
    · rw [st_eb_l hu] at hpost
      exact f31 _ _ _ l1.1 hpost
  · rw [st_x_f hq] at hpost
    exact t36_26_no (d + 5) m4 a3 (fSt_w j1.1) _ (f31 _ _ _ j1.1 hpost)
end TG
