section TF
variable {d n : Nat} {P : pv_R} {m0 : Nat → Int32} {a0 : Nat → Nat → Int32} {tx : Nat → Int32}
/-- F -/
theorem k_F {f : Nat} (i0 : sT0 (d + 10) n P m0 a0 tx f) (e : Nat) {a a1 : Nat → Nat → Int32} {m1 : Nat → Int32} {cx : cx_T} {b p V : Nat} {sc : sc_T} {x pt : Nat} (hx : x < 4) (hk : cx.length < 20) (hU : cxU cx) (hf : 2 * (n - p) + 1 < f + 1) (g pt' : Int32) (hc : sp_c tx n p = 70) (h : kSt n m0 a0 tx a m1 a1 cx b p V sc 70 x pt)
    (hpost : sPost (d + 10) n P m0 a0 tx a cx b V sc (oOf cx) pt (st_x tx n 40 (sp_x tx n (p + 1)) fun q => st_eb (st_e tx n sc q) fun q u => st_x tx n 59 q fun q => st_eb (st_e tx n sc q) fun q u2 => st_x tx n 41 q fun q => st_b (st tx n f 0 ((b, 70, 0) :: cx) (b + 1 + sp_z u + sp_z u2) q V sc 0) fun q V1 _ t => .inr (q, V1, sc, .tag (sp_n 70 p (x / 2)) (.append u (.append u2 (.append t .nil)))))) : pv_go rq_T26 3 (pv_call rq_mt (e + 5)) (HdP (d + 10) P n) (288, sL6 g pt' 70 1 0 (nI b), [], rs m1 a1) := by
  have hb := h.2.2.2.2.1
  have hn : n ≤ 240 := h.2.1.1.2.2.2.1.1
  have hpn : p < n := sp_c_lt hc (by decide)
  have x1 := sp_x_le (tx := tx) (n := n) (p := p + 1) (by omega)
  refine k_open e hk (by decide) (by decide) g pt' hc h (fun m2 a2 ho => ?_)
  obtain ⟨⟨hM, hG⟩, hR, ⟨hst, hmk⟩, hN, hF⟩ := ho
  refine Hd_pre hR (by omega) 148 rfl ?_
  refine t33_148 (d + 9) m2 a2 (x := 0) (by omega) hst (by decide) _ (fun _ => ?_) (fun q => absurd rfl q)
  have hFst : ∀ B V s, Fs a2 (up2 a2 r_state cx.length (nI (0 + 1))) B cx.length V s := fun B V s => Fs_op (Fs_refl _ _ _ _ _) _ (by decide) (Nat.le_refl _)
  have hst3 : (up2 a2 r_state cx.length (nI (0 + 1))) r_state cx.length = nI 1 := up2_eq _ _ _ _
  have hmk3 : (up2 a2 r_state cx.length (nI (0 + 1))) r_mark cx.length = nI sc.length := (up2_ne _ _ (fun q => absurd q.1 (by decide))).trans hmk
  have hR3 : sRI tx n m2 (up2 a2 r_state cx.length (nI (0 + 1))) ((b, 70, 0) :: cx) (b + 1) (sp_x tx n (p + 1)) V sc 0 := sRI_row _ _ hR (by decide)
  have hG3 := Fg_Fs hG (hFst 0 0 0)
  have hs3 : (up2 a2 r_state cx.length (nI (0 + 1))) r_sort b = 70 := hN.1.1.1
  generalize up2 a2 r_state cx.length (nI (0 + 1)) = a3 at *
  -- behind a fault
  have f207 : ∀ q m' a', fSt m0 a0 q m' a' → sFk P m0 a0 q → pv_go rq_T33 3 (pv_call rq_mt (d + 9)) (HdP (d + 10) P n) (207, tL cx.length b, [], rs m' a') := fun q m' a' k1 k2 => t33_207_no (d + 6) m' a' (fSt_w k1) _ (fSt_P k1 k2)
  have f201 : ∀ q m' a', fSt m0 a0 q m' a' → sFk P m0 a0 q → pv_go rq_T33 3 (pv_call rq_mt (d + 9)) (HdP (d + 10) P n) (201, tL cx.length b, [], rs m' a') := fun q m' a' k1 k2 => t33_201_no (d + 6) m' a' (fSt_w k1) _ (f207 q m' a' k1 k2)
  have f196 : ∀ q m' a', fSt m0 a0 q m' a' → sFk P m0 a0 q → pv_go rq_T33 3 (pv_call rq_mt (d + 9)) (HdP (d + 10) P n) (196, tL cx.length b, [], rs m' a') := fun q m' a' k1 k2 => t33_196_no (d + 6) m' a' (fSt_w k1) _ (f201 q m' a' k1 k2)
  have f190 : ∀ q m' a', fSt m0 a0 q m' a' → sFk P m0 a0 q → pv_go rq_T33 3 (pv_call rq_mt (d + 9)) (HdP (d + 10) P n) (190, tL cx.length b, [], rs m' a') := fun q m' a' k1 k2 => t33_190_no (d + 6) m' a' (fSt_w k1) _ (f196 q m' a' k1 k2)
  have f179 : ∀ q m' a', fSt m0 a0 q m' a' → sFk P m0 a0 q → pv_go rq_T33 3 (pv_call rq_mt (d + 9)) (HdP (d + 10) P n) (179, tL cx.length b, [], rs m' a') := fun q m' a' k1 k2 => t33_179 (d + 9) m' a' (by omega) _ (fun _ => f190 q m' a' k1 k2) (fun _ => f201 q m' a' k1 k2)
  refine tkU t33_148L (by decide) (d + 6) hM hG3 hR3 _ (fun hq hlt m4 j1 j2 => ?_) (fun hq m4 j1 => ?_)
  · rw [st_x_t hq] at hpost
    refine ptU t33_174L (d + 3) j1 hG3 j2 (by have := sp_x_le (tx := tx) (n := n) (p := sp_x tx n (p + 1) + 1) (by omega); omega) _ (fun q u hu hqu hsu m5 a5 l1 l2 l3 l4 l5 l6 => ?_) (fun q hu m5 a5 l1 => ?_)
    · rw [st_eb_r hu] at hpost
      refine t33_179 (d + 9) m5 a5 (by omega) _ (fun _ => ?_) (fun q70 => absurd ((Fs_row (l4 0 0 0) (by decide) (by omega)).trans hs3) q70)
      have x4 := sp_x_le (tx := tx) (n := n) (p := sp_x tx n (p + 1) + 1) (by omega)
      refine tkU t33_190L (by decide) (d + 6) l1 l2 l3 _ (fun hq2 hlt2 m6 o1 o2 => ?_) (fun hq2 m6 o1 => ?_)
      · rw [st_x_t hq2] at hpost
        have x5 := sp_x_le (tx := tx) (n := n) (p := q + 1) (by omega)
        refine ptU t33_196L (d + 3) o1 l2 o2 (by omega) _ (fun q2 u2 hu2 hqu2 hsu2 m6' a6 p1 p2 p3 p4 p5 p6 => ?_) (fun q2 hu2 m6' a6 p1 => ?_)
        · rw [st_eb_r hu2] at hpost
          refine tkU t33_201L (by decide) (d + 6) p1 p2 p3 _ (fun hq3 hlt3 m6'' v1 v2 => ?_) (fun hq3 m6'' v1 => ?_)
          · rw [st_x_t hq3] at hpost
            have x6 := sp_x_le (tx := tx) (n := n) (p := q2 + 1) (by omega)
            refine t33_207_ok (d + 6) m6'' a6 v2.1.1.2 _ ?_
            refine HdP_cm (fun m a hH => ⟨rfl, m, a, rfl, hH⟩) (rd_body i0 (d + 2) (ptb := 0) v1 p2 v2 (by omega) ⟨Or.inl rfl, hU⟩ (by omega) (fun r hr => ?_) (fun r V1 t hr hg hsA m7 a7 r1 r2 r3 r4 r5 => ?_))
            · rw [hr] at hpost; exact hpost
            · rw [hr] at hpost
              have hmk7 : a7 r_mark cx.length = nI sc.length := (Fs_st r4 (by decide) (Nat.lt_succ_self _)).trans (by rw [p5.2, l5.2]; exact hmk3)
              have hst7 : a7 r_state cx.length = nI 1 := (Fs_st r4 (by decide) (Nat.lt_succ_self _)).trans (by rw [p5.1, l5.1]; exact hst3)
              refine Hd_pre r3 (by omega) 148 rfl ?_
              refine t33_148 (d + 9) m7 a7 (x := 1) (by omega) hst7 (by decide) _ (fun q => absurd q (by decide)) (fun _ => ?_)
              have hFs7 : ∀ B V s, Fs a7 (up2 a7 r_state cx.length (nI (1 + 1))) B cx.length V s := fun B V s => Fs_op (Fs_refl _ _ _ _ _) _ (by decide) (Nat.le_refl _)
              refine t33_214 (d + 8) m7 _ cx.length b _ ?_
              refine rd_finish (d + 7) (ext := []) r1 (Fg_Fs r2 (hFs7 0 0 0)) (sRI_row _ _ r3 (by decide)) ((up2_ne _ _ (fun q => absurd q.1 (by decide))).trans hmk7) _ (fun m8 a8 u1 u2' u3 u4 => ⟨rfl, rfl, m8, a8, rfl, ?_⟩)
              have h78 : Fs a7 a8 (b + 1 + sp_z u + sp_z u2 + sp_z t) cx.length V1 sc.length := Fs_trans (hFs7 _ _ _) (u4 _ _ _ _) (Nat.le_refl _) (Nat.le_refl _) (Nat.le_refl _) (Nat.le_refl _)
              have h68 : Fs a6 a8 (b + 1 + sp_z u + sp_z u2) cx.length V sc.length := Fs_trans (Fs_le r4 (Nat.le_refl _) (Nat.le_succ _) (Nat.le_refl _) (Nat.le_refl _)) h78 (by omega) (Nat.le_refl _) (by omega) (Nat.le_refl _)
              have h58 : Fs a5 a8 (b + 1 + sp_z u) cx.length V sc.length := Fs_trans (p4 _ _ _) h68 (by omega) (Nat.le_refl _) (Nat.le_refl _) (Nat.le_refl _)
              have h28 : Fs a2 a8 (b + 1) cx.length V sc.length := Fs_trans (hFst _ _ _) (Fs_trans (l4 _ _ _) h58 (by omega) (Nat.le_refl _) (Nat.le_refl _) (Nat.le_refl _)) (Nat.le_refl _) (Nat.le_refl _) (Nat.le_refl _) (Nat.le_refl _)
              refine post_plain hx (by decide) (by omega) (by decide) hpost hN hF h28 u1 u2' ?_ ⟨BlkS_mono h58 (Nat.le_refl _) (by omega) _ u (Nat.lt_succ_self _) _ _ _ _ (Nat.le_refl _) l6, ?_, ?_, trivial⟩
              · rw [show b + 1 + sp_z (.append u (.append u2 (.append t .nil))) = b + 1 + sp_z u + sp_z u2 + sp_z t by simp only [sp_z]; omega]
                exact u3
              · rw [hsu]
                exact BlkS_mono h68 (Nat.le_refl _) (by omega) _ u2 (Nat.lt_succ_self _) _ _ _ _ (Nat.le_refl _) p6
              · rw [hsu, hsu2]
                exact BlkS_9 _ _ _ _ _ (BlkS_mono h78 (Nat.le_refl _) (Nat.le_refl _) _ t (Nat.lt_succ_self _) _ _ _ _ (Nat.le_refl _) r5)
          · rw [st_x_f hq3] at hpost
            exact f207 _ _ _ v1.1 hpost
        · rw [st_eb_l hu2] at hpost
          exact f201 _ _ _ p1.1 hpost
      · rw [st_x_f hq2] at hpost
        exact f196 _ _ _ o1.1 hpost
    · rw [st_eb_l hu] at hpost
      exact f179 _ _ _ l1.1 hpost
  · rw [st_x_f hq] at hpost
    exact t33_174_no (d + 6) m4 a3 (fSt_w j1.1) _ (f179 _ _ _ j1.1 hpost)
/-- D: its body, then its e -/
theorem k_D {f : Nat} (i0 : sT0 (d + 10) n P m0 a0 tx f) (e : Nat) {a a1 : Nat → Nat → Int32} {m1 : Nat → Int32} {cx : cx_T} {b p V : Nat} {sc : sc_T} {x pt : Nat} (hx : x < 4) (hk : cx.length < 20) (hU : cxU cx) (hf : 2 * (n - p) + 1 < f + 1) (g pt' : Int32) (hc : sp_c tx n p = 68) (h : kSt n m0 a0 tx a m1 a1 cx b p V sc 68 x pt)
    (hpost : sPost (d + 10) n P m0 a0 tx a cx b V sc (oOf cx) pt (st_b (st tx n f 0 ((b, 68, 0) :: cx) (b + 1) (sp_x tx n (p + 1)) V sc 0) fun q V1 _ t => st_x tx n 40 q fun q => st_eb (st_e tx n sc q) fun q u => st_x tx n 41 q fun q => st_x tx n 59 q fun q => .inr (q, V1, sc, .tag (sp_n 68 p (x / 2)) (.append t (.append u .nil))))) : pv_go rq_T26 3 (pv_call rq_mt (e + 5)) (HdP (d + 10) P n) (288, sL6 g pt' 68 1 0 (nI b), [], rs m1 a1) := by
  have hb := h.2.2.2.2.1
  have hn : n ≤ 240 := h.2.1.1.2.2.2.1.1
  have hpn : p < n := sp_c_lt hc (by decide)
  have x1 := sp_x_le (tx := tx) (n := n) (p := p + 1) (by omega)
  refine k_open e hk (by decide) (by decide) g pt' hc h (fun m2 a2 ho => ?_)
  obtain ⟨⟨hM, hG⟩, hR, ⟨hst, hmk⟩, hN, hF⟩ := ho
  refine Hd_pre hR (by omega) 221 rfl ?_
  refine t33_221 (d + 9) m2 a2 (x := 0) (by omega) hst (by decide) _ (fun _ => ?_) (fun q => absurd rfl q)
  have hFst : ∀ B V s, Fs a2 (up2 a2 r_state cx.length (nI (0 + 1))) B cx.length V s := fun B V s => Fs_op (Fs_refl _ _ _ _ _) _ (by decide) (Nat.le_refl _)
  have hst3 : (up2 a2 r_state cx.length (nI (0 + 1))) r_state cx.length = nI 1 := up2_eq _ _ _ _
  have hmk3 : (up2 a2 r_state cx.length (nI (0 + 1))) r_mark cx.length = nI sc.length := (up2_ne _ _ (fun q => absurd q.1 (by decide))).trans hmk
  have hR3 : sRI tx n m2 (up2 a2 r_state cx.length (nI (0 + 1))) ((b, 68, 0) :: cx) (b + 1) (sp_x tx n (p + 1)) V sc 0 := sRI_row _ _ hR (by decide)
  have hG3 := Fg_Fs hG (hFst 0 0 0)
  generalize up2 a2 r_state cx.length (nI (0 + 1)) = a3 at *
  refine t33_241_ok (d + 6) m2 a3 hR3.1.1.2 _ ?_
  refine HdP_cm (fun m a hH => ⟨rfl, m, a, rfl, hH⟩) (rd_body i0 (d + 2) (ptb := 0) hM hG3 hR3 (by omega) ⟨Or.inl rfl, hU⟩ (by omega) (fun r hr => ?_) (fun r V1 t hr hg hsA m7 a7 r1 r2 r3 r4 r5 => ?_))
  · rw [hr] at hpost; exact hpost
  · rw [hr] at hpost
    have hpost : sPost (d + 10) n P m0 a0 tx a cx b V sc (oOf cx) pt (st_x tx n 40 r fun q => st_eb (st_e tx n sc q) fun q u => st_x tx n 41 q fun q => st_x tx n 59 q fun q => .inr (q, V1, sc, .tag (sp_n 68 p (x / 2)) (.append t (.append u .nil)))) := hpost
    have hmk7 : a7 r_mark cx.length = nI sc.length := (Fs_st r4 (by decide) (Nat.lt_succ_self _)).trans hmk3
    have hst7 : a7 r_state cx.length = nI 1 := (Fs_st r4 (by decide) (Nat.lt_succ_self _)).trans hst3
    refine Hd_pre r3 (by omega) 221 rfl ?_
    refine t33_221 (d + 9) m7 a7 (x := 1) (by omega) hst7 (by decide) _ (fun q => absurd q (by decide)) (fun _ => ?_)
    have hFs7 : ∀ B V s, Fs a7 (up2 a7 r_state cx.length (nI (1 + 1))) B cx.length V s := fun B V s => Fs_op (Fs_refl _ _ _ _ _) _ (by decide) (Nat.le_refl _)
    have hmk8 : (up2 a7 r_state cx.length (nI (1 + 1))) r_mark cx.length = nI sc.length := (up2_ne _ _ (fun q => absurd q.1 (by decide))).trans hmk7
    have r3' : sRI tx n m7 (up2 a7 r_state cx.length (nI (1 + 1))) ((b, 68, 0) :: cx) (b + 1 + sp_z t) r V1 sc 0 := sRI_row _ _ r3 (by decide)
    have r2' := Fg_Fs r2 (hFs7 0 0 0)
    have hF3 : Fs a2 a7 (b + 1) cx.length V sc.length := Fs_trans (hFst _ _ _) (Fs_le r4 (Nat.le_refl _) (Nat.le_succ _) (Nat.le_refl _) (Nat.le_refl _)) (Nat.le_refl _) (Nat.le_refl _) (Nat.le_refl _) (Nat.le_refl _)
    generalize up2 a7 r_state cx.length (nI (1 + 1)) = a8 at *
    -- behind a fault
    have f271 : ∀ q m' a', fSx m0 a0 q (cx.length + 1) sc.length (nI sc.length) m' a' → sFk P m0 a0 q → pv_go rq_T33 3 (pv_call rq_mt (d + 9)) (HdP (d + 10) P n) (271, tL cx.length b, [], rs m' a') := by
      intro q m' a' k1 k2
      obtain ⟨⟨⟨v1, v2, v3⟩, v4, v5⟩, ⟨v6, v7⟩, v8⟩ := k1
      have hl := sRI_len r3'
      refine t33_271 (d + 8) m' a' cx.length b _ (rc_finish (d + 7) m' a' (k := cx.length) (t := sc.length) (j := 0) (by omega) v6 v8 (by omega) v7 v3.1 v3.2 _ ⟨rfl, fSt_P ⟨⟨Ms_upd (Ms_upd v1 _ (by decide)) _ (by decide), ?_, v3⟩, v4, sc.length, hl, rfl⟩ k2⟩)
      exact Fg_Fs v2 (Fs_all a' _ 0 0 0 0)
    have f265 : ∀ q m' a', fSx m0 a0 q (cx.length + 1) sc.length (nI sc.length) m' a' → sFk P m0 a0 q → pv_go rq_T33 3 (pv_call rq_mt (d + 9)) (HdP (d + 10) P n) (265, tL cx.length b, [], rs m' a') := fun q m' a' k1 k2 => t33_265_no (d + 6) m' a' (fSt_w k1.1) _ (f271 q m' a' k1 k2)
    have f259 : ∀ q m' a', fSx m0 a0 q (cx.length + 1) sc.length (nI sc.length) m' a' → sFk P m0 a0 q → pv_go rq_T33 3 (pv_call rq_mt (d + 9)) (HdP (d + 10) P n) (259, tL cx.length b, [], rs m' a') := fun q m' a' k1 k2 => t33_259_no (d + 6) m' a' (fSt_w k1.1) _ (f265 q m' a' k1 k2)
    have cv : ∀ {q m' a' mk}, fSx m0 a0 q ((b, 68, 0) :: cx).length sc.length mk m' a' → mk = nI sc.length → fSx m0 a0 q (cx.length + 1) sc.length (nI sc.length) m' a' := fun h e => by rw [← e]; exact h
    refine tkU t33_248L (by decide) (d + 6) r1 r2' r3' _ (fun hq hlt m4 j1 j2 => ?_) (fun hq m4 j1 => ?_)
    · rw [st_x_t hq] at hpost
      have x4 := sp_x_le (tx := tx) (n := n) (p := r + 1) (by omega)
      refine ptU t33_254L (d + 3) j1 r2' j2 (by omega) _ (fun q u hu hqu hsu m5 a5 l1 l2 l3 l4 l5 l6 => ?_) (fun q hu m5 a5 l1 => ?_)
      · rw [st_eb_r hu] at hpost
        have hmk5 : a5 r_mark cx.length = nI sc.length := by rw [l5.2]; exact hmk8
        refine tkU t33_259L (by decide) (d + 6) l1 l2 l3 _ (fun hq2 hlt2 m6 o1 o2 => ?_) (fun hq2 m6 o1 => ?_)
        · rw [st_x_t hq2] at hpost
          refine tkU t33_265L (by decide) (d + 6) o1 l2 o2 _ (fun hq3 hlt3 m9 v1 v2 => ?_) (fun hq3 m9 v1 => ?_)
          · rw [st_x_t hq3] at hpost
            refine t33_271 (d + 8) m9 a5 cx.length b _ ?_
            refine rd_finish (d + 7) (ext := []) v1 l2 v2 hmk5 _ (fun m10 a10 u1 u2 u3 u4 => ⟨rfl, rfl, m10, a10, rfl, ?_⟩)
            have h8x : Fs a8 a10 (b + 1 + sp_z t) cx.length V1 sc.length := Fs_trans (l4 _ _ _) (u4 _ _ _ _) (Nat.le_refl _) (Nat.le_refl _) (Nat.le_refl _) (Nat.le_refl _)
            have h7x : Fs a7 a10 (b + 1 + sp_z t) cx.length V1 sc.length := Fs_trans (hFs7 _ _ _) h8x (Nat.le_refl _) (Nat.le_refl _) (Nat.le_refl _) (Nat.le_refl _)
            have h2x : Fs a2 a10 (b + 1) cx.length V sc.length := Fs_trans hF3 h7x (by omega) (Nat.le_refl _) (by omega) (Nat.le_refl _)
            refine post_plain hx (by decide) (by omega) (by decide) hpost hN hF h2x u1 u2 ?_ ⟨BlkS_9 _ _ _ _ _ (BlkS_mono h7x (Nat.le_refl _) (Nat.le_refl _) _ t (Nat.lt_succ_self _) _ _ _ _ (Nat.le_refl _) r5), ?_, trivial⟩
            · rw [show b + 1 + sp_z (.append t (.append u .nil)) = b + 1 + sp_z t + sp_z u by simp only [sp_z]; omega]
              exact u3
            · rw [hsA]
              exact BlkS_mono (u4 (b + 1 + sp_z t + sp_z u) 0 V1 0) (Nat.le_refl _) (Nat.le_refl _) _ u (Nat.lt_succ_self _) _ _ _ _ (Nat.le_refl _) l6
          · rw [st_x_f hq3] at hpost
            exact f271 _ _ _ (cv v1 hmk5) hpost
        · rw [st_x_f hq2] at hpost
          exact f265 _ _ _ (cv o1 hmk5) hpost
      · rw [st_eb_l hu] at hpost
        exact f259 _ _ _ (cv l1 hmk8) hpost
    · rw [st_x_f hq] at hpost
      exact t33_254_no (d + 6) m4 a8 (fSt_w j1.1) _ (f259 _ _ _ (cv j1 hmk8) hpost)
end TF
