section TK
variable {d n : Nat} {P : pv_R} {m0 : Nat → Int32} {a0 : Nat → Nat → Int32} {tx : Nat → Int32}
/-- a T is done: finish, and what follows -/
theorem tf_end {a a2 a6 : Nat → Nat → Int32} {m6 : Nat → Int32} {cx : cx_T} {b p V V1 q : Nat} {sc : sc_T} {x pt g : Nat} {u v w : Std.Format} (hx : x < 4) (hp : p < 256) (hpost : sPost (d + 10) n P m0 a0 tx a cx b V sc (oOf cx) pt (.inr (q, V1, sc, .tag (sp_n 84 p (2 * g + x / 2)) (.append u (.append v w))))) (hN : nd1 a2 b (nI 84) (nI p) (thOf sc) (oOf cx) (nI pt) (nI (x / 2))) (hF : Fs a a2 b cx.length V sc.length) (hF2 : tFs a2 a6 b (b + 1) cx.length V sc.length) (hM : Ms m0 m6) (hG : Fg a0 a6) (hR : sRI tx n m6 a6 ((b, 84, 0) :: cx) (b + 1 + sp_z u + sp_z v + sp_z w) q V1 sc 0) (hmk : a6 r_mark cx.length = nI sc.length) (hc : a6 r_hasCatch b = nI (g % 2)) (he : a6 r_hasEnd b = nI (g / 2)) (h3 : BlkS a6 V1 u (b + 1) (nI b) 0 sc) (h4 : BlkS a6 V1 v (b + 1 + sp_z u) (nI b) 1 sc) (h5 : BlkS a6 V1 w (b + 1 + sp_z u + sp_z v) (nI b) 2 sc) : pv_go rq_T38 3 (pv_call rq_mt (d + 8)) (noneP (HdP (d + 10) P n)) (239, tL cx.length b, [], rs m6 a6) := by
  refine t38_239 (d + 7) m6 a6 cx.length b _ ?_
  refine rd_finish (d + 6) (ext := []) hM hG hR hmk _ (fun m10 a10 u1 u2 u3 u4 => ⟨rfl, rfl, rfl, m10, a10, rfl, ?_⟩)
  have e10 : ∀ j i, ((3 ≤ j ∧ j ≤ 17) ∨ j = 42) → a10 j i = a6 j i := fun j i hj => u4 (i + 1) 0 0 0 j i ⟨fun _ => Nat.lt_succ_self _, fun q => by omega, fun q => by omega, fun q => by omega, by omega⟩
  have mv : ∀ (y : Std.Format) (B0 pp : Nat), BlkS a6 V1 y B0 (nI b) pp sc → BlkS a10 V1 y B0 (nI b) pp sc := fun y B0 pp hy => BlkS_mono (u4 (B0 + sp_z y) 0 V1 0) (Nat.le_refl _) (Nat.le_refl _) _ y (Nat.lt_succ_self _) _ _ _ _ (Nat.le_refl _) hy
  have hF3 : tFs a2 a10 b (b + 1) cx.length V sc.length := tFs_trans hF2 (tFs_of (u4 (b + 1) cx.length V sc.length)) (Nat.le_refl _) (Nat.le_refl _) (Nat.le_refl _)
  obtain ⟨n1, n2⟩ := nd_T (W := V1) (g := g) hp (by omega) hN hF3 (by omega) ((e10 15 b (by omega)).trans hc) ((e10 16 b (by omega)).trans he)
  refine hpost m10 a10 u1 u2 ?_ ?_ (BlkS_T hp n1 n2 (mv _ _ _ h3) (mv _ _ _ h4) (mv _ _ _ h5))
  · rw [show b + sp_z (.tag (sp_n 84 p (2 * g + x / 2)) (.append u (.append v w))) = b + 1 + sp_z u + sp_z v + sp_z w by simp only [sp_z]; omega]
    exact u3
  · intro j i hq
    have q1 := hF j i hq
    have q2 := tFs_at hF3 (j := j) (i := i) (sIn_le (by omega) (Nat.le_refl _) (Nat.le_refl _) (Nat.le_refl _) hq) (fun e => by have := hq.1 (Or.inl (by omega)); omega)
    rw [q2, q1]
theorem k_T {f : Nat} (i1 : sT1 (d + 10) n P m0 a0 tx f) (e : Nat) {a a1 : Nat → Nat → Int32} {m1 : Nat → Int32} {cx : cx_T} {b p V : Nat} {sc : sc_T} {x pt : Nat} (hx : x < 4) (hk : cx.length < 20) (hU : cxU cx) (hf : 2 * (n - p) + 1 < f + 1) (g pt' : Int32) (hc : sp_c tx n p = 84) (h : kSt n m0 a0 tx a m1 a1 cx b p V sc 84 x pt)
    (hpost : sPost (d + 10) n P m0 a0 tx a cx b V sc (oOf cx) pt (st_x tx n 123 (sp_x tx n (p + 1)) fun q => st_b (st tx n f 1 ((b, 84, 0) :: cx) (b + 1) q V sc 0) fun q V1 _ t =>
          if sp_c tx n q = 75 then st_x tx n 123 (sp_x tx n (q + 1)) fun q => st_b (st tx n f 1 ((b, 84, 0) :: cx) (b + 1 + sp_z t) q V1 sc 0) fun q V2 _ t2 =>
            if sp_c tx n q = 78 then st_x tx n 123 (sp_x tx n (q + 1)) fun q => st_b (st tx n f 1 ((b, 84, 0) :: cx) (b + 1 + sp_z t + sp_z t2) q V2 sc 0) fun q V3 _ t3 => .inr (q, V3, sc, .tag (sp_n 84 p (2 * 3 + x / 2)) (.append t (.append t2 t3)))
            else .inr (q, V2, sc, .tag (sp_n 84 p (2 * 1 + x / 2)) (.append t (.append t2 .nil)))
          else st_x tx n 78 q fun q => st_x tx n 123 q fun q => st_b (st tx n f 1 ((b, 84, 0) :: cx) (b + 1 + sp_z t) q V1 sc 0) fun q V3 _ t3 => .inr (q, V3, sc, .tag (sp_n 84 p (2 * 2 + x / 2)) (.append t (.append .nil t3))))) : pv_go rq_T26 3 (pv_call rq_mt (e + 5)) (HdP (d + 10) P n) (288, sL6 g pt' 84 1 0 (nI b), [], rs m1 a1) := by
  have hb := h.2.2.2.2.1
  have hn : n ≤ 240 := h.2.1.1.2.2.2.1.1
  have hpn : p < n := sp_c_lt hc (by decide)
  have x1 := sp_x_le (tx := tx) (n := n) (p := p + 1) (by omega)
  refine k_open e hk (by decide) (by decide) g pt' hc h (fun m2 a2 ho => ?_)
  obtain ⟨⟨hM, hG⟩, hR, ⟨hst, hmk⟩, hN, hF⟩ := ho
  have hSg : ∀ (a' : Nat → Nat → Int32) (y z : Int32) (w : Int32), Fg a0 a' → Fg a0 (up2 (up2 (up2 a' r_hasCatch b y) r_hasEnd b z) r_state cx.length w) := fun a' y z w hG => Fg_Fs hG (Fs_op (Fs_nd (Fs_nd (Fs_refl a' 0 0 0 0) _ (by decide) (Nat.zero_le _)) _ (by decide) (Nat.zero_le _)) _ (by decide) (Nat.zero_le _))
  refine Hd_pre hR (by omega) 287 rfl (st_287 (d + 8) m2 a2 _ _ _ (rc_stepTry (d + 8) _ _ _ _ ?_))
  refine t38_x0 (d + 8) m2 a2 (by omega) hst _ ?_
  refine tkU t38_9L (by decide) (d + 5) hM hG hR _ (fun hq hlt m3 j1 j2 => ?_) (fun hq m3 j1 => ?_)
  rotate_left
  · rw [st_x_f hq] at hpost
    obtain ⟨⟨v1, v2, v3⟩, v4, s, v5, v6⟩ := j1.1
    exact t38_15 (d + 8) m3 a2 (by omega) _ ⟨rfl, fSt_P ⟨⟨v1, Fg_Fs v2 (Fs_op (Fs_refl a2 0 0 0 0) _ (by decide) (Nat.zero_le _)), v3⟩, v4, s, v5, v6⟩ hpost⟩
  rw [st_x_t hq] at hpost
  have x2 := sp_x_le (tx := tx) (n := n) (p := sp_x tx n (p + 1) + 1) (by omega)
  refine t38_15 (d + 8) m3 a2 (by omega) _ ⟨rfl, rfl, m3, _, rfl, ?_⟩
  have hFst : ∀ B V s, Fs a2 (up2 a2 r_state cx.length 1) B cx.length V s := fun B V s => Fs_op (Fs_refl _ _ _ _ _) _ (by decide) (Nat.le_refl _)
  refine tl_list i1 (x := 1) (Or.inl rfl) j1 (Fg_Fs hG (hFst 0 0 0)) (sRI_row _ _ j2 (by decide)) (by omega) (by omega) hU (by omega) (up2_eq _ _ _ _) ((up2_ne _ _ (fun q => absurd q.1 (by decide))).trans hmk) (fun r hr => ?_) (fun r V1 sc1 t hr hg m4 a4 k1 k2 k3 k4 k5 k6 => ?_)
  · rw [hr] at hpost; exact hpost
  rw [hr] at hpost
  have hpost : sPost (d + 10) n P m0 a0 tx a cx b V sc (oOf cx) pt (if sp_c tx n r = 75 then st_x tx n 123 (sp_x tx n (r + 1)) fun q => st_b (st tx n f 1 ((b, 84, 0) :: cx) (b + 1 + sp_z t) q V1 sc 0) fun q V2 _ t2 =>
            if sp_c tx n q = 78 then st_x tx n 123 (sp_x tx n (q + 1)) fun q => st_b (st tx n f 1 ((b, 84, 0) :: cx) (b + 1 + sp_z t + sp_z t2) q V2 sc 0) fun q V3 _ t3 => .inr (q, V3, sc, .tag (sp_n 84 p (2 * 3 + x / 2)) (.append t (.append t2 t3)))
            else .inr (q, V2, sc, .tag (sp_n 84 p (2 * 1 + x / 2)) (.append t (.append t2 .nil)))
          else st_x tx n 78 r fun q => st_x tx n 123 q fun q => st_b (st tx n f 1 ((b, 84, 0) :: cx) (b + 1 + sp_z t) q V1 sc 0) fun q V3 _ t3 => .inr (q, V3, sc, .tag (sp_n 84 p (2 * 2 + x / 2)) (.append t (.append .nil t3)))) := hpost
  have hF24 : tFs a2 a4 b (b + 1) cx.length V sc.length := tFs_of (Fs_trans (hFst _ _ _) k5 (Nat.le_refl _) (Nat.le_refl _) (Nat.le_refl _) (Nat.le_refl _))
  obtain ⟨p4, y1, y2, y3⟩ := k3.2.1
  have hp4 := sRI_p k3
  have hnx := fun q => sRI_nx k3 q
  have hch := fun q => sRI_ch k3 q
  refine Hd_pre k3 (by omega) 287 rfl (st_287 (d + 8) m4 a4 _ _ _ (rc_stepTry (d + 8) _ _ _ _ ?_))
  refine t38_83 (d + 8) m4 a4 (by omega) k4.1 (Or.inl rfl) _ (fun _ => ?_) (fun q => absurd q (by decide)) (fun q => absurd q (by decide))
  refine t38_93 (d + 5) m4 a4 hn y2 y1 k3.1.1.1 k3.1.1.2 (by omega) (by omega) _ (fun q1 q2 => ?_) (fun q1 q2 => ?_) (fun q1 => ?_)
  · rw [hnx p4, y3, hch] at q1
    rw [hnx p4, y3, hnx, hch] at q2
    rw [hnx p4, y3, hnx, hch]
    have hrn : r < n := by rcases q1 with e | e <;> exact sp_c_lt e (by decide)
    have x3 := sp_x_le (tx := tx) (n := n) (p := r + 1) (by omega)
    have hq2 := sp_c_lt q2 (by decide)
    have x4 := sp_x_le (tx := tx) (n := n) (p := sp_x tx n (r + 1) + 1) (by omega)
    refine ⟨rfl, rfl, _, _, rfl, ?_⟩
    by_cases hK : sp_c tx n r = 75
    · rw [if_pos hK, st_x_t q2] at hpost
      rw [if_pos hK, if_neg (by rw [hK]; decide), if_pos hK]
      have hR5 : sRI tx n (upd m4 r_at (nI (sp_x tx n (r + 1) + 1))) (up2 (up2 (up2 a4 r_hasCatch b 1) r_hasEnd b 0) r_state cx.length 3) ((b, 84, 0) :: cx) (b + 1 + sp_z t) (sp_x tx n (sp_x tx n (r + 1) + 1)) V1 sc 0 := sRI_row _ _ (sRI_row _ _ (sRI_row _ _ (sRI_at k3 (by omega)) (by decide)) (by decide)) (by decide)
      have h45 : ∀ B V s, tFs a4 (up2 (up2 (up2 a4 r_hasCatch b 1) r_hasEnd b 0) r_state cx.length 3) b B cx.length V s := fun B V s => ⟨1, 0, Fs_op (Fs_refl _ _ _ _ _) _ (by decide) (Nat.le_refl _)⟩
      have c5 : (up2 (up2 (up2 a4 r_hasCatch b 1) r_hasEnd b 0) r_state cx.length 3) r_hasCatch b = nI 1 := (up2_ne _ _ (fun q => absurd q.1 (by decide))).trans ((up2_ne _ _ (fun q => absurd q.1 (by decide))).trans (up2_eq _ _ _ _))
      have e5 : (up2 (up2 (up2 a4 r_hasCatch b 1) r_hasEnd b 0) r_state cx.length 3) r_hasEnd b = nI 0 := (up2_ne _ _ (fun q => absurd q.1 (by decide))).trans (up2_eq _ _ _ _)
      have mk5 : (up2 (up2 (up2 a4 r_hasCatch b 1) r_hasEnd b 0) r_state cx.length 3) r_mark cx.length = nI sc.length := (up2_ne _ _ (fun q => absurd q.1 (by decide))).trans ((up2_ne _ _ (fun q => absurd q.1 (by decide))).trans ((up2_ne _ _ (fun q => absurd q.1 (by decide))).trans k4.2))
      have st5 : (up2 (up2 (up2 a4 r_hasCatch b 1) r_hasEnd b 0) r_state cx.length 3) r_state cx.length = nI 3 := up2_eq _ _ _ _
      have G5 := hSg a4 1 0 3 k2
      generalize up2 (up2 (up2 a4 r_hasCatch b 1) r_hasEnd b 0) r_state cx.length 3 = a5 at *
      refine tl_list i1 (x := 3) (Or.inr (Or.inl rfl)) (Ms_upd k1 _ (by decide)) G5 hR5 (by omega) (by omega) hU (by omega) st5 mk5 (fun r2 hr2 => ?_) (fun r2 V2 sc2 t2 hr2 hg2 m6 a6 l1 l2 l3 l4 l5 l6 => ?_)
      · rw [hr2] at hpost; exact hpost
      rw [hr2] at hpost
      have hpost : sPost (d + 10) n P m0 a0 tx a cx b V sc (oOf cx) pt (if sp_c tx n r2 = 78 then st_x tx n 123 (sp_x tx n (r2 + 1)) fun q => st_b (st tx n f 1 ((b, 84, 0) :: cx) (b + 1 + sp_z t + sp_z t2) q V2 sc 0) fun q V3 _ t3 => .inr (q, V3, sc, .tag (sp_n 84 p (2 * 3 + x / 2)) (.append t (.append t2 t3)))
            else .inr (r2, V2, sc, .tag (sp_n 84 p (2 * 1 + x / 2)) (.append t (.append t2 .nil)))) := hpost
      have h46 : tFs a4 a6 b (b + 1 + sp_z t) cx.length V1 sc.length := tFs_trans (h45 _ _ _) (tFs_of l5) (Nat.le_refl _) (Nat.le_refl _) (Nat.le_refl _)
      have hF26 : tFs a2 a6 b (b + 1) cx.length V sc.length := tFs_trans hF24 h46 (by omega) (by omega) (Nat.le_refl _)
      have ht6 : BlkS a6 V2 t (b + 1) (nI b) 0 sc := tFs_blk h46 (Nat.le_refl _) (by omega) (Nat.le_refl _) (Nat.le_refl _) k6
      have c6 : a6 r_hasCatch b = nI 1 := (Fs_row l5 (by decide) (by omega)).trans c5
      have e6 : a6 r_hasEnd b = nI 0 := (Fs_row l5 (by decide) (by omega)).trans e5
      obtain ⟨p6, z1, z2, z3⟩ := l3.2.1
      have hp6 := sRI_p l3
      have hnx6 := fun q => sRI_nx l3 q
      have hch6 := fun q => sRI_ch l3 q
      refine Hd_pre l3 (by omega) 287 rfl (st_287 (d + 8) m6 a6 _ _ _ (rc_stepTry (d + 8) _ _ _ _ ?_))
      refine t38_83 (d + 8) m6 a6 (by omega) l4.1 (Or.inr (Or.inl rfl)) _ (fun q => absurd q (by decide)) (fun _ => ?_) (fun q => absurd q (by decide))
      refine t38_197 (d + 5) m6 a6 hn z2 z1 l3.1.1.1 l3.1.1.2 (by omega) (by omega) _ (fun w1 w2 => ?_) (fun w1 w2 => ?_) (fun w1 => ?_)
      · rw [hnx6 p6, z3, hch6] at w1
        rw [hnx6 p6, z3, hnx6, hch6] at w2
        rw [hnx6 p6, z3, hnx6]
        rw [if_pos w1, st_x_t w2] at hpost
        have hrn2 := sp_c_lt w1 (by decide)
        have x5 := sp_x_le (tx := tx) (n := n) (p := r2 + 1) (by omega)
        have hw2 := sp_c_lt w2 (by decide)
        have x6 := sp_x_le (tx := tx) (n := n) (p := sp_x tx n (r2 + 1) + 1) (by omega)
        refine ⟨rfl, rfl, _, _, rfl, ?_⟩
        have hR7 : sRI tx n (upd m6 r_at (nI (sp_x tx n (r2 + 1) + 1))) (up2 (up2 a6 r_hasEnd b 1) r_state cx.length 5) ((b, 84, 0) :: cx) (b + 1 + sp_z t + sp_z t2) (sp_x tx n (sp_x tx n (r2 + 1) + 1)) V2 sc 0 := sRI_row _ _ (sRI_row _ _ (sRI_at l3 (by omega)) (by decide)) (by decide)
        have h67 : ∀ B V s, tFs a6 (up2 (up2 a6 r_hasEnd b 1) r_state cx.length 5) b B cx.length V s := fun B V s => ⟨a6 r_hasCatch b, 1, by rw [up2_same rfl]; exact Fs_op (Fs_refl _ _ _ _ _) _ (by decide) (Nat.le_refl _)⟩
        have c7 : (up2 (up2 a6 r_hasEnd b 1) r_state cx.length 5) r_hasCatch b = nI 1 := (up2_ne _ _ (fun q => absurd q.1 (by decide))).trans ((up2_ne _ _ (fun q => absurd q.1 (by decide))).trans c6)
        have e7 : (up2 (up2 a6 r_hasEnd b 1) r_state cx.length 5) r_hasEnd b = nI 1 := (up2_ne _ _ (fun q => absurd q.1 (by decide))).trans (up2_eq _ _ _ _)
        have mk7 : (up2 (up2 a6 r_hasEnd b 1) r_state cx.length 5) r_mark cx.length = nI sc.length := (up2_ne _ _ (fun q => absurd q.1 (by decide))).trans ((up2_ne _ _ (fun q => absurd q.1 (by decide))).trans l4.2)
        have st7 : (up2 (up2 a6 r_hasEnd b 1) r_state cx.length 5) r_state cx.length = nI 5 := up2_eq _ _ _ _
        have G7 : Fg a0 (up2 (up2 a6 r_hasEnd b 1) r_state cx.length 5) := Fg_Fs l2 (Fs_op (Fs_nd (Fs_refl a6 0 0 0 0) _ (by decide) (Nat.zero_le _)) _ (by decide) (Nat.zero_le _))
        generalize up2 (up2 a6 r_hasEnd b 1) r_state cx.length 5 = a7 at *
        refine tl_list i1 (x := 5) (Or.inr (Or.inr rfl)) (Ms_upd l1 _ (by decide)) G7 hR7 (by omega) (by omega) hU (by omega) st7 mk7 (fun r3 hr3 => ?_) (fun r3 V3 sc3 t3 hr3 hg3 m8 a8 s1 s2 s3 s4 s5 s6 => ?_)
        · rw [hr3] at hpost; exact hpost
        rw [hr3] at hpost
        have h68 : tFs a6 a8 b (b + 1 + sp_z t + sp_z t2) cx.length V2 sc.length := tFs_trans (h67 _ _ _) (tFs_of s5) (Nat.le_refl _) (Nat.le_refl _) (Nat.le_refl _)
        refine Hd_pre s3 (by omega) 287 rfl (st_287 (d + 8) m8 a8 _ _ _ (rc_stepTry (d + 8) _ _ _ _ ?_))
        refine t38_83 (d + 8) m8 a8 (by omega) s4.1 (Or.inr (Or.inr rfl)) _ (fun q => absurd q (by decide)) (fun q => absurd q (by decide)) (fun _ => ?_)
        exact tf_end (g := 3) hx (by omega) hpost hN hF (tFs_trans hF26 h68 (by omega) (by omega) (Nat.le_refl _)) s1 s2 s3 s4.2 ((Fs_row s5 (by decide) (by omega)).trans c7) ((Fs_row s5 (by decide) (by omega)).trans e7) (tFs_blk h68 (Nat.le_refl _) (by omega) (Nat.le_refl _) (by omega) ht6) (tFs_blk h68 (Nat.le_refl _) (by omega) (by omega) (Nat.le_refl _) l6) s6
      · rw [hnx6 p6, z3, hch6] at w1
        rw [hnx6 p6, z3, hnx6, hch6] at w2
        rw [hnx6 p6, z3, hnx6]
        rw [if_pos w1, st_x_f w2] at hpost
        have hrn2 := sp_c_lt w1 (by decide)
        have x5 := sp_x_le (tx := tx) (n := n) (p := r2 + 1) (by omega)
        exact ⟨rfl, fSt_P ⟨⟨Ms_upd (Ms_upd l1 _ (by decide)) _ (by decide), Fg_Fs l2 (Fs_op (Fs_nd (Fs_refl a6 0 0 0 0) _ (by decide) (Nat.zero_le _)) _ (by decide) (Nat.zero_le _)), l3.2.2.2.2.1⟩, ⟨rfl, by omega⟩, sc.length, sRI_len l3, l3.1.2.2.2.1⟩ hpost⟩
      · rw [hnx6 p6, z3, hch6] at w1
        rw [hnx6 p6, z3]
        rw [if_neg w1] at hpost
        have hR7 := sRI_at l3 hp6.1
        rw [hp6.2] at hR7
        exact tf_end (g := 1) (w := .nil) hx (by omega) hpost hN hF hF26 (Ms_upd l1 _ (by decide)) l2 hR7 l4.2 c6 e6 ht6 l6 trivial
    · have hN78 : sp_c tx n r = 78 := q1.resolve_left hK
      rw [if_neg hK, st_x_t hN78, st_x_t q2] at hpost
      rw [if_neg hK, if_pos hN78, if_neg hK]
      have hR5 : sRI tx n (upd m4 r_at (nI (sp_x tx n (r + 1) + 1))) (up2 (up2 (up2 a4 r_hasCatch b 0) r_hasEnd b 1) r_state cx.length 5) ((b, 84, 0) :: cx) (b + 1 + sp_z t) (sp_x tx n (sp_x tx n (r + 1) + 1)) V1 sc 0 := sRI_row _ _ (sRI_row _ _ (sRI_row _ _ (sRI_at k3 (by omega)) (by decide)) (by decide)) (by decide)
      have h45 : ∀ B V s, tFs a4 (up2 (up2 (up2 a4 r_hasCatch b 0) r_hasEnd b 1) r_state cx.length 5) b B cx.length V s := fun B V s => ⟨0, 1, Fs_op (Fs_refl _ _ _ _ _) _ (by decide) (Nat.le_refl _)⟩
      have c5 : (up2 (up2 (up2 a4 r_hasCatch b 0) r_hasEnd b 1) r_state cx.length 5) r_hasCatch b = nI 0 := (up2_ne _ _ (fun q => absurd q.1 (by decide))).trans ((up2_ne _ _ (fun q => absurd q.1 (by decide))).trans (up2_eq _ _ _ _))
      have e5 : (up2 (up2 (up2 a4 r_hasCatch b 0) r_hasEnd b 1) r_state cx.length 5) r_hasEnd b = nI 1 := (up2_ne _ _ (fun q => absurd q.1 (by decide))).trans (up2_eq _ _ _ _)
      have mk5 : (up2 (up2 (up2 a4 r_hasCatch b 0) r_hasEnd b 1) r_state cx.length 5) r_mark cx.length = nI sc.length := (up2_ne _ _ (fun q => absurd q.1 (by decide))).trans ((up2_ne _ _ (fun q => absurd q.1 (by decide))).trans ((up2_ne _ _ (fun q => absurd q.1 (by decide))).trans k4.2))
      have st5 : (up2 (up2 (up2 a4 r_hasCatch b 0) r_hasEnd b 1) r_state cx.length 5) r_state cx.length = nI 5 := up2_eq _ _ _ _
      have G5 := hSg a4 0 1 5 k2
      generalize up2 (up2 (up2 a4 r_hasCatch b 0) r_hasEnd b 1) r_state cx.length 5 = a5 at *
      refine tl_list i1 (x := 5) (Or.inr (Or.inr rfl)) (Ms_upd k1 _ (by decide)) G5 hR5 (by omega) (by omega) hU (by omega) st5 mk5 (fun r2 hr2 => ?_) (fun r2 V2 sc2 t2 hr2 hg2 m6 a6 l1 l2 l3 l4 l5 l6 => ?_)
      · rw [hr2] at hpost; exact hpost
      rw [hr2] at hpost
      have h46 : tFs a4 a6 b (b + 1 + sp_z t) cx.length V1 sc.length := tFs_trans (h45 _ _ _) (tFs_of l5) (Nat.le_refl _) (Nat.le_refl _) (Nat.le_refl _)
      have hF26 : tFs a2 a6 b (b + 1) cx.length V sc.length := tFs_trans hF24 h46 (by omega) (by omega) (Nat.le_refl _)
      refine Hd_pre l3 (by omega) 287 rfl (st_287 (d + 8) m6 a6 _ _ _ (rc_stepTry (d + 8) _ _ _ _ ?_))
      refine t38_83 (d + 8) m6 a6 (by omega) l4.1 (Or.inr (Or.inr rfl)) _ (fun q => absurd q (by decide)) (fun q => absurd q (by decide)) (fun _ => ?_)
      exact tf_end (g := 2) (v := .nil) hx (by omega) hpost hN hF hF26 l1 l2 l3 l4.2 ((Fs_row l5 (by decide) (by omega)).trans c5) ((Fs_row l5 (by decide) (by omega)).trans e5) (tFs_blk h46 (Nat.le_refl _) (by omega) (Nat.le_refl _) (Nat.le_refl _) k6) trivial l6
  · rw [hnx p4, y3, hch] at q1
    rw [hnx p4, y3, hnx, hch] at q2
    rw [hnx p4, y3, hnx, hch]
    have hrn : r < n := by rcases q1 with e | e <;> exact sp_c_lt e (by decide)
    have x3 := sp_x_le (tx := tx) (n := n) (p := r + 1) (by omega)
    have hpost : sFk P m0 a0 (sp_x tx n (r + 1)) := by
      by_cases hK : sp_c tx n r = 75
      · rw [if_pos hK, st_x_f q2] at hpost; exact hpost
      · rw [if_neg hK, st_x_t (q1.resolve_left hK), st_x_f q2] at hpost; exact hpost
    exact ⟨rfl, fSt_P ⟨⟨Ms_upd (Ms_upd k1 _ (by decide)) _ (by decide), hSg _ _ _ _ k2, k3.2.2.2.2.1⟩, ⟨rfl, by omega⟩, sc.length, sRI_len k3, k3.1.2.2.2.1⟩ hpost⟩
  · rw [hnx p4, y3, hch] at q1
    rw [hnx p4, y3]
    rw [if_neg (fun e => q1 (Or.inl e)), st_x_f (fun e => q1 (Or.inr e))] at hpost
    exact ⟨rfl, fSt_P ⟨⟨Ms_upd (Ms_upd k1 _ (by decide)) _ (by decide), k2, k3.2.2.2.2.1⟩, ⟨rfl, by omega⟩, sc.length, sRI_len k3, k3.1.2.2.2.1⟩ hpost⟩
end TK
