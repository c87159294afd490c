set_option maxRecDepth 100000 in
theorem rc_ro_shut (d : Nat) (m : Nat → Int32) (a a' : Nat → Nat → Int32) {p b k t z k' t' z' : Nat} (hk0 : k ≤ 300) (hwt : ¬ wts (a r_opSign) 40 k = 0) (hrw : rwTo (d + 1) 1 1 1 (em (wb m 1 0) p b k t z) a (em (wb m 1 0) p b (k' + 1) t' (z' + 1)) a') (P : pv_R)
    (h : P (some (.int 1)) (rs (em (wb m 0 0) (p + 1) b k' t' z') a')) : pv_call rq_mt (d + 4) rq_m_R_readOperator [.ref 0, .int 41] (rs (em m p b k t z) a) P := by
  refine pv_call_of rfl rfl rfl (pv_run [216] 80 ?_)
  refine And.intro (Or.inr rfl) ?_
  refine And.intro (Or.inl rfl) ?_
  refine And.intro (fun q => absurd q (by decide)) (fun _ => ?_)
  refine And.intro (fun q => absurd q (by decide)) (fun _ => ?_)
  refine And.intro (fun q => absurd q (by decide)) (fun _ => ?_)
  refine And.intro (fun q => absurd q (by decide)) (fun _ => ?_)
  show pv_go rq_T23 1 (pv_call rq_mt (d + 3)) P (216, [(0, .ref 0), (1, .int 41)], [], rs (upd (upd (em m p b k t z) r_wantsMore 1) r_beginsMore 0) a)
  rw [em_wb]
  refine pv_run [238] 80 ?_
  refine And.intro (fun _ => ?_) (fun q => absurd rfl q)
  refine rc_waits (d + 2) (em (wb m 1 0) p b k t z) a hk0 rfl 40 _ ?_
  refine And.intro (fun q2 => absurd q2 hwt) (fun _ => ?_)
  refine hrw _ ?_
  show pv_go rq_T23 1 (pv_call rq_mt (d + 3)) P (238, [(0, .ref 0), (1, .int 41)], [], rs (em (wb m 1 0) p b (k' + 1) t' (z' + 1)) a')
  refine pv_run [] 80 ?_
  refine And.intro (Or.inl rfl) ?_
  have hend : P (some (.int 1)) (rs (upd (upd (upd (upd (em (wb m 1 0) p b (k' + 1) t' (z' + 1)) r_ops (nI (k' + 1) - 1)) r_nested (nI (z' + 1) - 1)) r_at (nI p + 1)) r_wantsMore 0) a') := by
    rw [nI_pred, nI_pred, nI_1, em_ops, em_nested, em_at, em_w]
    exact h
  exact And.intro (Or.inr rfl) hend
set_option maxRecDepth 100000 in
theorem rc_ro_else (d : Nat) (m : Nat → Int32) (a a' : Nat → Nat → Int32) {n p b k t z k' t' z' x : Nat} (hn : n ≤ 240) (hp : p < n) (hsz : m r_size = nI n) (hw : m r_wrong = -1) (hk0 : k ≤ 300) (hwt : ¬ wts (a r_opSign) 63 k = 0) (hk : k' < 300) (ht : t' < 300) (hz : z' < 2 ^ 30) (hx : a' r_done t' = nI x) (hx2 : x < 260) (hrw : rwTo (d + 1) 1 1 1 (em (wb m 1 0) p b k t z) a (em (wb m 1 0) p b (k' + 1) (t' + 1) (z' + 1)) a') (P : pv_R)
    (h1 : z' < 30 → P (some (.int 1)) (rs (em (wb m 1 0) (r_nx a' n (p + 1)) b (k' + 1) t' (z' + 1)) (up2 (up2 a' r_around x (a' r_opNode k')) r_opSign k' 58)))
    (h2 : 30 ≤ z' → P (some (.int 1)) (rs (upd (em (wb m 1 0) (r_nx a' n (p + 1)) b (k' + 1) t' (z' + 1)) r_wrong (nI (r_nx a' n (p + 1)))) (up2 (up2 a' r_around x (a' r_opNode k')) r_opSign k' 58))) : pv_call rq_mt (d + 4) rq_m_R_readOperator [.ref 0, .int 58] (rs (em m p b k t z) a) P := by
  refine pv_call_of rfl rfl rfl (pv_run [115] 80 ?_)
  refine And.intro (Or.inr rfl) ?_
  refine And.intro (Or.inl rfl) ?_
  refine And.intro (fun q => absurd q (by decide)) (fun _ => ?_)
  refine And.intro (fun q => absurd q (by decide)) (fun _ => ?_)
  refine And.intro (fun q => absurd q (by decide)) (fun _ => ?_)
  show pv_go rq_T23 1 (pv_call rq_mt (d + 3)) P (115, [(0, .ref 0), (1, .int 58)], [], rs (upd (upd (em m p b k t z) r_wantsMore 1) r_beginsMore 0) a)
  rw [em_wb]
  refine pv_run [137] 80 ?_
  refine And.intro (fun _ => ?_) (fun q => absurd rfl q)
  refine rc_waits (d + 2) (em (wb m 1 0) p b k t z) a hk0 rfl 63 _ ?_
  refine And.intro (fun q2 => absurd q2 hwt) (fun _ => ?_)
  refine hrw _ ?_
  show pv_go rq_T23 1 (pv_call rq_mt (d + 3)) P (137, [(0, .ref 0), (1, .int 58)], [], rs (em (wb m 1 0) p b (k' + 1) (t' + 1) (z' + 1)) a')
  refine pv_run [] 80 ?_
  have e2 : nI (t' + 1) - 1 = nI t' := nI_pred t'
  have i2 : vp_in (nI (t' + 1) - 1) 300 := by rw [e2]; exact vp_in_nI ht (by decide)
  have c2 : (nI (t' + 1) - 1).toNatClampNeg = t' := by rw [e2, nI_clamp (by omega)]
  have f1 : a' 32 (nI (t' + 1) - 1).toNatClampNeg = nI x := by rw [c2]; exact hx
  have i4 : vp_in (a' 32 (nI (t' + 1) - 1).toNatClampNeg) 260 := by rw [f1]; exact vp_in_nI hx2 (by decide)
  have c4 : (a' 32 (nI (t' + 1) - 1).toNatClampNeg).toNatClampNeg = x := by rw [f1, nI_clamp (by omega)]
  have e5 : nI (k' + 1) - 1 = nI k' := nI_pred k'
  have i5 : vp_in (nI (k' + 1) - 1) 300 := by rw [e5]; exact vp_in_nI hk (by decide)
  have c5 : (nI (k' + 1) - 1).toNatClampNeg = k' := by rw [e5, nI_clamp (by omega)]
  refine And.intro i2 ?_
  refine And.intro i5 ?_
  refine And.intro i4 ?_
  refine And.intro i5 ?_
  show pv_call rq_mt (d + 3) 5 [.ref 0] (rs (upd (upd (upd (em (wb m 1 0) p b (k' + 1) (t' + 1) (z' + 1)) r_dones (nI (t' + 1) - 1)) r_nested (nI (z' + 1) - 1)) r_at (nI p + 1)) (up2 (up2 a' r_around (a' 32 (nI (t' + 1) - 1).toNatClampNeg).toNatClampNeg (a' 30 (nI (k' + 1) - 1).toNatClampNeg)) r_opSign (nI (k' + 1) - 1).toNatClampNeg 58)) _
  rw [c4, c5, e2, nI_pred, nI_1, em_dones, em_nested, em_at]
  have er : ∀ u w, r_nx (up2 (up2 a' r_around x (a' r_opNode k')) r_opSign k' 58) u w = r_nx a' u w := fun u w => rfl
  refine rc_here (d + 1) (em (wb m 1 0) (p + 1) b (k' + 1) t' z') (up2 (up2 a' r_around x (a' r_opNode k')) r_opSign k' 58) hn (by omega) rfl hsz _ ?_
  rw [em_at, er]
  have hl2 := r_nx_le (a := a') (n := n) (p := p + 1) (by omega)
  have hnn : r_nx a' n (r_nx a' n (p + 1)) = r_nx a' n (p + 1) := r_nx_nx (by omega)
  generalize r_nx a' n (p + 1) = p2 at *
  refine rc_nest d (em (wb m 1 0) p2 b (k' + 1) t' z') (up2 (up2 a' r_around x (a' r_opNode k')) r_opSign k' 58) hn hl2.2 rfl hsz hz rfl _ (fun hz1 => ?_) (fun hz1 => ?_)
  · rw [em_nested]
    exact And.intro (Or.inr rfl) (h1 hz1)
  · rw [er, hnn, em_at, if_pos (show em (wb m 1 0) p2 b (k' + 1) t' z' r_wrong = -1 from hw), upd_comm _ _ _ (by decide), em_nested]
    exact And.intro (Or.inr rfl) (h2 hz1)
