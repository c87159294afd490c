theorem wts_01 (f : Nat → Int32) (s : Int32) : ∀ k, wts f s k = 0 ∨ wts f s k = 1 := by
  intro k
  induction k with
  | zero => exact Or.inl rfl
  | succ k ih =>
    unfold wts
    split
    · exact Or.inr rfl
    · split
      · exact Or.inl rfl
      · exact ih
set_option maxRecDepth 100000 in
theorem rc_ro_ask (d : Nat) (m : Nat → Int32) (a a' : Nat → Nat → Int32) {n p b k t z k' t' z' sc x : Nat} (hn : n ≤ 240) (hp : p < n) (hsz : m r_size = nI n) (hw : m r_wrong = -1) (hsc2 : sc ≤ 12) (hsc : m r_scopes = nI sc) (hb : b < 260) (hk : k' < 300) (ht : t' < 300) (hz : z' < 2 ^ 30) (hx : a' r_done t' = nI x) (hx2 : x < 260) (hrw : rwTo (d + 1) 1 1 0 (em (wb m 1 0) p b k t z) a (em (wb m 1 0) p b k' (t' + 1) z') a') (P : pv_R)
    (h1 : z' < 30 → P (some (.int 1)) (rs (em (wb m 1 1) (r_nx a' n (p + 1)) (b + 1) (k' + 1) t' (z' + 1)) (up2 (up2 (up2 (r_nodeA a' b 63 (a' r_first x) 0 (thr (a' r_scope) sc)) r_opSign k' 63) r_opNode k' (nI b)) r_around x (nI b))))
    (h2 : 30 ≤ z' → P (some (.int 1)) (rs (upd (em (wb m 1 1) (r_nx a' n (p + 1)) (b + 1) (k' + 1) t' (z' + 1)) r_wrong (nI (r_nx a' n (p + 1)))) (up2 (up2 (up2 (r_nodeA a' b 63 (a' r_first x) 0 (thr (a' r_scope) sc)) r_opSign k' 63) r_opNode k' (nI b)) r_around x (nI b)))) : pv_call rq_mt (d + 4) rq_m_R_readOperator [.ref 0, .int 63] (rs (em m p b k t z) a) P := by
  refine pv_call_of rfl rfl rfl (pv_run [74] 80 ?_)
  refine And.intro (Or.inr rfl) ?_
  refine And.intro (Or.inl rfl) ?_
  refine And.intro (fun q => absurd q (by decide)) (fun _ => ?_)
  refine And.intro (fun q => absurd q (by decide)) (fun _ => ?_)
  refine And.intro (fun _ => ?_) (fun q => absurd rfl q)
  show pv_call rq_mt (d + 3) 18 [.ref 0, .int 1, .int 1, .int 0] (rs (upd (upd (em m p b k t z) r_wantsMore 1) r_beginsMore 0) a) _
  rw [em_wb]
  refine hrw _ ?_
  refine rc_infix d (em (wb m 1 0) p b k' (t' + 1) z') a' hsc2 hsc hb rfl hk rfl ht rfl hx hx2 63 _ ?_
  show pv_wp _ _ _ _ _ _ _ (_, _, _, rs (upd (upd (upd (em (wb m 1 0) p b k' (t' + 1) z') r_nodes (nI (b + 1))) r_ops (nI (k' + 1))) r_at (nI p + 1)) _)
  rw [em_nodes, em_ops, nI_1 p, em_at]
  have er : ∀ u w, r_nx (up2 (up2 (up2 (r_nodeA a' b 63 (a' r_first x) 0 (thr (a' r_scope) sc)) r_opSign k' 63) r_opNode k' (nI b)) r_around x (nI b)) u w = r_nx a' u w := fun u w => rfl
  have hx' : (up2 (up2 (r_nodeA a' b 63 (a' r_first x) 0 (thr (a' r_scope) sc)) r_opSign k' 63) r_opNode k' (nI b)) r_done t' = nI x := hx
  generalize up2 (up2 (r_nodeA a' b 63 (a' r_first x) 0 (thr (a' r_scope) sc)) r_opSign k' 63) r_opNode k' (nI b) = a1 at h1 h2 hx' er ⊢
  show pv_go rq_T23 1 (pv_call rq_mt (d + 3)) P (74, [(0, .ref 0), (1, .int 63), (2, .int (nI b))], [], rs (em (wb m 1 0) (p + 1) (b + 1) (k' + 1) (t' + 1) z') a1)
  refine pv_run [] 80 ?_
  have e2 : nI (t' + 1) - 1 = nI t' := nI_pred t'
  have i2 : vp_in (nI (t' + 1) - 1) 300 := by rw [e2]; exact vp_in_nI ht (by decide)
  have c2 : (nI (t' + 1) - 1).toNatClampNeg = t' := by rw [e2, nI_clamp (by omega)]
  have f1 : a1 32 (nI (t' + 1) - 1).toNatClampNeg = nI x := by rw [c2]; exact hx'
  have i4 : vp_in (a1 32 (nI (t' + 1) - 1).toNatClampNeg) 260 := by rw [f1]; exact vp_in_nI hx2 (by decide)
  have c4 : (a1 32 (nI (t' + 1) - 1).toNatClampNeg).toNatClampNeg = x := by rw [f1, nI_clamp (by omega)]
  refine And.intro i2 ?_
  refine And.intro i4 ?_
  refine And.intro (Or.inr rfl) ?_
  show pv_call rq_mt (d + 3) 5 [.ref 0] (rs (upd (upd (em (wb m 1 0) (p + 1) (b + 1) (k' + 1) (t' + 1) z') r_dones (nI (t' + 1) - 1)) r_beginsMore 1) (up2 a1 r_around (a1 32 (nI (t' + 1) - 1).toNatClampNeg).toNatClampNeg (nI b))) _
  rw [c4, e2, em_dones, em_g]
  refine rc_here (d + 1) (em (wb m 1 1) (p + 1) (b + 1) (k' + 1) t' z') (up2 a1 r_around x (nI b)) hn (by omega) rfl hsz _ ?_
  rw [em_at, er]
  have hl2 := r_nx_le (a := a') (n := n) (p := p + 1) (by omega)
  have hnn : r_nx a' n (r_nx a' n (p + 1)) = r_nx a' n (p + 1) := r_nx_nx (by omega)
  generalize r_nx a' n (p + 1) = p2 at *
  refine rc_nest d (em (wb m 1 1) p2 (b + 1) (k' + 1) t' z') (up2 a1 r_around x (nI b)) hn hl2.2 rfl hsz hz rfl _ (fun hz1 => ?_) (fun hz1 => ?_)
  · rw [em_nested]
    exact And.intro (Or.inr rfl) (h1 hz1)
  · rw [er, hnn, em_at, if_pos (show em (wb m 1 1) p2 (b + 1) (k' + 1) t' z' r_wrong = -1 from hw), upd_comm _ _ _ (by decide), em_nested]
    exact And.intro (Or.inr rfl) (h2 hz1)
set_option maxRecDepth 100000 in
theorem rc_ro_end (d : Nat) (m : Nat → Int32) (a : Nat → Nat → Int32) {n p b k t z : Nat} (hn : n ≤ 240) (hp : p ≤ n) (hpn : r_nx a n p = p) (hsz : m r_size = nI n) (hw : m r_wrong = -1) (hk : k ≤ 300) (c : Int32) (h38 : ¬ c = 38) (h124 : ¬ c = 124) (h63 : ¬ c = 63) (h58 : c = 58 → wts (a r_opSign) 63 k = 0) (h41 : c = 41 → wts (a r_opSign) 40 k = 0) (P : pv_R)
    (h0 : wts (a r_opSign) 63 k = 0 → wts (a r_opSign) 40 k = 0 → P (some (.int 0)) (rs (em (wb m 1 0) p b k t z) a))
    (h1 : ¬ (wts (a r_opSign) 63 k = 0 ∧ wts (a r_opSign) 40 k = 0) → P (some (.int 0)) (rs (upd (em (wb m 1 0) p b k t z) r_wrong (nI p)) a)) : pv_call rq_mt (d + 3) rq_m_R_readOperator [.ref 0, .int c] (rs (em m p b k t z) a) P := by
  have fl : ¬ (wts (a r_opSign) 63 k = 0 ∧ wts (a r_opSign) 40 k = 0) → pv_go rq_T23 1 (pv_call rq_mt (d + 2)) P (293, [(0, .ref 0), (1, .int c)], [], rs (em (wb m 1 0) p b k t z) a) := by
    intro hq
    refine pv_run [] 80 ?_
    refine rc_failHere d (em (wb m 1 0) p b k t z) a hn hp rfl hsz _ ?_
    rw [hpn, em_at, if_pos (show em (wb m 1 0) p b k t z r_wrong = -1 from hw)]
    exact And.intro (Or.inl rfl) (h1 hq)
  have g275 : pv_go rq_T23 1 (pv_call rq_mt (d + 2)) P (275, [(0, .ref 0), (1, .int c)], [], rs (em (wb m 1 0) p b k t z) a) := by
    refine pv_run [293] 80 ?_
    refine rc_waits (d + 1) (em (wb m 1 0) p b k t z) a hk rfl 63 _ ?_
    refine And.intro (fun q1 => ?_) (fun q1 => ?_)
    · refine rc_waits (d + 1) (em (wb m 1 0) p b k t z) a hk rfl 40 _ ?_
      refine And.intro (fun q2 => ?_) (fun q2 => ?_)
      · exact And.intro (Or.inl rfl) (h0 q1 q2)
      · exact fl (fun r => q2 r.2)
    · exact fl (fun r => q1 r.1)
  have g216 : pv_go rq_T23 1 (pv_call rq_mt (d + 2)) P (216, [(0, .ref 0), (1, .int c)], [], rs (em (wb m 1 0) p b k t z) a) := by
    refine pv_run [275] 80 ?_
    refine And.intro (fun q1 => ?_) (fun q1 => ?_)
    · refine rc_waits (d + 1) (em (wb m 1 0) p b k t z) a hk rfl 40 _ ?_
      refine And.intro (fun q2 => ?_) (fun q2 => ?_)
      · exact g275
      · exact absurd (h41 q1) q2
    · exact g275
  refine pv_call_of rfl rfl rfl (pv_run [115] 80 ?_)
  refine And.intro (Or.inr rfl) ?_
  refine And.intro (Or.inl rfl) ?_
  refine And.intro (fun q => absurd q h38) (fun _ => ?_)
  refine And.intro (fun q => absurd q h124) (fun _ => ?_)
  refine And.intro (fun q => absurd q h63) (fun _ => ?_)
  show pv_go rq_T23 1 (pv_call rq_mt (d + 2)) P (115, [(0, .ref 0), (1, .int c)], [], rs (upd (upd (em m p b k t z) r_wantsMore 1) r_beginsMore 0) a)
  rw [em_wb]
  refine pv_run [216] 80 ?_
  refine And.intro (fun q1 => ?_) (fun q1 => ?_)
  · refine rc_waits (d + 1) (em (wb m 1 0) p b k t z) a hk rfl 63 _ ?_
    refine And.intro (fun q2 => ?_) (fun q2 => ?_)
    · exact g216
    · exact absurd (h58 q1) q2
  · exact g216
