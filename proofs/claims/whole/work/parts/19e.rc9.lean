set_option maxRecDepth 100000 in
/-- a NAME that is assigned: its node waits on the stack -/
theorem rc_readName_set (d : Nat) (m : Nat → Int32) (a : Nat → Nat → Int32) {n p b k t z u sc : Nat} (hn : n ≤ 240) (hp : p < n) (hp2 : r_nx a n (p + 1) < n) (hsz : m r_size = nI n) (hw : m r_wrong = -1) (hsc2 : sc ≤ 12) (hsc : m r_scopes = nI sc) (hb : b < 260) (hk : k < 300) (hz : z < 2 ^ 30) (c g : Int32) (hu : u < 26) (hc : c - 97 = nI u) (hv : ¬ a r_named u = -1) (hg : ¬ g = 0) (hne : r_ch a n (r_nx a n (p + 1)) = 61) (P : pv_R)
    (h1 : z < 30 → P (some (.int 1)) (rs (em m (r_nx a n (r_nx a n (p + 1) + 1)) (b + 1) (k + 1) t (z + 1)) (up2 (up2 (up2 (r_nodeA a b 61 (nI p) 0 (thr (a r_scope) sc)) r_variable b (a r_named u)) r_opSign k 61) r_opNode k (nI b))))
    (h2 : 30 ≤ z → P (some (.int 1)) (rs (upd (em m (r_nx a n (r_nx a n (p + 1) + 1)) (b + 1) (k + 1) t (z + 1)) r_wrong (nI (r_nx a n (r_nx a n (p + 1) + 1)))) (up2 (up2 (up2 (r_nodeA a b 61 (nI p) 0 (thr (a r_scope) sc)) r_variable b (a r_named u)) r_opSign k 61) r_opNode k (nI b)))) : pv_call rq_mt (d + 4) rq_m_R_readName [.ref 0, .int c, .int g] (rs (em m p b k t z) a) P := by
  refine pv_call_of rfl rfl rfl (pv_run [103] 80 ?_)
  have hi : vp_in (c - 97) 26 := by rw [hc]; exact vp_in_nI hu (by decide)
  have hx : a 23 (c - 97).toNatClampNeg = a r_named u := by rw [hc, nI_clamp (by omega)]
  refine And.intro hi ?_
  rw [hx]
  generalize a r_named u = v at *
  refine And.intro (fun q => absurd q hv) (fun _ => ?_)
  refine And.intro (fun q => absurd q hg) (fun _ => ?_)
  show pv_call rq_mt (d + 3) 5 [.ref 0] (rs (upd (em m p b k t z) r_at (nI p + 1)) a) _
  rw [nI_1, em_at]
  refine rc_here (d + 1) (em m (p + 1) b k t z) a hn (by omega) rfl hsz _ ?_
  rw [em_at]
  have hl := r_nx_le (a := a) (n := n) (p := p + 1) (by omega)
  generalize r_nx a n (p + 1) = p1 at *
  refine And.intro (fun _ => ?_) (fun q2 => absurd hne q2)
  refine rc_node (d + 1) (em m p1 b k t z) a hsc2 hsc hb rfl 61 (nI p) 0 (Or.inl rfl) _ ?_
  rw [em_nodes]
  have i1 : vp_in (nI b) 260 := vp_in_nI hb (by decide)
  have e1 : (nI b).toNatClampNeg = b := nI_clamp (by omega)
  refine And.intro i1 ?_
  show pv_call rq_mt (d + 3) 14 [.ref 0, .int 61, .int (nI b)] (rs (em m p1 (b + 1) k t z) (up2 (r_nodeA a b 61 (nI p) 0 (thr (a r_scope) sc)) r_variable (nI b).toNatClampNeg v)) _
  rw [e1]
  refine rc_push (d + 2) (em m p1 (b + 1) k t z) (up2 (r_nodeA a b 61 (nI p) 0 (thr (a r_scope) sc)) r_variable b v) hk rfl 61 (nI b) _ ?_
  rw [em_ops]
  have er : ∀ x y, r_nx (up2 (up2 (up2 (r_nodeA a b 61 (nI p) 0 (thr (a r_scope) sc)) r_variable b v) r_opSign k 61) r_opNode k (nI b)) x y = r_nx a x y := fun x y => rfl
  generalize hA : up2 (up2 (up2 (r_nodeA a b 61 (nI p) 0 (thr (a r_scope) sc)) r_variable b v) r_opSign k 61) r_opNode k (nI b) = a2 at h1 h2 er ⊢
  show pv_call rq_mt (d + 3) 5 [.ref 0] (rs (upd (em m p1 (b + 1) (k + 1) t z) r_at (nI p1 + 1)) a2) _
  rw [nI_1, em_at]
  refine rc_here (d + 1) (em m (p1 + 1) (b + 1) (k + 1) t z) a2 hn (by omega) rfl hsz _ ?_
  rw [em_at, er]
  have hl2 := r_nx_le (a := a) (n := n) (p := p1 + 1) (by omega)
  have hnn : r_nx a n (r_nx a n (p1 + 1)) = r_nx a n (p1 + 1) := r_nx_nx (by omega)
  generalize r_nx a n (p1 + 1) = p2 at *
  refine rc_nest d (em m p2 (b + 1) (k + 1) t z) a2 hn hl2.2 rfl hsz hz rfl _ (fun hz1 => ?_) (fun hz1 => ?_)
  · rw [em_nested]
    exact And.intro (Or.inr rfl) (h1 hz1)
  · rw [er, hnn, em_at, if_pos (show em m p2 (b + 1) (k + 1) t z r_wrong = -1 from hw), upd_comm _ _ _ (by decide), em_nested]
    exact And.intro (Or.inr rfl) (h2 hz1)
