set_option maxRecDepth 100000 in
theorem rc_e_not (d : Nat) (m : Nat → Int32) (a : Nat → Nat → Int32) {n p b k t z sc : Nat} (hn : n ≤ 240) (hp : p < n) (hsz : m r_size = nI n) (hw : m r_wrong = -1) (hsc2 : sc ≤ 12) (hsc : m r_scopes = nI sc) (hb : b < 260) (hk : k < 300) (hz : z < 2 ^ 30) (st g : Int32) (P : pv_R)
    (h1 : z < 30 → pv_go rq_T21 0 (pv_call rq_mt (d + 3)) P (259, eM st 1 0 1 33, [], rs (em m (r_nx a n (p + 1)) (b + 1) (k + 1) t (z + 1)) (up2 (up2 (r_nodeA a b 33 (nI p) 0 (thr (a r_scope) sc)) r_opSign k 33) r_opNode k (nI b))))
    (h2 : 30 ≤ z → pv_go rq_T21 0 (pv_call rq_mt (d + 3)) P (259, eM st 1 0 1 33, [], rs (upd (em m (r_nx a n (p + 1)) (b + 1) (k + 1) t (z + 1)) r_wrong (nI (r_nx a n (p + 1)))) (up2 (up2 (r_nodeA a b 33 (nI p) 0 (thr (a r_scope) sc)) r_opSign k 33) r_opNode k (nI b)))) : pv_go rq_T21 0 (pv_call rq_mt (d + 3)) P (48, eM st 1 g 1 33, [], rs (em m p b k t z) a) := by
  refine pv_run [259] 80 ?_
  refine rc_isName (d + 2) _ 33 _ ?_
  rw [if_neg (by decide)]
  refine And.intro (fun _ => ?_) (fun q => absurd rfl q)
  refine And.intro (fun q => absurd q (by decide)) (fun _ => ?_)
  refine And.intro (fun q => absurd q (by decide)) (fun _ => ?_)
  refine And.intro (fun q => absurd q (by decide)) (fun _ => ?_)
  refine And.intro (fun _ => ?_) (fun q => absurd rfl q)
  refine rc_node (d + 1) (em m p b k t z) a hsc2 hsc hb rfl 33 (nI p) 0 (Or.inl rfl) _ ?_
  rw [em_nodes]
  refine rc_push (d + 2) (em m p (b + 1) k t z) (r_nodeA a b 33 (nI p) 0 (thr (a r_scope) sc)) hk rfl 33 (nI b) _ ?_
  rw [em_ops]
  have er : ∀ u w, r_nx (up2 (up2 (r_nodeA a b 33 (nI p) 0 (thr (a r_scope) sc)) r_opSign k 33) r_opNode k (nI b)) u w = r_nx a u w := fun u w => rfl
  generalize up2 (up2 (r_nodeA a b 33 (nI p) 0 (thr (a r_scope) sc)) r_opSign k 33) r_opNode k (nI b) = a2 at h1 h2 er ⊢
  show pv_call rq_mt (d + 3) 5 [.ref 0] (rs (upd (em m p (b + 1) (k + 1) t z) r_at (nI p + 1)) a2) _
  rw [nI_1, em_at]
  refine rc_here (d + 1) (em m (p + 1) (b + 1) (k + 1) t z) a2 hn (by omega) rfl hsz _ ?_
  rw [em_at, er]
  have hl2 := r_nx_le (a := a) (n := n) (p := p + 1) (by omega)
  have hnn : r_nx a n (r_nx a n (p + 1)) = r_nx a n (p + 1) := r_nx_nx (by omega)
  generalize r_nx a n (p + 1) = p2 at *
  refine rc_nest d (em m p2 (b + 1) (k + 1) t z) a2 hn hl2.2 rfl hsz hz rfl _ (fun hz1 => ?_) (fun hz1 => ?_)
  · rw [em_nested]
    exact h1 hz1
  · rw [er, hnn, em_at, if_pos (show em m p2 (b + 1) (k + 1) t z r_wrong = -1 from hw), upd_comm _ _ _ (by decide), em_nested]
    exact h2 hz1
set_option maxRecDepth 100000 in
theorem rc_e_open (d : Nat) (m : Nat → Int32) (a : Nat → Nat → Int32) {n p b k t z : Nat} (hn : n ≤ 240) (hp : p < n) (hsz : m r_size = nI n) (hw : m r_wrong = -1) (hk : k < 300) (hz : z < 2 ^ 30) (st g : Int32) (P : pv_R)
    (h1 : z < 30 → pv_go rq_T21 0 (pv_call rq_mt (d + 3)) P (259, eM st 1 1 1 40, [], rs (em m (r_nx a n (p + 1)) b (k + 1) t (z + 1)) (up2 (up2 a r_opSign k 40) r_opNode k (-1))))
    (h2 : 30 ≤ z → pv_go rq_T21 0 (pv_call rq_mt (d + 3)) P (259, eM st 1 1 1 40, [], rs (upd (em m (r_nx a n (p + 1)) b (k + 1) t (z + 1)) r_wrong (nI (r_nx a n (p + 1)))) (up2 (up2 a r_opSign k 40) r_opNode k (-1)))) : pv_go rq_T21 0 (pv_call rq_mt (d + 3)) P (48, eM st 1 g 1 40, [], rs (em m p b k t z) a) := by
  refine pv_run [259] 80 ?_
  refine rc_isName (d + 2) _ 40 _ ?_
  rw [if_neg (by decide)]
  refine And.intro (fun _ => ?_) (fun q => absurd rfl q)
  refine And.intro (fun q => absurd q (by decide)) (fun _ => ?_)
  refine And.intro (fun q => absurd q (by decide)) (fun _ => ?_)
  refine And.intro (fun q => absurd q (by decide)) (fun _ => ?_)
  refine And.intro (fun q => absurd q (by decide)) (fun _ => ?_)
  refine And.intro (fun _ => ?_) (fun q => absurd rfl q)
  refine rc_push (d + 2) (em m p b k t z) a hk rfl 40 (-1) _ ?_
  rw [em_ops]
  have er : ∀ u w, r_nx (up2 (up2 a r_opSign k 40) r_opNode k (-1)) u w = r_nx a u w := fun u w => rfl
  generalize up2 (up2 a r_opSign k 40) r_opNode k (-1) = a2 at h1 h2 er ⊢
  show pv_call rq_mt (d + 3) 5 [.ref 0] (rs (upd (em m p b (k + 1) t z) r_at (nI p + 1)) a2) _
  rw [nI_1, em_at]
  refine rc_here (d + 1) (em m (p + 1) b (k + 1) t z) a2 hn (by omega) rfl hsz _ ?_
  rw [em_at, er]
  have hl2 := r_nx_le (a := a) (n := n) (p := p + 1) (by omega)
  have hnn : r_nx a n (r_nx a n (p + 1)) = r_nx a n (p + 1) := r_nx_nx (by omega)
  generalize r_nx a n (p + 1) = p2 at *
  refine rc_nest d (em m p2 b (k + 1) t z) a2 hn hl2.2 rfl hsz hz rfl _ (fun hz1 => ?_) (fun hz1 => ?_)
  · rw [em_nested]
    exact h1 hz1
  · rw [er, hnn, em_at, if_pos (show em m p2 b (k + 1) t z r_wrong = -1 from hw), upd_comm _ _ _ (by decide), em_nested]
    exact h2 hz1
set_option maxRecDepth 100000 in
/-- a NAME: readName decides; its answer is wants and begins -/
theorem rc_e_name (d : Nat) (m : Nat → Int32) (a : Nat → Nat → Int32) (st g c : Int32) (hnm : 97 ≤ c ∧ c ≤ 122) (P : pv_R) (h : pv_call rq_mt (d + 1) rq_m_R_readName [.ref 0, .int c, .int g] (rs m a) (fun o S => ∃ w, o = some (.int w) ∧ pv_go rq_T21 0 (pv_call rq_mt (d + 1)) P (259, eM st w w 1 c, [], S))) : pv_go rq_T21 0 (pv_call rq_mt (d + 1)) P (48, eM st 1 g 1 c, [], rs m a) := by
  refine pv_run [259] 80 ?_
  refine rc_isName d _ c _ ?_
  rw [if_pos hnm]
  refine And.intro (fun q => absurd q (by decide)) (fun _ => ?_)
  refine pv_call_cm rq_mt (d + 1) _ _ _ _ _ ?_ h
  intro o S hS
  obtain ⟨w, rfl, hS⟩ := hS
  exact hS
