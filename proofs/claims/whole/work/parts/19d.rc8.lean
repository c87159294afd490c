/-- the numbers of the reading of an e: at, nodes, ops, dones, nested -/
def em (m : Nat → Int32) (p b k t z : Nat) : Nat → Int32 := upd (upd (upd (upd (upd m r_at (nI p)) r_nodes (nI b)) r_ops (nI k)) r_dones (nI t)) r_nested (nI z)
theorem em_at (m : Nat → Int32) (p b k t z q : Nat) : upd (em m p b k t z) r_at (nI q) = em m q b k t z := by
  funext j
  simp only [em, upd]
  by_cases h : j = 26
  · subst h; rfl
  · simp [h]
theorem em_nodes (m : Nat → Int32) (p b k t z q : Nat) : upd (em m p b k t z) r_nodes (nI q) = em m p q k t z := by
  funext j
  simp only [em, upd]
  by_cases h : j = 2
  · subst h; rfl
  · simp [h]
theorem em_ops (m : Nat → Int32) (p b k t z q : Nat) : upd (em m p b k t z) r_ops (nI q) = em m p b q t z := by
  funext j
  simp only [em, upd]
  by_cases h : j = 31
  · subst h; rfl
  · simp [h]
theorem em_dones (m : Nat → Int32) (p b k t z q : Nat) : upd (em m p b k t z) r_dones (nI q) = em m p b k q z := by
  funext j
  simp only [em, upd]
  by_cases h : j = 33
  · subst h; rfl
  · simp [h]
theorem em_nested (m : Nat → Int32) (p b k t z q : Nat) : upd (em m p b k t z) r_nested (nI q) = em m p b k t q := by
  funext j
  simp only [em, upd]
  by_cases h : j = 34
  · subst h; rfl
  · simp [h]
set_option maxRecDepth 100000 in
theorem rc_readName_bad (d : Nat) (m : Nat → Int32) (a : Nat → Nat → Int32) {p b k t z u : Nat} (hw : m r_wrong = -1) (c g : Int32) (hu : u < 26) (hc : c - 97 = nI u) (hv : a r_named u = -1) (P : pv_R) (h : P (some (.int 0)) (rs (upd (em m p b k t z) r_wrong (nI p)) a)) : pv_call rq_mt (d + 2) rq_m_R_readName [.ref 0, .int c, .int g] (rs (em m p b k t z) a) P := by
  refine pv_call_of rfl rfl rfl (pv_run [] 50 ?_)
  have hi : vp_in (c - 97) 26 := by rw [hc]; exact vp_in_nI hu (by decide)
  have hx : a 23 (c - 97).toNatClampNeg = -1 := by rw [hc, nI_clamp (by omega)]; exact hv
  refine And.intro hi ?_
  rw [hx]
  refine And.intro (fun _ => ?_) (fun q => absurd rfl q)
  refine rc_fail d (em m p b k t z) a (nI p) _ ?_
  rw [if_pos (show em m p b k t z r_wrong = -1 from hw)]
  exact And.intro (Or.inl rfl) h
set_option maxRecDepth 100000 in
/-- a NAME that is used -/
theorem rc_readName_use (d : Nat) (m : Nat → Int32) (a : Nat → Nat → Int32) {n p b k t z u sc : Nat} (hn : n ≤ 240) (hp : p < n) (hsz : m r_size = nI n) (hsc2 : sc ≤ 12) (hsc : m r_scopes = nI sc) (hb : b < 260) (ht : t < 300) (c g : Int32) (hu : u < 26) (hc : c - 97 = nI u) (hv : ¬ a r_named u = -1) (hg : g = 0 ∨ ¬ r_ch a n (r_nx a n (p + 1)) = 61) (P : pv_R)
    (h : P (some (.int 0)) (rs (em m (if g = 0 then p + 1 else r_nx a n (p + 1)) (b + 1) k (t + 1) z) (up2 (up2 (r_nodeA a b c (nI p) 0 (thr (a r_scope) sc)) r_variable b (a r_named u)) r_done t (nI b)))) : pv_call rq_mt (d + 3) rq_m_R_readName [.ref 0, .int c, .int g] (rs (em m p b k t z) a) P := by
  refine pv_call_of rfl rfl rfl (pv_run [103] 50 ?_)
  have hi : vp_in (c - 97) 26 := by rw [hc]; exact vp_in_nI hu (by decide)
  have hx : a 23 (c - 97).toNatClampNeg = a r_named u := by rw [hc, nI_clamp (by omega)]
  refine And.intro hi ?_
  rw [hx]
  generalize a r_named u = v at *
  have go : ∀ q, P (some (.int 0)) (rs (em m q (b + 1) k (t + 1) z) (up2 (up2 (r_nodeA a b c (nI p) 0 (thr (a r_scope) sc)) r_variable b v) r_done t (nI b))) → pv_go rq_T22 1 (pv_call rq_mt (d + 2)) P (103, [(0, .ref 0), (1, .int c), (2, .int g), (3, .int (nI p)), (4, .int v)], [], rs (em m q b k t z) a) := by
    intro q hq
    refine pv_run [] 50 ?_
    refine rc_node d (em m q b k t z) a hsc2 hsc hb rfl c (nI p) 0 (Or.inl rfl) _ ?_
    rw [em_nodes]
    have i1 : vp_in (nI b) 260 := vp_in_nI hb (by decide)
    have i2 : vp_in (nI t) 300 := vp_in_nI ht (by decide)
    refine And.intro i1 ?_
    refine And.intro i2 ?_
    rw [← em_dones m q (b + 1) k t z (t + 1), ← nI_1 t] at hq
    have e1 : (nI b).toNatClampNeg = b := nI_clamp (by omega)
    have e2 : (nI t).toNatClampNeg = t := nI_clamp (by omega)
    have hq2 : P (some (.int 0)) (rs (upd (em m q (b + 1) k t z) r_dones (nI t + 1)) (up2 (up2 (r_nodeA a b c (nI p) 0 (thr (a r_scope) sc)) r_variable (nI b).toNatClampNeg v) r_done (nI t).toNatClampNeg (nI b))) := by rw [e1, e2]; exact hq
    exact And.intro (Or.inl rfl) hq2
  refine And.intro (fun q => absurd q hv) (fun _ => ?_)
  refine And.intro (fun q => ?_) (fun q => ?_)
  · rw [if_pos q] at h
    have g1 := go (p + 1) h
    rw [← em_at m p b k t z (p + 1), ← nI_1] at g1
    exact g1
  · have q : ¬ g = 0 := q
    rw [if_neg q] at h
    have hne : ¬ r_ch a n (r_nx a n (p + 1)) = 61 := hg.elim (fun e => absurd e q) id
    show pv_call rq_mt (d + 2) 5 [.ref 0] (rs (upd (em m p b k t z) r_at (nI p + 1)) a) _
    rw [nI_1, em_at]
    refine rc_here d (em m (p + 1) b k t z) a hn (by omega) rfl hsz _ ?_
    rw [em_at]
    refine And.intro (fun q2 => absurd q2 hne) (fun _ => ?_)
    exact go (r_nx a n (p + 1)) h
