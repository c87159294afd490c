set_option maxRecDepth 100000 in
/-- an operand is wanted: the next sign is looked at -/
theorem rc_e_B (d : Nat) (m : Nat → Int32) (a : Nat → Nat → Int32) {n p b k t z : Nat} (hn : n ≤ 240) (hp : p ≤ n) (hsz : m r_size = nI n) (hw : m r_wrong = -1) (st g : Int32) (L : pv_L) (hL : L = [] ∨ ∃ c, L = [(5, .int c)]) (P : pv_R) (h : pv_go rq_T21 0 (pv_call rq_mt (d + 2)) P (48, eM st 1 g 1 (r_ch a n (r_nx a n p)), [], rs (em m (r_nx a n p) b k t z) a)) : pv_go rq_T21 0 (pv_call rq_mt (d + 2)) P (26, eL st 1 g 1 ++ L, [], rs (em m p b k t z) a) := by
  have hw' : em m p b k t z r_wrong = -1 := hw
  rcases hL with rfl | ⟨c, rfl⟩
  · refine pv_run [48] 80 ?_
    refine And.intro (fun q => absurd q (by decide)) (fun _ => ?_)
    refine rc_isRight (d + 1) (em m p b k t z) a _ ?_
    rw [if_pos hw']
    refine And.intro (fun q => absurd q (by decide)) (fun _ => ?_)
    refine rc_here d (em m p b k t z) a hn hp rfl hsz _ ?_
    rw [em_at]
    refine And.intro (fun q => absurd q (by decide)) (fun _ => ?_)
    exact h
  · refine pv_run [48] 80 ?_
    refine And.intro (fun q => absurd q (by decide)) (fun _ => ?_)
    refine rc_isRight (d + 1) (em m p b k t z) a _ ?_
    rw [if_pos hw']
    refine And.intro (fun q => absurd q (by decide)) (fun _ => ?_)
    refine rc_here d (em m p b k t z) a hn hp rfl hsz _ ?_
    rw [em_at]
    refine And.intro (fun q => absurd q (by decide)) (fun _ => ?_)
    exact h
set_option maxRecDepth 100000 in
theorem rc_e_leaf (d : Nat) (m : Nat → Int32) (a : Nat → Nat → Int32) {p b k t z sc : Nat} (hsc2 : sc ≤ 12) (hsc : m r_scopes = nI sc) (hb : b < 260) (ht : t < 300) (st g c : Int32) (hc : c = 48 ∨ c = 49 ∨ c = 35) (P : pv_R) (h : pv_go rq_T21 0 (pv_call rq_mt (d + 2)) P (259, eM st 0 g 1 c, [], rs (em m (p + 1) (b + 1) k (t + 1) z) (up2 (r_nodeA a b c (nI p) 0 (thr (a r_scope) sc)) r_done t (nI b)))) : pv_go rq_T21 0 (pv_call rq_mt (d + 2)) P (48, eM st 1 g 1 c, [], rs (em m p b k t z) a) := by
  have g90 : pv_go rq_T21 0 (pv_call rq_mt (d + 2)) P (90, eM st 1 g 1 c, [], rs (em m p b k t z) a) := by
    refine pv_run [259] 80 ?_
    refine rc_node d (em m p b k t z) a hsc2 hsc hb rfl c (nI p) 0 (Or.inl rfl) _ ?_
    rw [em_nodes]
    have i2 : vp_in (nI t) 300 := vp_in_nI ht (by decide)
    have e2 : (nI t).toNatClampNeg = t := nI_clamp (by omega)
    refine And.intro i2 ?_
    have h2 : pv_go rq_T21 0 (pv_call rq_mt (d + 2)) P (259, eM st 0 g 1 c, [], rs (upd (upd (em m p (b + 1) k t z) r_dones (nI t + 1)) r_at (nI p + 1)) (up2 (r_nodeA a b c (nI p) 0 (thr (a r_scope) sc)) r_done (nI t).toNatClampNeg (nI b))) := by
      rw [e2, nI_1, nI_1, em_dones, em_at]
      exact h
    exact h2
  have hnm : ¬ (97 ≤ c ∧ c ≤ 122) := by
    rcases hc with rfl | rfl | rfl <;> decide
  refine pv_run [90] 80 ?_
  refine rc_isName (d + 1) _ c _ ?_
  rw [if_neg hnm]
  refine And.intro (fun _ => ?_) (fun q => absurd rfl q)
  refine And.intro (fun _ => g90) (fun q1 => ?_)
  refine And.intro (fun _ => g90) (fun q2 => ?_)
  refine And.intro (fun _ => g90) (fun q3 => ?_)
  exact absurd hc (fun r => r.elim q1 (fun r => r.elim q2 q3))
set_option maxRecDepth 100000 in
/-- no sign with which an e goes on -/
theorem rc_e_bad (d : Nat) (m : Nat → Int32) (a : Nat → Nat → Int32) {n p b k t z : Nat} (hn : n ≤ 240) (hp : p ≤ n) (hpn : r_nx a n p = p) (hsz : m r_size = nI n) (hw : m r_wrong = -1) (st g c : Int32) (hnm : ¬ (97 ≤ c ∧ c ≤ 122)) (h48 : ¬ c = 48) (h49 : ¬ c = 49) (h35 : ¬ c = 35) (h33 : ¬ c = 33) (h40 : ¬ c = 40) (P : pv_R) (h : pv_go rq_T21 0 (pv_call rq_mt (d + 2)) P (259, eM st 1 g 1 c, [], rs (upd (em m p b k t z) r_wrong (nI p)) a)) : pv_go rq_T21 0 (pv_call rq_mt (d + 2)) P (48, eM st 1 g 1 c, [], rs (em m p b k t z) a) := by
  refine pv_run [259] 80 ?_
  refine rc_isName (d + 1) _ c _ ?_
  rw [if_neg hnm]
  refine And.intro (fun _ => ?_) (fun q => absurd rfl q)
  refine And.intro (fun q => absurd q h48) (fun _ => ?_)
  refine And.intro (fun q => absurd q h49) (fun _ => ?_)
  refine And.intro (fun q => absurd q h35) (fun _ => ?_)
  refine And.intro (fun q => absurd q h33) (fun _ => ?_)
  refine And.intro (fun q => absurd q h40) (fun _ => ?_)
  refine rc_failHere d (em m p b k t z) a hn hp rfl hsz _ ?_
  rw [hpn, em_at, if_pos (show em m p b k t z r_wrong = -1 from hw)]
  exact h
