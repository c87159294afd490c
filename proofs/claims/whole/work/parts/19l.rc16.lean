set_option maxRecDepth 100000 in
/-- behind an operand: the next sign goes to readOperator -/
theorem rc_e_O (d : Nat) (m : Nat → Int32) (a : Nat → Nat → Int32) {n p b k t z : Nat} (hn : n ≤ 240) (hp : p ≤ n) (hsz : m r_size = nI n) (hw : m r_wrong = -1) (st g c0 : Int32) (P : pv_R)
    (h : pv_call rq_mt (d + 2) rq_m_R_readOperator [.ref 0, .int (r_ch a n (r_nx a n p))] (rs (em m (r_nx a n p) b k t z) a) (fun o S => ∃ (r : Int32) (m' : Nat → Int32) (a' : Nat → Nat → Int32), o = some (.int r) ∧ S = rs m' a' ∧ pv_go rq_T21 0 (pv_call rq_mt (d + 2)) P (259, eM st (if r = 0 ∨ m' r_wantsMore = 0 then 0 else 1) (m' r_beginsMore) r (r_ch a n (r_nx a n p)), [], rs m' a'))) : pv_go rq_T21 0 (pv_call rq_mt (d + 2)) P (26, eM st 0 g 1 c0, [], rs (em m p b k t z) a) := by
  have hw' : em m p b k t z r_wrong = -1 := hw
  refine pv_run [259] 80 ?_
  refine And.intro (fun q => absurd q (by decide)) (fun _ => ?_)
  refine rc_isRight (d + 1) (em m p b k t z) a _ ?_
  rw [if_pos hw']
  refine And.intro (fun q => absurd q (by decide)) (fun _ => ?_)
  refine rc_here d (em m p b k t z) a hn hp rfl hsz _ ?_
  rw [em_at]
  refine And.intro (fun _ => ?_) (fun q => absurd rfl q)
  refine pv_call_cm rq_mt (d + 2) _ _ _ _ _ ?_ h
  intro o S hS
  obtain ⟨r, m', a', rfl, rfl, hS⟩ := hS
  refine And.intro (fun q1 => ?_) (fun q1 => ?_)
  · have q1 : r = 0 := q1
    rw [if_pos (Or.inl q1)] at hS
    exact hS
  · have q1 : ¬ r = 0 := q1
    refine And.intro (fun q2 => ?_) (fun q2 => ?_)
    · have q2 : m' 35 = 0 := q2
      rw [if_pos (Or.inr q2)] at hS
      exact hS
    · have q2 : ¬ m' 35 = 0 := q2
      rw [if_neg (fun r => r.elim q1 q2)] at hS
      exact hS
set_option maxRecDepth 100000 in
/-- an e has ended: what waits is reduced, its root goes to the stmt -/
theorem rc_e_end (d : Nat) (m : Nat → Int32) (a a' : Nat → Nat → Int32) {p b k t z k' t' z' x : Nat} (hw : m r_wrong = -1) (hk : k ≤ 300) (htop : ¬ (if k = 0 then -1 else a r_opSign (k - 1) : Int32) = 33) (hx : a' r_done 0 = nI x) (hx2 : x < 260) (hrw : rwTo d 1 1 1 (em m p b k t z) a (em m p b k' t' z') a') (st g c : Int32) (P : pv_R) (h : P (some (.int (nI x))) (rs (em m p b k' t' z') (up2 a' r_around x st))) : pv_go rq_T21 0 (pv_call rq_mt (d + 2)) P (259, eM st 0 g 0 c, [], rs (em m p b k t z) a) := by
  have hw' : em m p b k t z r_wrong = -1 := hw
  refine pv_run [26] 80 ?_
  refine rc_isRight (d + 1) (em m p b k t z) a _ ?_
  rw [if_pos hw']
  refine And.intro (fun q => absurd q (by decide)) (fun _ => ?_)
  refine And.intro (fun _ => ?_) (fun q => absurd rfl q)
  refine rc_top (d + 1) (em m p b k t z) a hk rfl _ ?_
  refine And.intro (fun q => absurd q htop) (fun _ => ?_)
  show pv_go rq_T21 0 (pv_call rq_mt (d + 2)) P (26, eM st 0 g 0 c, [], rs (em m p b k t z) a)
  refine pv_run [] 80 ?_
  refine And.intro (fun _ => ?_) (fun q => absurd rfl q)
  refine rc_isRight (d + 1) (em m p b k t z) a _ ?_
  rw [if_pos hw']
  refine And.intro (fun q => absurd q (by decide)) (fun _ => ?_)
  refine hrw _ ?_
  have i0 : vp_in 0 300 := vp_in_nI (n := 0) (by decide) (by decide)
  have c0 : (0 : Int32).toNatClampNeg = 0 := by decide
  have f0 : a' 32 (0 : Int32).toNatClampNeg = nI x := by rw [c0]; exact hx
  have i1 : vp_in (a' 32 (0 : Int32).toNatClampNeg) 260 := by rw [f0]; exact vp_in_nI hx2 (by decide)
  have c1 : (a' 32 (0 : Int32).toNatClampNeg).toNatClampNeg = x := by rw [f0, nI_clamp (by omega)]
  refine And.intro i0 ?_
  refine And.intro i1 ?_
  refine And.intro i0 ?_
  have h2 : P (some (.int (a' 32 (0 : Int32).toNatClampNeg))) (rs (em m p b k' t' z') (up2 a' r_around (a' 32 (0 : Int32).toNatClampNeg).toNatClampNeg st)) := by rw [c1, f0]; exact h
  exact h2
set_option maxRecDepth 100000 in
/-- readE, from its entry to the first sign -/
theorem rc_readE (d : Nat) (m : Nat → Int32) (a : Nat → Nat → Int32) {n p b : Nat} (hn : n ≤ 240) (hp : p ≤ n) (hat : m r_at = nI p) (hnd : m r_nodes = nI b) (hsz : m r_size = nI n) (st : Int32) (P : pv_R) (h : pv_go rq_T21 0 (pv_call rq_mt (d + 3)) P (26, eL st 1 1 1 ++ [], [], rs (em m p b 0 0 1) a)) : pv_call rq_mt (d + 4) rq_m_R_readE [.ref 0, .int st] (rs m a) P := by
  have em0 : upd (upd (upd m r_ops 0) r_dones 0) r_nested 0 = em m p b 0 0 0 := by
    funext j
    simp only [em, upd]
    by_cases h1 : j = 26
    · subst h1; exact hat
    · by_cases h2 : j = 2
      · subst h2; exact hnd
      · simp [h1, h2]
        rfl
  refine pv_call_of rfl rfl rfl (pv_run [26] 80 ?_)
  show pv_call rq_mt (d + 3) 15 [.ref 0] (rs (upd (upd (upd m r_ops 0) r_dones 0) r_nested 0) a) _
  rw [em0]
  refine rc_nest d (em m p b 0 0 0) a hn hp rfl hsz (k := 0) (by decide) rfl _ (fun _ => ?_) (fun hz => absurd hz (by decide))
  rw [em_nested]
  exact h
