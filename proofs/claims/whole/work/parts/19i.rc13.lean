/-- the locals of readE -/
abbrev eL (st w g mo : Int32) : pv_L := [(0, .ref 0), (1, .int st), (2, .int w), (3, .int g), (4, .int mo)]
abbrev eM (st w g mo c : Int32) : pv_L := [(0, .ref 0), (1, .int st), (2, .int w), (3, .int g), (4, .int mo), (5, .int c)]
set_option maxRecDepth 100000 in
/-- behind a fault the answer is -1 -/
theorem rc_e_fault (d : Nat) (m : Nat → Int32) (a : Nat → Nat → Int32) (hw : ¬ m r_wrong = -1) (st w g c : Int32) (P : pv_R) (h : P (some (.int (-1))) (rs m a)) : pv_go rq_T21 0 (pv_call rq_mt (d + 1)) P (259, eM st w g 1 c, [], rs m a) := by
  have z : (if m r_wrong = -1 then 1 else 0 : Int32) = 0 := if_neg hw
  refine pv_run [26] 80 ?_
  refine rc_isRight d m a _ ?_
  rw [z]
  refine And.intro (fun _ => ?_) (fun q => absurd rfl q)
  show pv_go rq_T21 0 (pv_call rq_mt (d + 1)) P (26, eM st w g 1 c, [], rs m a)
  refine pv_run [] 80 ?_
  refine And.intro (fun q => absurd q (by decide)) (fun _ => ?_)
  refine rc_isRight d m a _ ?_
  rw [z]
  refine And.intro (fun _ => ?_) (fun q => absurd rfl q)
  refine rc_isRight d m a _ ?_
  rw [z]
  refine And.intro (fun _ => ?_) (fun q => absurd rfl q)
  exact h
set_option maxRecDepth 100000 in
/-- with an operand wanted: on to the next sign -/
theorem rc_e_want (d : Nat) (m : Nat → Int32) (a : Nat → Nat → Int32) (hw : m r_wrong = -1) (st w g c : Int32) (hw1 : ¬ w = 0) (P : pv_R) (h : pv_go rq_T21 0 (pv_call rq_mt (d + 1)) P (26, eM st w g 1 c, [], rs m a)) : pv_go rq_T21 0 (pv_call rq_mt (d + 1)) P (259, eM st w g 1 c, [], rs m a) := by
  refine pv_run [26] 80 ?_
  refine rc_isRight d m a _ ?_
  rw [if_pos hw]
  refine And.intro (fun q => absurd q (by decide)) (fun _ => ?_)
  refine And.intro (fun q => absurd q hw1) (fun _ => ?_)
  exact h
set_option maxRecDepth 100000 in
/-- behind an operand, no ! waits -/
theorem rc_e_have (d : Nat) (m : Nat → Int32) (a : Nat → Nat → Int32) (hw : m r_wrong = -1) {k : Nat} (hk : k ≤ 300) (hops : m r_ops = nI k) (htop : ¬ (if k = 0 then -1 else a r_opSign (k - 1) : Int32) = 33) (st g c : Int32) (P : pv_R) (h : pv_go rq_T21 0 (pv_call rq_mt (d + 1)) P (26, eM st 0 g 1 c, [], rs m a)) : pv_go rq_T21 0 (pv_call rq_mt (d + 1)) P (259, eM st 0 g 1 c, [], rs m a) := by
  refine pv_run [26] 80 ?_
  refine rc_isRight d m a _ ?_
  rw [if_pos hw]
  refine And.intro (fun q => absurd q (by decide)) (fun _ => ?_)
  refine And.intro (fun _ => ?_) (fun q => absurd rfl q)
  refine rc_top d m a hk hops _ ?_
  refine And.intro (fun q => absurd q htop) (fun _ => ?_)
  exact h
set_option maxRecDepth 100000 in
/-- behind an operand, a ! waits: it is reduced -/
theorem rc_e_bang (d : Nat) (m : Nat → Int32) (a : Nat → Nat → Int32) (hw : m r_wrong = -1) {k n x : Nat} (hk : k < 300) (hn : n + 1 ≤ 300) (hops : m r_ops = nI (k + 1)) (hdn : m r_dones = nI (n + 1)) (hx : a r_done n = nI x) (hx2 : x < 260) (htop : a r_opSign k = 33) (st g c : Int32) (P : pv_R) (h : pv_go rq_T21 0 (pv_call rq_mt (d + 1)) P (259, eM st 0 g 1 c, [], rs (upd (upd m r_ops (nI k)) r_nested (m r_nested - 1)) (up2 (up2 a r_around x (a r_opNode k)) r_done n (a r_opNode k)))) : pv_go rq_T21 0 (pv_call rq_mt (d + 1)) P (259, eM st 0 g 1 c, [], rs m a) := by
  refine pv_run [259] 80 ?_
  refine rc_isRight d m a _ ?_
  rw [if_pos hw]
  refine And.intro (fun q => absurd q (by decide)) (fun _ => ?_)
  refine And.intro (fun _ => ?_) (fun q => absurd rfl q)
  refine rc_top d m a (k := k + 1) (by omega) hops _ ?_
  rw [if_neg (by omega), show k + 1 - 1 = k by omega]
  refine And.intro (fun _ => ?_) (fun q => absurd htop q)
  refine rc_reduce1 d m a hk hn hops hdn hx hx2 ⟨by rw [htop]; decide, by rw [htop]; decide⟩ _ ?_
  exact h
