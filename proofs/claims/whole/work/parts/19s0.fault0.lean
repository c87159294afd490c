set_option maxRecDepth 100000 in
/-- behind a fault, with nothing more to read -/
theorem rc_e_fault0 (d : Nat) (m : Nat → Int32) (a : Nat → Nat → Int32) (hw : ¬ m r_wrong = -1) (st g c : Int32) (P : pv_R) (h : P (some (.int (-1))) (rs m a)) : pv_go rq_T21 0 (pv_call rq_mt (d + 1)) P (259, eM st 0 g 0 c, [], rs m a) := by
  have z : (if m r_wrong = -1 then 1 else 0 : Int32) = 0 := if_neg hw
  refine pv_run [26] 80 ?_
  refine rc_isRight d m a _ ?_
  rw [z]
  refine And.intro (fun _ => ?_) (fun q => absurd rfl q)
  show pv_go rq_T21 0 (pv_call rq_mt (d + 1)) P (26, eM st 0 g 0 c, [], rs m a)
  refine pv_run [] 80 ?_
  refine And.intro (fun _ => ?_) (fun q => absurd rfl q)
  refine rc_isRight d m a _ ?_
  rw [z]
  refine And.intro (fun _ => ?_) (fun q => absurd rfl q)
  exact h
