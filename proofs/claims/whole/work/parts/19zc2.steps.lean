abbrev pvT : Type := Nat → Option pv_I
theorem rc_stepIf (d : Nat) (S : pv_S) (k p : Nat) (P : pv_R) (h : pv_go rq_T36 3 (pv_call rq_mt d) P (0, tL k p, [], S)) : pv_call rq_mt (d + 1) rq_m_R_stepIf [.ref 0, .int (nI k), .int (nI p)] S P :=
  pv_call_of rfl rfl rfl h
theorem rc_stepCases (d : Nat) (S : pv_S) (k p : Nat) (P : pv_R) (h : pv_go rq_T37 3 (pv_call rq_mt d) P (0, tL k p, [], S)) : pv_call rq_mt (d + 1) rq_m_R_stepCases [.ref 0, .int (nI k), .int (nI p)] S P :=
  pv_call_of rfl rfl rfl h
theorem rc_stepTry (d : Nat) (S : pv_S) (k p : Nat) (P : pv_R) (h : pv_go rq_T38 3 (pv_call rq_mt d) P (0, tL k p, [], S)) : pv_call rq_mt (d + 1) rq_m_R_stepTry [.ref 0, .int (nI k), .int (nI p)] S P :=
  pv_call_of rfl rfl rfl h
