theorem rc_isIn (d : Nat) (S : pv_S) (v lo hi : Int32) (P : pv_R) (h : P (some (.int (if lo ≤ v ∧ v ≤ hi then 1 else 0))) S) : pv_call rq_mt (d + 1) rq_m_R_isIn [.int v, .int lo, .int hi] S P := by
  refine pv_call_of rfl rfl rfl (pv_run [] 50 ?_)
  refine And.intro (fun c1 => ?_) (fun c1 => ?_)
  · refine And.intro (Or.inl rfl) ?_
    rw [if_neg (by intro q; exact absurd c1 (Int32.not_lt.mpr q.1))] at h
    exact h
  · refine And.intro (fun c2 => ?_) (fun c2 => ?_)
    · refine And.intro (Or.inl rfl) ?_
      rw [if_neg (by intro q; exact absurd c2 (Int32.not_lt.mpr q.2))] at h
      exact h
    · refine And.intro (Or.inr rfl) ?_
      rw [if_pos ⟨Int32.not_lt.mp c1, Int32.not_lt.mp c2⟩] at h
      exact h
theorem rc_forget (d : Nat) (m : Nat → Int32) (a : Nat → Nat → Int32) (P : pv_R) (h : P (some (.int (m r_collected))) (rs (upd m r_collected 0) a)) : pv_call rq_mt (d + 1) rq_m_R_forget [.ref 0] (rs m a) P := by
  refine pv_call_of rfl rfl rfl (pv_run [] 50 ?_)
  exact h
theorem rc_fault (d : Nat) (m : Nat → Int32) (a : Nat → Nat → Int32) (P : pv_R) (h : P (some (.int (m r_faultPlace))) (rs m a)) : pv_call rq_mt (d + 1) rq_m_R_fault [.ref 0] (rs m a) P := by
  refine pv_call_of rfl rfl rfl (pv_run [] 50 ?_)
  exact h
theorem rc_fail (d : Nat) (m : Nat → Int32) (a : Nat → Nat → Int32) (x : Int32) (P : pv_R) (h : P none (rs (upd m r_wrong (if m r_wrong = -1 then x else m r_wrong)) a)) : pv_call rq_mt (d + 1) rq_m_R_fail [.ref 0, .int x] (rs m a) P := by
  refine pv_call_of rfl rfl rfl (pv_run [] 50 ?_)
  refine And.intro (fun c1 => ?_) (fun c1 => ?_)
  · rw [if_pos c1] at h
    exact h
  · rw [if_neg c1] at h
    exact h
theorem rc_isRight (d : Nat) (m : Nat → Int32) (a : Nat → Nat → Int32) (P : pv_R) (h : P (some (.int (if m r_wrong = -1 then 1 else 0))) (rs m a)) : pv_call rq_mt (d + 1) rq_m_R_isRight [.ref 0] (rs m a) P := by
  refine pv_call_of rfl rfl rfl (pv_run [] 50 ?_)
  refine And.intro (fun c1 => ?_) (fun c1 => ?_)
  · rw [if_pos c1] at h
    exact And.intro (Or.inr rfl) h
  · rw [if_neg c1] at h
    exact And.intro (Or.inl rfl) h
