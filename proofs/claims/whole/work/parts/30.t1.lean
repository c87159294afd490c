theorem rc_isIn (d : Nat) (S : pv_S) (v lo hi : Int32) (P : pv_R) (h : P (some (.int (if lo ≤ v ∧ v ≤ hi then 1 else 0))) S) : pv_call rq_mt (d + 1) rq_m_R_isIn [.int v, .int lo, .int hi] S P := by
  refine pv_call_of rfl rfl rfl (pv_run [] 50 ?_)
  refine And.intro (fun c1 => ?_) (fun c1 => ?_)
  · refine And.intro (Or.inl rfl) ?_
    rw [if_neg (by intro q; exact absurd c1 (Int32.not_lt.mpr q.1))] at h
    exact h
  · refine And.intro (fun c2 => ?_) (fun c2 => ?_)
    · refine And.intro (Or.inl rfl) ?_
      rw [if_neg (by intro q; exact absurd c2 (Int32.not_lt.mpr q.2))] at h
      exact h
    · refine And.intro (Or.inr rfl) ?_
      rw [if_pos ⟨Int32.not_lt.mp c1, Int32.not_lt.mp c2⟩] at h
      exact h
