set_option maxRecDepth 100000 in
theorem rc_finish (d : Nat) (m : Nat → Int32) (a : Nat → Nat → Int32) {k t j : Nat} (hk : k < 24) (ho : m r_opened = nI (k + 1)) (hm : a r_mark k = nI t) (hj : t + j ≤ 12) (hsc : m r_scopes = nI (t + j)) (h1 : ∀ i, i < 12 → ∃ v, v < 12 ∧ a r_scope i = nI v) (h2 : ∀ v, v < 12 → ∃ u, u < 26 ∧ a r_nameOf v = nI u) (P : pv_R) (h : P none (rs (upd (upd m r_opened (nI k)) r_scopes (nI t)) (upa a r_named (clz (a r_scope) (a r_nameOf) t j (a r_named))))) : pv_call rq_mt (d + 2) rq_m_R_finish [.ref 0] (rs m a) P := by
  refine pv_call_of rfl rfl rfl (pv_run [] 80 ?_)
  have e1 : m 40 - 1 = nI k := by rw [show m 40 = nI (k + 1) from ho, nI_pred]
  have i1 : vp_in (m 40 - 1) 24 := by rw [e1]; exact vp_in_nI hk (by decide)
  have c1 : (m 40 - 1).toNatClampNeg = k := by rw [e1, nI_clamp (by omega)]
  refine And.intro i1 ?_
  show pv_call rq_mt (d + 1) 24 [.ref 0, .int (a 39 (m 40 - 1).toNatClampNeg)] (rs (upd m r_opened (m 40 - 1)) a) _
  rw [c1, e1, show a 39 k = nI t from hm]
  refine rc_close d (upd m r_opened (nI k)) a hj hsc h1 h2 _ ?_
  exact h
theorem rc_isLoop (d : Nat) (S : pv_S) (c : Int32) (P : pv_R) (h : P (some (.int (if c = 87 ∨ c = 68 ∨ c = 70 then 1 else 0))) S) : pv_call rq_mt (d + 1) rq_m_R_isLoop [.int c] S P := by
  refine pv_call_of rfl rfl rfl (pv_run [] 50 ?_)
  refine And.intro (fun c1 => ?_) (fun c1 => ?_)
  · rw [if_pos (Or.inl c1)] at h
    exact And.intro (Or.inr rfl) h
  · refine And.intro (fun c2 => ?_) (fun c2 => ?_)
    · rw [if_pos (Or.inr (Or.inl c2))] at h
      exact And.intro (Or.inr rfl) h
    · refine And.intro (fun c3 => ?_) (fun c3 => ?_)
      · rw [if_pos (Or.inr (Or.inr c3))] at h
        exact And.intro (Or.inr rfl) h
      · rw [if_neg (fun r => r.elim c1 (fun r => r.elim c2 c3))] at h
        exact And.intro (Or.inl rfl) h
theorem rc_point (d : Nat) (S : pv_S) (p k : Int32) (P : pv_R) (h : P (some (.int (5 * p + k))) S) : pv_call rq_mt (d + 1) rq_m_R_point [.int p, .int k] S P := by
  refine pv_call_of rfl rfl rfl (pv_run [] 50 ?_)
  exact h
