set_option maxRecDepth 100000 in
theorem rs_doE (d : Nat) (m : Nat → Int32) (a : Nat → Nat → Int32) (g pt c b : Int32) (P : pv_R) (h : pv_call rq_mt (d + 1) rq_m_R_readE [.ref 0, .int b] (rs m a) (fun o S => (∃ r, o = some (.int r)) ∧ ∃ m' a', S = rs m' a' ∧ pv_call rq_mt (d + 1) rq_m_R_take [.ref 0, .int 59] (rs m' a') (fun o S => o = none ∧ P none S))) : pv_go rq_T26 3 (pv_call rq_mt (d + 1)) P (288, sL6 g pt c 1 1 b, [], rs m a) := by
  refine pv_run [] 50 ?_
  refine And.intro (fun q => absurd q (by decide)) (fun _ => ?_)
  refine pv_call_cm rq_mt (d + 1) _ _ _ _ _ ?_ h
  intro o S hS
  obtain ⟨⟨r, rfl⟩, m', a', rfl, hS⟩ := hS
  refine pv_call_cm rq_mt (d + 1) _ _ _ _ _ ?_ hS
  intro o S hS
  obtain ⟨rfl, hS⟩ := hS
  exact hS
set_option maxRecDepth 100000 in
theorem rs_doGiven (d : Nat) (m : Nat → Int32) (a : Nat → Nat → Int32) (g pt c b : Int32) (hc : c = 36 ∨ c = 37) (P : pv_R) (h : pv_call rq_mt (d + 1) rq_m_R_readGiven [.ref 0, .int b, .int c] (rs m a) (fun o S => o = none ∧ P none S)) : pv_go rq_T26 3 (pv_call rq_mt (d + 1)) P (288, sL6 g pt c 1 0 b, [], rs m a) := by
  have hg : pv_go rq_T26 3 (pv_call rq_mt (d + 1)) P (321, sL6 g pt c 1 0 b, [], rs m a) := by
    refine pv_run [] 50 ?_
    refine pv_call_cm rq_mt (d + 1) _ _ _ _ _ ?_ h
    intro o S hS
    obtain ⟨rfl, hS⟩ := hS
    exact hS
  refine pv_run [321] 50 ?_
  refine And.intro (fun _ => ?_) (fun q => absurd rfl q)
  refine And.intro (fun _ => hg) (fun q1 => ?_)
  refine And.intro (fun _ => hg) (fun q2 => ?_)
  exact absurd hc (fun r => r.elim q1 q2)
set_option maxRecDepth 100000 in
theorem rs_doJump (d : Nat) (m : Nat → Int32) (a : Nat → Nat → Int32) (g pt c b : Int32) (hc : c = 66 ∨ c = 67) (P : pv_R) (h : pv_call rq_mt (d + 1) rq_m_R_readJump [.ref 0, .int b, .int c] (rs m a) (fun o S => o = none ∧ P none S)) : pv_go rq_T26 3 (pv_call rq_mt (d + 1)) P (288, sL6 g pt c 1 0 b, [], rs m a) := by
  have hg : pv_go rq_T26 3 (pv_call rq_mt (d + 1)) P (343, sL6 g pt c 1 0 b, [], rs m a) := by
    refine pv_run [] 50 ?_
    refine pv_call_cm rq_mt (d + 1) _ _ _ _ _ ?_ h
    intro o S hS
    obtain ⟨rfl, hS⟩ := hS
    exact hS
  have n36 : ¬ c = 36 := fun e => by rw [e] at hc; exact absurd hc (by decide)
  have n37 : ¬ c = 37 := fun e => by rw [e] at hc; exact absurd hc (by decide)
  refine pv_run [343] 50 ?_
  refine And.intro (fun _ => ?_) (fun q => absurd rfl q)
  refine And.intro (fun q => absurd q n36) (fun _ => ?_)
  refine And.intro (fun q => absurd q n37) (fun _ => ?_)
  refine And.intro (fun _ => hg) (fun q1 => ?_)
  refine And.intro (fun _ => hg) (fun q2 => ?_)
  exact absurd hc (fun r => r.elim q1 q2)
set_option maxRecDepth 100000 in
/-- R and X: their e, or none -/
theorem rs_doRet (d : Nat) (m : Nat → Int32) (a : Nat → Nat → Int32) {n p : Nat} (hn : n ≤ 240) (hp : p < n) (hat : m r_at = nI p) (hsz : m r_size = nI n) (g pt c b : Int32) (hc : c = 82 ∨ c = 88) (P : pv_R)
    (h1 : r_ch a n (r_nx a n (p + 1)) = 59 → pv_call rq_mt (d + 2) rq_m_R_take [.ref 0, .int 59] (rs (upd m r_at (nI (r_nx a n (p + 1)))) a) (fun o S => o = none ∧ P none S))
    (h2 : ¬ r_ch a n (r_nx a n (p + 1)) = 59 → pv_call rq_mt (d + 2) rq_m_R_readE [.ref 0, .int b] (rs (upd m r_at (nI (r_nx a n (p + 1)))) a) (fun o S => (∃ r, o = some (.int r)) ∧ ∃ m' a', S = rs m' a' ∧ pv_call rq_mt (d + 2) rq_m_R_take [.ref 0, .int 59] (rs m' a') (fun o S => o = none ∧ P none S))) : pv_go rq_T26 3 (pv_call rq_mt (d + 2)) P (288, sL6 g pt c 1 0 b, [], rs m a) := by
  have tk : ∀ m' a', pv_call rq_mt (d + 2) rq_m_R_take [.ref 0, .int 59] (rs m' a') (fun o S => o = none ∧ P none S) → pv_go rq_T26 3 (pv_call rq_mt (d + 2)) P (391, sL6 g pt c 1 0 b, [], rs m' a') := by
    intro m' a' hS
    refine pv_run [] 50 ?_
    refine pv_call_cm rq_mt (d + 2) _ _ _ _ _ ?_ hS
    intro o S hS
    obtain ⟨rfl, hS⟩ := hS
    exact hS
  have hg : pv_go rq_T26 3 (pv_call rq_mt (d + 2)) P (365, sL6 g pt c 1 0 b, [], rs m a) := by
    refine pv_run [391] 50 ?_
    show pv_call rq_mt (d + 2) 5 [.ref 0] (rs (upd m r_at (m 26 + 1)) a) _
    rw [show m 26 = nI p from hat, nI_1]
    refine rc_here d (upd m r_at (nI (p + 1))) a hn (by omega) rfl hsz _ ?_
    rw [upd_upd]
    refine And.intro (fun q => ?_) (fun q => ?_)
    · exact tk _ _ (h1 q)
    · refine pv_call_cm rq_mt (d + 2) _ _ _ _ _ ?_ (h2 q)
      intro o S hS
      obtain ⟨⟨r, rfl⟩, m', a', rfl, hS⟩ := hS
      exact tk m' a' hS
  refine pv_run [365] 50 ?_
  refine And.intro (fun _ => ?_) (fun q => absurd rfl q)
  refine And.intro (fun q => absurd hc (fun e => by rw [show c = 36 from q] at e; exact absurd e (by decide))) (fun _ => ?_)
  refine And.intro (fun q => absurd hc (fun e => by rw [show c = 37 from q] at e; exact absurd e (by decide))) (fun _ => ?_)
  refine And.intro (fun q => absurd hc (fun e => by rw [show c = 66 from q] at e; exact absurd e (by decide))) (fun _ => ?_)
  refine And.intro (fun q => absurd hc (fun e => by rw [show c = 67 from q] at e; exact absurd e (by decide))) (fun _ => ?_)
  refine And.intro (fun _ => hg) (fun q1 => ?_)
  refine And.intro (fun _ => hg) (fun q2 => ?_)
  exact absurd hc (fun r => r.elim q1 q2)
set_option maxRecDepth 100000 in
theorem rs_doLabel (d : Nat) (m : Nat → Int32) (a : Nat → Nat → Int32) (g pt c b : Int32) (hc : 50 ≤ c ∧ c ≤ 57) (P : pv_R) (h : pv_call rq_mt (d + 1) rq_m_R_readLabel [.ref 0, .int b, .int c] (rs m a) (fun o S => o = none ∧ ∃ m' a', S = rs m' a' ∧ pv_call rq_mt (d + 1) rq_m_R_begin [.ref 0, .int b] (rs m' a') (fun o S => o = none ∧ P none S))) : pv_go rq_T26 3 (pv_call rq_mt (d + 1)) P (288, sL6 g pt c 1 0 b, [], rs m a) := by
  refine pv_run [] 80 ?_
  refine And.intro (fun _ => ?_) (fun q => absurd rfl q)
  refine And.intro (fun q => absurd hc (fun e => by rw [show c = 36 from q] at e; exact absurd e (by decide))) (fun _ => ?_)
  refine And.intro (fun q => absurd hc (fun e => by rw [show c = 37 from q] at e; exact absurd e (by decide))) (fun _ => ?_)
  refine And.intro (fun q => absurd hc (fun e => by rw [show c = 66 from q] at e; exact absurd e (by decide))) (fun _ => ?_)
  refine And.intro (fun q => absurd hc (fun e => by rw [show c = 67 from q] at e; exact absurd e (by decide))) (fun _ => ?_)
  refine And.intro (fun q => absurd hc (fun e => by rw [show c = 82 from q] at e; exact absurd e (by decide))) (fun _ => ?_)
  refine And.intro (fun q => absurd hc (fun e => by rw [show c = 88 from q] at e; exact absurd e (by decide))) (fun _ => ?_)
  refine rc_isLabel d _ c _ ?_
  rw [if_pos hc]
  refine And.intro (fun q => absurd q (by decide)) (fun _ => ?_)
  refine pv_call_cm rq_mt (d + 1) _ _ _ _ _ ?_ h
  intro o S hS
  obtain ⟨rfl, m', a', rfl, hS⟩ := hS
  refine pv_call_cm rq_mt (d + 1) _ _ _ _ _ ?_ hS
  intro o S hS
  obtain ⟨rfl, hS⟩ := hS
  exact hS
set_option maxRecDepth 100000 in
theorem rs_doOpen (d : Nat) (m : Nat → Int32) (a : Nat → Nat → Int32) (g pt c b : Int32) (hc : ¬ (c = 36 ∨ c = 37) ∧ ¬ (c = 66 ∨ c = 67) ∧ ¬ (c = 82 ∨ c = 88) ∧ ¬ (50 ≤ c ∧ c ≤ 57)) (P : pv_R) (h : pv_call rq_mt (d + 1) rq_m_R_begin [.ref 0, .int b] (rs (upd m r_at (m r_at + 1)) a) (fun o S => o = none ∧ P none S)) : pv_go rq_T26 3 (pv_call rq_mt (d + 1)) P (288, sL6 g pt c 1 0 b, [], rs m a) := by
  refine pv_run [] 80 ?_
  refine And.intro (fun _ => ?_) (fun q => absurd rfl q)
  refine And.intro (fun q => absurd (Or.inl q) hc.1) (fun _ => ?_)
  refine And.intro (fun q => absurd (Or.inr q) hc.1) (fun _ => ?_)
  refine And.intro (fun q => absurd (Or.inl q) hc.2.1) (fun _ => ?_)
  refine And.intro (fun q => absurd (Or.inr q) hc.2.1) (fun _ => ?_)
  refine And.intro (fun q => absurd (Or.inl q) hc.2.2.1) (fun _ => ?_)
  refine And.intro (fun q => absurd (Or.inr q) hc.2.2.1) (fun _ => ?_)
  refine rc_isLabel d _ c _ ?_
  rw [if_neg hc.2.2.2]
  refine And.intro (fun _ => ?_) (fun q => absurd rfl q)
  refine pv_call_cm rq_mt (d + 1) _ _ _ _ _ ?_ h
  intro o S hS
  obtain ⟨rfl, hS⟩ := hS
  exact hS
