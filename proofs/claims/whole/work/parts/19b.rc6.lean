/-- reduceWhile's condition -/
def rw_c (x y z c : Int32) : Prop := (c = 38 ∧ ¬ x = 0) ∨ (c = 124 ∧ ¬ y = 0) ∨ ((c = 61 ∨ c = 58) ∧ ¬ z = 0)
set_option maxRecDepth 100000 in
theorem rc_rw_head (d : Nat) (m : Nat → Int32) (a : Nat → Nat → Int32) (x y z : Int32) (L : pv_L) (hL : L = [] ∨ ∃ c, L = [(5, .int c)]) {k : Nat} (hk : k ≤ 300) (hops : m r_ops = nI k) (P : pv_R)
    (h1 : rw_c x y z (if k = 0 then -1 else a r_opSign (k - 1)) → pv_call rq_mt (d + 1) rq_m_R_reduce [.ref 0] (rs m a) (fun o S => o = none ∧ pv_go rq_T18 3 (pv_call rq_mt (d + 1)) P (3, [(0, .ref 0), (1, .int x), (2, .int y), (3, .int z), (4, .int 1)] ++ [(5, .int (if k = 0 then -1 else a r_opSign (k - 1)))], [], S)))
    (h0 : ¬ rw_c x y z (if k = 0 then -1 else a r_opSign (k - 1)) → P none (rs m a)) : pv_go rq_T18 3 (pv_call rq_mt (d + 1)) P (3, [(0, .ref 0), (1, .int x), (2, .int y), (3, .int z), (4, .int 1)] ++ L, [], rs m a) := by
  generalize hc : (if k = 0 then -1 else a r_opSign (k - 1) : Int32) = c at h1 h0
  have yes : rw_c x y z c → pv_go rq_T18 3 (pv_call rq_mt (d + 1)) P (54, [(0, .ref 0), (1, .int x), (2, .int y), (3, .int z), (4, .int 1), (5, .int c)], [], rs m a) := by
    intro hq
    refine pv_run [3] 50 ?_
    refine And.intro (fun q => absurd q (by decide)) (fun _ => ?_)
    refine pv_call_cm rq_mt (d + 1) _ _ _ _ _ ?_ (h1 hq)
    intro o S hS
    obtain ⟨rfl, hS⟩ := hS
    exact hS
  have no : ¬ rw_c x y z c → pv_go rq_T18 3 (pv_call rq_mt (d + 1)) P (58, [(0, .ref 0), (1, .int x), (2, .int y), (3, .int z), (4, .int 1), (5, .int c)], [], rs m a) := by
    intro hq
    refine pv_run [] 50 ?_
    refine And.intro (fun _ => ?_) (fun q => absurd rfl q)
    refine And.intro (fun _ => ?_) (fun q => absurd rfl q)
    exact h0 hq
  have mid : pv_go rq_T18 3 (pv_call rq_mt (d + 1)) P (14, [(0, .ref 0), (1, .int x), (2, .int y), (3, .int z), (4, .int 1), (5, .int c)], [], rs m a) := by
    have p25 : (¬ (c = 38 ∧ ¬ x = 0)) → pv_go rq_T18 3 (pv_call rq_mt (d + 1)) P (25, [(0, .ref 0), (1, .int x), (2, .int y), (3, .int z), (4, .int 1), (5, .int c)], [], rs m a) := by
      intro n1
      have p36 : (¬ (c = 124 ∧ ¬ y = 0)) → pv_go rq_T18 3 (pv_call rq_mt (d + 1)) P (36, [(0, .ref 0), (1, .int x), (2, .int y), (3, .int z), (4, .int 1), (5, .int c)], [], rs m a) := by
        intro n2
        have p50 : (c = 61 ∨ c = 58) → pv_go rq_T18 3 (pv_call rq_mt (d + 1)) P (50, [(0, .ref 0), (1, .int x), (2, .int y), (3, .int z), (4, .int 1), (5, .int c)], [], rs m a) := by
          intro n3
          refine pv_run [54, 58] 50 ?_
          refine And.intro (fun q => ?_) (fun q => ?_)
          · exact no (fun r => r.elim n1 (fun r => r.elim n2 (fun r => r.2 q)))
          · exact yes (Or.inr (Or.inr ⟨n3, q⟩))
        refine pv_run [50, 58] 50 ?_
        refine And.intro (fun q => ?_) (fun q => ?_)
        · exact p50 (Or.inl q)
        · refine And.intro (fun q2 => ?_) (fun q2 => ?_)
          · exact p50 (Or.inr q2)
          · exact no (fun r => r.elim n1 (fun r => r.elim n2 (fun r => r.1.elim q q2)))
      refine pv_run [36, 54] 50 ?_
      refine And.intro (fun q => ?_) (fun q => ?_)
      · refine And.intro (fun q2 => ?_) (fun q2 => ?_)
        · exact p36 (fun r => r.2 q2)
        · exact yes (Or.inr (Or.inl ⟨q, q2⟩))
      · exact p36 (fun r => q r.1)
    refine pv_run [25, 54] 50 ?_
    refine And.intro (fun q => ?_) (fun q => ?_)
    · refine And.intro (fun q2 => ?_) (fun q2 => ?_)
      · exact p25 (fun r => r.2 q2)
      · exact yes (Or.inl ⟨q, q2⟩)
    · exact p25 (fun r => q r.1)
  rcases hL with rfl | ⟨c', rfl⟩
  · refine pv_run [14] 50 ?_
    refine And.intro (fun q => absurd q (by decide)) (fun _ => ?_)
    refine rc_top d m a hk hops _ ?_
    rw [hc]
    exact mid
  · refine pv_run [14] 50 ?_
    refine And.intro (fun q => absurd q (by decide)) (fun _ => ?_)
    refine rc_top d m a hk hops _ ?_
    rw [hc]
    exact mid
theorem rc_reduceWhile (d : Nat) (m : Nat → Int32) (a : Nat → Nat → Int32) (x y z : Int32) (P : pv_R) (h : pv_go rq_T18 3 (pv_call rq_mt (d + 1)) P (3, [(0, .ref 0), (1, .int x), (2, .int y), (3, .int z), (4, .int 1)] ++ [], [], rs m a)) : pv_call rq_mt (d + 2) rq_m_R_reduceWhile [.ref 0, .int x, .int y, .int z] (rs m a) P := by
  refine pv_call_of rfl rfl rfl (pv_run [3] 50 ?_)
  exact h
theorem rc_begin (d : Nat) (m : Nat → Int32) (a : Nat → Nat → Int32) {k : Nat} (hk : k < 24) (ho : m r_opened = nI k) (p : Int32) (P : pv_R) (h : P none (rs (upd m r_opened (nI (k + 1))) (up2 (up2 (up2 a r_open k p) r_state k 0) r_mark k (m r_scopes)))) : pv_call rq_mt (d + 1) rq_m_R_begin [.ref 0, .int p] (rs m a) P := by
  refine pv_call_of rfl rfl rfl (pv_run [] 50 ?_)
  have e : m 40 = nI k := ho
  have hi : vp_in (m 40) 24 := by rw [e]; exact vp_in_nI hk (by decide)
  have hc : (m 40).toNatClampNeg = k := by rw [e, nI_clamp (by omega)]
  refine And.intro hi ?_
  refine And.intro hi ?_
  refine And.intro hi ?_
  rw [← nI_1, ← e, ← hc] at h
  exact h
