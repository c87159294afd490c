set_option maxRecDepth 100000 in
theorem rc_reduce2_67 (d : Nat) (m : Nat → Int32) (a : Nat → Nat → Int32) {n y : Nat} (p c : Int32) (hn : n < 300) (hdn : m r_dones = nI (n + 1)) (hy : a r_done n = nI y) (hy2 : y < 260) (P : pv_R)
    (h : P none (rs m (up2 (up2 a r_around y p) r_done n p))) : pv_go rq_T17 3 (pv_call rq_mt d) P (67, [(0, .ref 0), (1, .int p), (2, .int c)], [], rs m a) := by
  refine pv_run [] 80 ?_
  have e2 : m 33 - 1 = nI n := by rw [show m 33 = nI (n + 1) from hdn, nI_pred]
  have i2 : vp_in (m 33 - 1) 300 := by rw [e2]; exact vp_in_nI hn (by decide)
  have c2 : (m 33 - 1).toNatClampNeg = n := by rw [e2, nI_clamp (by omega)]
  have f1 : a 32 (m 33 - 1).toNatClampNeg = nI y := by rw [c2]; exact hy
  have i4 : vp_in (a 32 (m 33 - 1).toNatClampNeg) 260 := by rw [f1]; exact vp_in_nI hy2 (by decide)
  have c4 : (a 32 (m 33 - 1).toNatClampNeg).toNatClampNeg = y := by rw [f1, nI_clamp (by omega)]
  refine And.intro i2 ?_
  refine And.intro i4 ?_
  refine And.intro i2 ?_
  have hend : P none (rs (upd (upd m 33 (m 33 - 1)) 33 (m 33 - 1 + 1)) (up2 (up2 a r_around (a 32 (m 33 - 1).toNatClampNeg).toNatClampNeg p) r_done (m 33 - 1).toNatClampNeg p)) := by
    rw [upd_upd, c4, c2, e2, nI_1, upd_same hdn]
    exact h
  exact hend
set_option maxRecDepth 100000 in
/-- reduce of & and |: two dones become one -/
theorem rc_reduce2 (d : Nat) (m : Nat → Int32) (a : Nat → Nat → Int32) {k n x y : Nat} (hk : k < 300) (hn : n + 2 ≤ 300) (hops : m r_ops = nI (k + 1)) (hdn : m r_dones = nI (n + 2)) (hx : a r_done (n + 1) = nI x) (hy : a r_done n = nI y) (hx2 : x < 260) (hy2 : y < 260) (hc : a r_opSign k = 38 ∨ a r_opSign k = 124) (P : pv_R)
    (h : P none (rs (upd (upd m r_ops (nI k)) r_dones (nI (n + 1))) (up2 (up2 (up2 a r_around x (a r_opNode k)) r_around y (a r_opNode k)) r_done n (a r_opNode k)))) : pv_call rq_mt (d + 1) rq_m_R_reduce [.ref 0] (rs m a) P := by
  refine pv_call_of rfl rfl rfl (pv_run [67] 80 ?_)
  have e1 : m 31 - 1 = nI k := by rw [show m 31 = nI (k + 1) from hops, nI_pred]
  have e2 : m 33 - 1 = nI (n + 1) := by rw [show m 33 = nI (n + 2) from hdn, nI_pred]
  have i1 : vp_in (m 31 - 1) 300 := by rw [e1]; exact vp_in_nI hk (by decide)
  have c1 : (m 31 - 1).toNatClampNeg = k := by rw [e1, nI_clamp (by omega)]
  have i2 : vp_in (m 33 - 1) 300 := by rw [e2]; exact vp_in_nI (by omega) (by decide)
  have c2 : (m 33 - 1).toNatClampNeg = n + 1 := by rw [e2, nI_clamp (by omega)]
  have f1 : a 32 (m 33 - 1).toNatClampNeg = nI x := by rw [c2]; exact hx
  have i4 : vp_in (a 32 (m 33 - 1).toNatClampNeg) 260 := by rw [f1]; exact vp_in_nI hx2 (by decide)
  have c4 : (a 32 (m 33 - 1).toNatClampNeg).toNatClampNeg = x := by rw [f1, nI_clamp (by omega)]
  refine And.intro i1 ?_
  refine And.intro i1 ?_
  refine And.intro i2 ?_
  refine And.intro i4 ?_
  have go2 : pv_go rq_T17 3 (pv_call rq_mt d) P (67, [(0, .ref 0), (1, .int (a 30 (m 31 - 1).toNatClampNeg)), (2, .int (a 29 (m 31 - 1).toNatClampNeg))], [], rs (upd (upd m 31 (m 31 - 1)) 33 (m 33 - 1)) (up2 a r_around (a 32 (m 33 - 1).toNatClampNeg).toNatClampNeg (a 30 (m 31 - 1).toNatClampNeg))) := by
    rw [c4, c1, e1, e2]
    exact rc_reduce2_67 d (upd (upd m 31 (nI k)) 33 (nI (n + 1))) (up2 a r_around x (a 30 k)) (a 30 k) (a 29 k) (by omega) rfl hy hy2 P h
  refine And.intro (fun q1 => ?_) (fun q1 => ?_)
  · exact go2
  · refine And.intro (fun q2 => ?_) (fun q2 => ?_)
    · exact go2
    · exfalso
      rw [← c1] at hc
      exact hc.elim q1 q2
set_option maxRecDepth 100000 in
/-- reduce of the others: one done becomes its operator's -/
theorem rc_reduce1 (d : Nat) (m : Nat → Int32) (a : Nat → Nat → Int32) {k n x : Nat} (hk : k < 300) (hn : n + 1 ≤ 300) (hops : m r_ops = nI (k + 1)) (hdn : m r_dones = nI (n + 1)) (hx : a r_done n = nI x) (hx2 : x < 260) (hc : ¬ a r_opSign k = 38 ∧ ¬ a r_opSign k = 124) (P : pv_R)
    (h : P none (rs (upd (upd m r_ops (nI k)) r_nested (m r_nested - 1)) (up2 (up2 a r_around x (a r_opNode k)) r_done n (a r_opNode k)))) : pv_call rq_mt (d + 1) rq_m_R_reduce [.ref 0] (rs m a) P := by
  refine pv_call_of rfl rfl rfl (pv_run [] 80 ?_)
  have e1 : m 31 - 1 = nI k := by rw [show m 31 = nI (k + 1) from hops, nI_pred]
  have e2 : m 33 - 1 = nI n := by rw [show m 33 = nI (n + 1) from hdn, nI_pred]
  have i1 : vp_in (m 31 - 1) 300 := by rw [e1]; exact vp_in_nI hk (by decide)
  have c1 : (m 31 - 1).toNatClampNeg = k := by rw [e1, nI_clamp (by omega)]
  have i2 : vp_in (m 33 - 1) 300 := by rw [e2]; exact vp_in_nI (by omega) (by decide)
  have c2 : (m 33 - 1).toNatClampNeg = n := by rw [e2, nI_clamp (by omega)]
  have f1 : a 32 (m 33 - 1).toNatClampNeg = nI x := by rw [c2]; exact hx
  have i4 : vp_in (a 32 (m 33 - 1).toNatClampNeg) 260 := by rw [f1]; exact vp_in_nI hx2 (by decide)
  have c4 : (a 32 (m 33 - 1).toNatClampNeg).toNatClampNeg = x := by rw [f1, nI_clamp (by omega)]
  refine And.intro i1 ?_
  refine And.intro i1 ?_
  refine And.intro i2 ?_
  refine And.intro i4 ?_
  have hend : P none (rs (upd (upd (upd (upd m 31 (m 31 - 1)) 33 (m 33 - 1)) 34 (m 34 - 1)) 33 (m 33 - 1 + 1)) (up2 (up2 a r_around (a 32 (m 33 - 1).toNatClampNeg).toNatClampNeg (a 30 (m 31 - 1).toNatClampNeg)) r_done (m 33 - 1).toNatClampNeg (a 30 (m 31 - 1).toNatClampNeg))) := by
    have es : upd (upd m 31 (nI k)) 33 (nI (n + 1)) = upd m 31 (nI k) := upd_same (m := upd m 31 (nI k)) (k := 33) hdn
    rw [upd_comm (upd (upd m 31 (m 31 - 1)) 33 (m 33 - 1)) (m 34 - 1) (m 33 - 1 + 1) (by decide), upd_upd, c4, c2, c1, e1, e2, nI_1, es]
    exact h
  refine And.intro (fun q1 => ?_) (fun q1 => ?_)
  · exfalso
    rw [← c1] at hc
    exact hc.1 q1
  · refine And.intro (fun q2 => ?_) (fun q2 => ?_)
    · exfalso
      rw [← c1] at hc
      exact hc.2 q2
    · refine And.intro i2 ?_
      exact hend
