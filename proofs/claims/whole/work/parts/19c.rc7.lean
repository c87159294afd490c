/-- does the sign wait on the stack, ahead of a bracket or a question? -/
def wts (f : Nat → Int32) (s : Int32) : Nat → Int32
  | 0 => 0
  | k + 1 => if f k = s then 1 else if f k = 40 ∨ f k = 63 then 0 else wts f s k
theorem rc_waits_loop (d : Nat) (m : Nat → Int32) (a : Nat → Nat → Int32) (s : Int32) (P : pv_R) : ∀ k : Nat, k ≤ 300 → P (some (.int (wts (a r_opSign) s k))) (rs m a) → pv_go rq_T19 1 (pv_call rq_mt d) P (7, [(0, .ref 0), (1, .int s), (2, .int (nI k - 1))], [], rs m a) := by
  intro k
  induction k with
  | zero =>
    intro _ h
    refine pv_run [7] 50 ?_
    refine And.intro (fun q => ?_) (fun q => ?_)
    · exact And.intro (Or.inl rfl) h
    · exact absurd (show nI 0 - 1 < 0 by decide) q
  | succ k ih =>
    intro hk h
    have e : nI (k + 1) - 1 = nI k := nI_pred k
    rw [e]
    have hi : vp_in (nI k) 300 := vp_in_nI (by omega) (by decide)
    have hc : (nI k).toNatClampNeg = k := nI_clamp (by omega)
    unfold wts at h
    refine pv_run [7] 50 ?_
    refine And.intro (fun q => ?_) (fun q => ?_)
    · exact absurd q (nI_pos (by omega))
    · refine And.intro hi ?_
      refine And.intro (fun q1 => ?_) (fun q1 => ?_)
      · have q1 : a 29 (nI k).toNatClampNeg = s := q1
        rw [hc] at q1
        rw [if_pos q1] at h
        exact And.intro (Or.inr rfl) h
      · have q1 : ¬ a 29 (nI k).toNatClampNeg = s := q1
        rw [hc] at q1
        rw [if_neg q1] at h
        refine And.intro hi ?_
        refine And.intro (fun q2 => ?_) (fun q2 => ?_)
        · have q2 : a 29 (nI k).toNatClampNeg = 40 := q2
          rw [hc] at q2
          rw [if_pos (Or.inl q2)] at h
          exact And.intro (Or.inl rfl) h
        · have q2 : ¬ a 29 (nI k).toNatClampNeg = 40 := q2
          rw [hc] at q2
          refine And.intro hi ?_
          refine And.intro (fun q3 => ?_) (fun q3 => ?_)
          · have q3 : a 29 (nI k).toNatClampNeg = 63 := q3
            rw [hc] at q3
            rw [if_pos (Or.inr q3)] at h
            exact And.intro (Or.inl rfl) h
          · have q3 : ¬ a 29 (nI k).toNatClampNeg = 63 := q3
            rw [hc] at q3
            rw [if_neg (fun q => q.elim q2 q3)] at h
            have g := ih (by omega) h
            rw [Int32.sub_eq_add_neg] at g
            exact g
theorem rc_waits (d : Nat) (m : Nat → Int32) (a : Nat → Nat → Int32) {k : Nat} (hk : k ≤ 300) (hops : m r_ops = nI k) (s : Int32) (P : pv_R) (h : P (some (.int (wts (a r_opSign) s k))) (rs m a)) : pv_call rq_mt (d + 1) rq_m_R_waits [.ref 0, .int s] (rs m a) P := by
  refine pv_call_of rfl rfl rfl (pv_run [7] 50 ?_)
  have g := rc_waits_loop d m a s P k hk h
  rw [← show m 31 = nI k from hops] at g
  exact g
set_option maxRecDepth 100000 in
theorem rc_infix (d : Nat) (m : Nat → Int32) (a : Nat → Nat → Int32) {n b k t x : Nat} (hn : n ≤ 12) (hsc : m r_scopes = nI n) (hb : b < 260) (hnd : m r_nodes = nI b) (hk : k < 300) (hops : m r_ops = nI k) (ht : t < 300) (hdn : m r_dones = nI (t + 1)) (hx : a r_done t = nI x) (hx2 : x < 260) (s : Int32) (P : pv_R)
    (h : P (some (.int (nI b))) (rs (upd (upd (upd m r_nodes (nI (b + 1))) r_ops (nI (k + 1))) r_at (m r_at + 1)) (up2 (up2 (r_nodeA a b s (a r_first x) 0 (thr (a r_scope) n)) r_opSign k s) r_opNode k (nI b)))) : pv_call rq_mt (d + 3) rq_m_R_infix [.ref 0, .int s] (rs m a) P := by
  refine pv_call_of rfl rfl rfl (pv_run [] 50 ?_)
  have e2 : m 33 - 1 = nI t := by rw [show m 33 = nI (t + 1) from hdn, nI_pred]
  have i2 : vp_in (m 33 - 1) 300 := by rw [e2]; exact vp_in_nI ht (by decide)
  have c2 : (m 33 - 1).toNatClampNeg = t := by rw [e2, nI_clamp (by omega)]
  have f1 : a 32 (m 33 - 1).toNatClampNeg = nI x := by rw [c2]; exact hx
  have i4 : vp_in (a 32 (m 33 - 1).toNatClampNeg) 260 := by rw [f1]; exact vp_in_nI hx2 (by decide)
  have c4 : (a 32 (m 33 - 1).toNatClampNeg).toNatClampNeg = x := by rw [f1, nI_clamp (by omega)]
  refine And.intro i2 ?_
  refine And.intro i4 ?_
  rw [c4]
  refine rc_node d m a hn hsc hb hnd s (a 4 x) 0 (Or.inl rfl) _ ?_
  refine rc_push (d + 1) (upd m r_nodes (nI (b + 1))) (r_nodeA a b s (a 4 x) 0 (thr (a r_scope) n)) hk hops s (nI b) _ ?_
  exact h
/-- the names behind closing: k scopes on top of t are taken away -/
def clz (sc no : Nat → Int32) (t : Nat) : Nat → (Nat → Int32) → (Nat → Int32)
  | 0, f => f
  | k + 1, f => clz sc no t k (upd f (no (sc (t + k)).toNatClampNeg).toNatClampNeg (-1))
theorem rc_close_loop (d : Nat) (t : Nat) (ht : t ≤ 12) (P : pv_R) : ∀ (k : Nat) (m : Nat → Int32) (a : Nat → Nat → Int32), t + k ≤ 12 → m r_scopes = nI (t + k) → (∀ i, i < 12 → ∃ v, v < 12 ∧ a r_scope i = nI v) → (∀ v, v < 12 → ∃ u, u < 26 ∧ a r_nameOf v = nI u) → P none (rs (upd m r_scopes (nI t)) (upa a r_named (clz (a r_scope) (a r_nameOf) t k (a r_named)))) → pv_go rq_T24 3 (pv_call rq_mt d) P (0, [(0, .ref 0), (1, .int (nI t))], [], rs m a) := by
  intro k
  induction k with
  | zero =>
    intro m a hk hsc h1 h2 h
    have e : m 25 = nI t := hsc
    refine pv_run [0] 50 ?_
    refine And.intro (fun q => ?_) (fun q => ?_)
    · have e1 : upd m r_scopes (nI t) = m := upd_same hsc
      have e2 : upa a r_named (clz (a r_scope) (a r_nameOf) t 0 (a r_named)) = a := by
        funext j
        unfold upa clz
        split
        · next e => rw [e]
        · rfl
      rw [e1, e2] at h
      exact h
    · exfalso
      have q : ¬ m 25 ≤ nI t := q
      rw [e] at q
      exact q (Int32.le_refl _)
  | succ k ih =>
    intro m a hk hsc h1 h2 h
    have e : m 25 = nI (t + k + 1) := hsc
    have e1 : m 25 - 1 = nI (t + k) := by rw [e, nI_pred]
    obtain ⟨v, hv, hv2⟩ := h1 (t + k) (by omega)
    obtain ⟨u, hu, hu2⟩ := h2 v hv
    have i1 : vp_in (m 25 - 1) 12 := by rw [e1]; exact vp_in_nI (by omega) (by decide)
    have c1 : (m 25 - 1).toNatClampNeg = t + k := by rw [e1, nI_clamp (by omega)]
    have f1 : a 24 (m 25 - 1).toNatClampNeg = nI v := by rw [c1]; exact hv2
    have i2 : vp_in (a 24 (m 25 - 1).toNatClampNeg) 12 := by rw [f1]; exact vp_in_nI hv (by decide)
    have c2 : (a 24 (m 25 - 1).toNatClampNeg).toNatClampNeg = v := by rw [f1, nI_clamp (by omega)]
    have f2 : a 20 (a 24 (m 25 - 1).toNatClampNeg).toNatClampNeg = nI u := by rw [c2]; exact hu2
    have i3 : vp_in (a 20 (a 24 (m 25 - 1).toNatClampNeg).toNatClampNeg) 26 := by rw [f2]; exact vp_in_nI hu (by decide)
    have g := ih (upd m r_scopes (nI (t + k))) (up2 a r_named (a 20 (a 24 (m 25 - 1).toNatClampNeg).toNatClampNeg).toNatClampNeg (-1)) (by omega) rfl h1 h2 (by
      rw [upd_upd]
      have ea : upa (up2 a r_named (a 20 (a 24 (m 25 - 1).toNatClampNeg).toNatClampNeg).toNatClampNeg (-1)) r_named (clz (a r_scope) (a r_nameOf) t k (upd (a r_named) (a 20 (a 24 (m 25 - 1).toNatClampNeg).toNatClampNeg).toNatClampNeg (-1))) = upa a r_named (clz (a r_scope) (a r_nameOf) t (k + 1) (a r_named)) := by
        rw [c1]
        funext j
        unfold up2 upa
        split
        · rfl
        · rfl
      rw [← ea] at h
      exact h)
    refine pv_run [0] 50 ?_
    refine And.intro (fun q => ?_) (fun q => ?_)
    · exfalso
      have q : m 25 ≤ nI t := q
      rw [e, nI_leI (by omega) (by omega)] at q
      omega
    · refine And.intro i1 ?_
      refine And.intro i2 ?_
      refine And.intro i3 ?_
      rw [← e1] at g
      exact g
theorem rc_close (d : Nat) (m : Nat → Int32) (a : Nat → Nat → Int32) {t k : Nat} (hk : t + k ≤ 12) (hsc : m r_scopes = nI (t + k)) (h1 : ∀ i, i < 12 → ∃ v, v < 12 ∧ a r_scope i = nI v) (h2 : ∀ v, v < 12 → ∃ u, u < 26 ∧ a r_nameOf v = nI u) (P : pv_R) (h : P none (rs (upd m r_scopes (nI t)) (upa a r_named (clz (a r_scope) (a r_nameOf) t k (a r_named))))) : pv_call rq_mt (d + 1) rq_m_R_close [.ref 0, .int (nI t)] (rs m a) P :=
  pv_call_of rfl rfl rfl (rc_close_loop d t (by omega) P k m a hk hsc h1 h2 h)
