/-! at the beginning: the empty unit -/
theorem CU_nil (a : Nat → Nat → Int32) : CU a 0 .nil := ⟨TT_nil.1, ⟨fun i R hi => absurd (List.mem_of_getElem? hi) List.not_mem_nil, lkN_all (by rw [LkS.eq_def]; trivial)⟩, fun p hp => absurd hp (Nat.not_lt_zero p)⟩
/-- the class's walk of the empty unit, in its constructor -/
theorem c_init (d : Nat) {m : Nat → Int32} {a : Nat → Nat → Int32} {l : Nat → Nat → Int64} {w : Int64} {tx : Nat → Int32} (h1 : m c_P_size = 0 ∧ m c_V_size = 0) (h2 : m c_P_thereAtEnd = 0 ∧ m c_A_faultAt = -1) (h3 : m c_A_collectedSize = 0 ∧ m c_J_size = 0) (h4 : a c_A_collected = tx) : pv_call cq_mt (d + 7) cq_m_Walks_walkUnit [.ref 5] (cs m a l w) (fun o S => o = none ∧ CSt 0 0 .nil [] (-1) tx S) := by
  have e1 : upd (upd m c_W_root (m c_W_root)) c_W_hasGrown (m c_W_hasGrown) = m := by rw [upd_id (rfl : m c_W_root = m c_W_root)]; exact upd_id rfl
  have e2 : cs m a l w = WU m a w (m c_W_root) (l 1) (m c_W_hasGrown, l 0) := by
    show cs m a (lst (fun _ => l 1) (l 0)) w = cs (upd (upd m c_W_root (m c_W_root)) c_W_hasGrown (m c_W_hasGrown)) a (lst (fun _ => l 1) (l 0)) w
    rw [e1]
  rw [e2]
  refine cc_walkUnit d (N := 0) (by omega) h1.1 (fun i hi => absurd hi (Nat.not_lt_zero i)) (fun i hi => absurd hi (Nat.not_lt_zero i)) (fun i hi => absurd hi (Nat.not_lt_zero i)) _ _ _ _ ⟨rfl, _, _, _, _, a, rfl, ⟨⟨⟨CU_nil a, fun i hi => absurd hi (Nat.not_lt_zero i)⟩, _, _, wuL_fm 0 (l 1) (m c_W_hasGrown, l 0) (fun T h1 h2 => absurd h2 (Nat.not_lt_zero T)), rfl⟩, fun j _ _ => rfl, rfl⟩, ⟨⟨h1.1, h1.2⟩, h2.1, h2.2⟩, ⟨⟨h3.1, by omega⟩, h4⟩, ⟨⟨⟨fun j _ _ => rfl, h3.2⟩, fun i x hx => ?_, fun v _ => rfl⟩, fun v hv => by omega⟩, gv_0, fun e he => nomatch he⟩
  exact absurd (List.mem_of_getElem? hx) List.not_mem_nil
/-- the reference, cleared -/
def RI1 (tx : Nat → Int32) (m : Nat → Int32) (a : Nat → Nat → Int32) : Prop := ((m r_nodes = 0 ∧ m r_variables = 0) ∧ m r_thereAtEnd = 0) ∧ (m r_piled = 0 ∧ m r_faultPlace = -1 ∧ m r_collected = 0) ∧ (edK a ∧ vOK a) ∧ (∀ i, (a r_row i).toInt8.toInt32 = a r_row i) ∧ r_tx a = tx
theorem r_init1 (d : Nat) {m : Nat → Int32} {a : Nat → Nat → Int32} {tx : Nat → Int32} (h1 : m r_piled = 0 ∧ m r_faultPlace = -1 ∧ m r_collected = 0) (h2 : edK a ∧ vOK a) (h3 : ∀ i, (a r_row i).toInt8.toInt32 = a r_row i) (h4 : r_tx a = tx) : pv_call rq_mt (d + 1) rq_m_R_clear [.ref 0] (rs m a) (fun o S => o = none ∧ ∃ m' a', S = rs m' a' ∧ RI1 tx m' a') := by
  have ax : ∀ j, ¬ j = 23 → upa a r_named (nmZ (a r_named) 26) j = a j := fun j hj => upa_ne _ _ hj
  refine rc_clear d m a _ ⟨rfl, _, _, rfl, ⟨⟨rfl, rfl⟩, rfl⟩, h1, ⟨?_, ?_⟩, fun i => ?_, ?_⟩
  · unfold edK
    rw [ax r_ended (by decide)]
    exact h2.1
  · unfold vOK
    rw [ax r_scope (by decide), ax r_nameOf (by decide)]
    exact h2.2
  · rw [ax r_row (by decide)]; exact h3 i
  · unfold r_tx
    rw [ax r_row (by decide)]
    exact h4
/-- the reference, its graph built -/
def RI2 (tx : Nat → Int32) (S : pv_S) : Prop := ∃ m0 a0 b Wf on E m a, S = rs m a ∧ BO m0 a0 0 .nil b Wf on E m a ∧ RI1 tx m0 a0
theorem r_init2 (d : Nat) {m : Nat → Int32} {a : Nat → Nat → Int32} {tx : Nat → Int32} (h : RI1 tx m a) : pv_call rq_mt (d + 6) rq_m_R_build [.ref 0] (rs m a) (fun o S => o = none ∧ RI2 tx S) :=
  rc_build_ok d TT_nil h.1.1.1 unil _ (fun b Wf on E m' a' hB => ⟨rfl, m, a, b, Wf, on, E, m', a', rfl, hB, h⟩)
theorem r_init3 (d : Nat) {S : pv_S} {tx : Nat → Int32} (h : RI2 tx S) : pv_call rq_mt (d + 4) rq_m_R_solve [.ref 0] S (fun o S' => o = none ∧ RStS 0 0 .nil [] (-1) tx S') := by
  obtain ⟨m0, a0, b, Wf, on, E, m, a, rfl, hB, hI⟩ := h
  refine rc_solve_ok d TT_nil hB hI.1.1.1 hI.1.1.2 hI.2.1.1 hI.2.2.1.1 _ (fun m' a' k1 k2 k3 k4 k5 => ?_)
  have g := BSo_R (n := 0) (sc := []) (fp := -1) (m := m0) (a := a0) (m' := m') (a' := a') TT_nil hI.1.1.1 hI.1.1.2 hI.2.2.1.2 hI.2.2.2.1 hI.1.2 hI.2.1.2.1 hI.2.1.2.2 (by omega) ⟨k1, k2, ⟨k3, k4⟩, k5⟩
  exact ⟨rfl, m', a', rfl, g.1, g.2.trans hI.2.2.2.2⟩
