theorem upd_comm (m : Nat → Int32) {i j : Nat} (x y : Int32) (h : i ≠ j) : upd (upd m i x) j y = upd (upd m j y) i x := by
  funext k
  unfold upd
  by_cases h1 : k = j
  · rw [if_pos h1]
    by_cases h2 : k = i
    · exact absurd (h2.symm.trans h1) h
    · rw [if_neg h2, if_pos h1]
  · rw [if_neg h1]
    by_cases h2 : k = i
    · rw [if_pos h2, if_pos h2]
    · rw [if_neg h2, if_neg h2, if_neg h1]
/-- the variables of the first k scopes, as bits -/
def thr (f : Nat → Int32) : Nat → Int32
  | 0 => 0
  | k + 1 => thr f k ||| (1 <<< (f k &&& 31))
theorem rc_thereNow_loop (d : Nat) (m : Nat → Int32) (a : Nat → Nat → Int32) {n : Nat} (hn : n ≤ 12) (hsc : m r_scopes = nI n) (P : pv_R) (h : P (some (.int (thr (a r_scope) n))) (rs m a)) : ∀ (k i : Nat), i + k = n → pv_go rq_T12 0 (pv_call rq_mt d) P (4, [(0, .ref 0), (1, .int (thr (a r_scope) i)), (2, .int (nI i))], [], rs m a) := by
  have e : m 25 = nI n := hsc
  intro k
  induction k with
  | zero =>
    intro i hi
    refine pv_run [4] 50 ?_
    have ei : i = n := by omega
    subst ei
    refine And.intro (fun c1 => ?_) (fun c1 => ?_)
    · exact h
    · exfalso
      have c1 : ¬ m 25 ≤ nI i := c1
      rw [e] at c1
      exact c1 (Int32.le_refl _)
  | succ k ih =>
    intro i hi
    refine pv_run [4] 50 ?_
    refine And.intro (fun c1 => ?_) (fun c1 => ?_)
    · exfalso
      have c1 : m 25 ≤ nI i := c1
      rw [e, nI_leI (by omega) (by omega)] at c1
      omega
    · have hv : vp_in (nI i) 12 := vp_in_nI (by omega) (by decide)
      have hc : (nI i).toNatClampNeg = i := nI_clamp (by omega)
      refine And.intro hv ?_
      have g := ih (i + 1) (by omega)
      have e1 : thr (a r_scope) (i + 1) = thr (a 24) i ||| (1 <<< (a 24 (nI i).toNatClampNeg &&& 31)) := by rw [hc]; rfl
      rw [e1, ← nI_1] at g
      exact g
theorem rc_thereNow (d : Nat) (m : Nat → Int32) (a : Nat → Nat → Int32) {n : Nat} (hn : n ≤ 12) (hsc : m r_scopes = nI n) (P : pv_R) (h : P (some (.int (thr (a r_scope) n))) (rs m a)) : pv_call rq_mt (d + 1) rq_m_R_thereNow [.ref 0] (rs m a) P := by
  refine pv_call_of rfl rfl rfl (pv_run [4] 50 ?_)
  exact rc_thereNow_loop d m a hn hsc P h n 0 (by omega)
/-- the rows behind a new node b -/
def r_nodeA (a : Nat → Nat → Int32) (b : Nat) (s f st th : Int32) : Nat → Nat → Int32 :=
  up2 (up2 (up2 (up2 (up2 (up2 (up2 (up2 (up2 (up2 (up2 (up2 (up2 (up2 (up2 a r_sort b s) r_first b f) r_around b (-1)) r_part b 0) r_variable b (-1)) r_isStmt b st) r_thereBefore b th) r_thereAfter b th) r_label b (-1)) r_target b (-1)) r_isMarked b 0) r_hasOther b 0) r_hasCatch b 0) r_hasEnd b 0) r_hasElse b 0
theorem rc_node (d : Nat) (m : Nat → Int32) (a : Nat → Nat → Int32) {n b : Nat} (hn : n ≤ 12) (hsc : m r_scopes = nI n) (hb : b < 260) (hnd : m r_nodes = nI b) (s f st : Int32) (hst : st = 0 ∨ st = 1) (P : pv_R) (h : P (some (.int (nI b))) (rs (upd m r_nodes (nI (b + 1))) (r_nodeA a b s f st (thr (a r_scope) n)))) : pv_call rq_mt (d + 2) rq_m_R_node [.ref 0, .int s, .int f, .int st] (rs m a) P := by
  refine pv_call_of rfl rfl rfl (pv_run [] 120 ?_)
  have e : m 2 = nI b := hnd
  have hi : vp_in (m 2) 260 := by rw [e]; exact vp_in_nI hb (by decide)
  have hc : (m 2).toNatClampNeg = b := by rw [e, nI_clamp (by omega)]
  refine And.intro hi ?_
  refine And.intro hi ?_
  refine And.intro hi ?_
  refine And.intro hi ?_
  refine And.intro hi ?_
  refine And.intro (And.intro hi hst) ?_
  rw [← nI_1, ← e, ← hc] at h
  refine rc_thereNow d (upd m 2 (m 2 + 1)) (up2 (up2 (up2 (up2 (up2 (up2 a r_sort (m 2).toNatClampNeg s) r_first (m 2).toNatClampNeg f) r_around (m 2).toNatClampNeg (-1)) r_part (m 2).toNatClampNeg 0) r_variable (m 2).toNatClampNeg (-1)) r_isStmt (m 2).toNatClampNeg st) hn hsc _ ?_
  refine And.intro hi (And.intro hi (And.intro hi (And.intro hi (And.intro hi ?_))))
  refine And.intro (And.intro hi (Or.inl rfl)) (And.intro (And.intro hi (Or.inl rfl)) (And.intro (And.intro hi (Or.inl rfl)) (And.intro (And.intro hi (Or.inl rfl)) (And.intro (And.intro hi (Or.inl rfl)) ?_))))
  have ev : upd (a 9) (m 2).toNatClampNeg (thr (a 24) n) (m 2).toNatClampNeg = thr (a 24) n := by simp [upd]
  have h2 : P (some (.int (m 2))) (rs (upd m r_nodes (m 2 + 1)) (up2 (up2 (up2 (up2 (up2 (up2 (up2 (up2 (up2 (up2 (up2 (up2 (up2 (up2 (up2 a r_sort (m 2).toNatClampNeg s) r_first (m 2).toNatClampNeg f) r_around (m 2).toNatClampNeg (-1)) r_part (m 2).toNatClampNeg 0) r_variable (m 2).toNatClampNeg (-1)) r_isStmt (m 2).toNatClampNeg st) r_thereBefore (m 2).toNatClampNeg (thr (a 24) n)) r_thereAfter (m 2).toNatClampNeg (upd (a 9) (m 2).toNatClampNeg (thr (a 24) n) (m 2).toNatClampNeg)) r_label (m 2).toNatClampNeg (-1)) r_target (m 2).toNatClampNeg (-1)) r_isMarked (m 2).toNatClampNeg 0) r_hasOther (m 2).toNatClampNeg 0) r_hasCatch (m 2).toNatClampNeg 0) r_hasEnd (m 2).toNatClampNeg 0) r_hasElse (m 2).toNatClampNeg 0)) := by
    rw [ev]; exact h
  exact h2
