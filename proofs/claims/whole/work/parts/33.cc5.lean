abbrev stI (c : Int32) : Prop := c = 36 ∨ c = 37 ∨ c = 58 ∨ c = 59 ∨ c = 66 ∨ c = 67 ∨ c = 68 ∨ c = 70 ∨ c = 73 ∨ c = 82 ∨ c = 83 ∨ c = 84 ∨ c = 87 ∨ c = 88 ∨ c = 123
set_option maxRecDepth 100000 in
theorem cc_isStatement (d : Nat) (S : pv_S) (c : Int32) (P : pv_R) (h : P (some (.int (if stI c then 1 else 0))) S) : pv_call cq_mt (d + 1) cq_m_A_isStatement [.int c] S P := by
  have y : stI c → pv_go cq_T12 1 (pv_call cq_mt d) P (132, [(0, .int c)], [], S) := by
    intro hq
    rw [if_pos hq] at h
    refine pv_run [] 20 ?_
    exact And.intro (Or.inr rfl) h
  refine pv_call_of rfl rfl rfl (pv_run [132, 134] 20 ?_)
  refine And.intro (fun q0 => y (Or.inl (q0))) (fun q0 => ?_)
  refine And.intro (fun q1 => y (Or.inr (Or.inl (q1)))) (fun q1 => ?_)
  refine And.intro (fun q2 => y (Or.inr (Or.inr (Or.inl (q2))))) (fun q2 => ?_)
  refine And.intro (fun q3 => y (Or.inr (Or.inr (Or.inr (Or.inl (q3)))))) (fun q3 => ?_)
  refine And.intro (fun q4 => y (Or.inr (Or.inr (Or.inr (Or.inr (Or.inl (q4))))))) (fun q4 => ?_)
  refine And.intro (fun q5 => y (Or.inr (Or.inr (Or.inr (Or.inr (Or.inr (Or.inl (q5)))))))) (fun q5 => ?_)
  refine And.intro (fun q6 => y (Or.inr (Or.inr (Or.inr (Or.inr (Or.inr (Or.inr (Or.inl (q6))))))))) (fun q6 => ?_)
  refine And.intro (fun q7 => y (Or.inr (Or.inr (Or.inr (Or.inr (Or.inr (Or.inr (Or.inr (Or.inl (q7)))))))))) (fun q7 => ?_)
  refine And.intro (fun q8 => y (Or.inr (Or.inr (Or.inr (Or.inr (Or.inr (Or.inr (Or.inr (Or.inr (Or.inl (q8))))))))))) (fun q8 => ?_)
  refine And.intro (fun q9 => y (Or.inr (Or.inr (Or.inr (Or.inr (Or.inr (Or.inr (Or.inr (Or.inr (Or.inr (Or.inl (q9)))))))))))) (fun q9 => ?_)
  refine And.intro (fun q10 => y (Or.inr (Or.inr (Or.inr (Or.inr (Or.inr (Or.inr (Or.inr (Or.inr (Or.inr (Or.inr (Or.inl (q10))))))))))))) (fun q10 => ?_)
  refine And.intro (fun q11 => y (Or.inr (Or.inr (Or.inr (Or.inr (Or.inr (Or.inr (Or.inr (Or.inr (Or.inr (Or.inr (Or.inr (Or.inl (q11)))))))))))))) (fun q11 => ?_)
  refine And.intro (fun q12 => y (Or.inr (Or.inr (Or.inr (Or.inr (Or.inr (Or.inr (Or.inr (Or.inr (Or.inr (Or.inr (Or.inr (Or.inr (Or.inl (q12))))))))))))))) (fun q12 => ?_)
  refine And.intro (fun q13 => y (Or.inr (Or.inr (Or.inr (Or.inr (Or.inr (Or.inr (Or.inr (Or.inr (Or.inr (Or.inr (Or.inr (Or.inr (Or.inr (Or.inl (q13)))))))))))))))) (fun q13 => ?_)
  refine And.intro (fun q14 => y (Or.inr (Or.inr (Or.inr (Or.inr (Or.inr (Or.inr (Or.inr (Or.inr (Or.inr (Or.inr (Or.inr (Or.inr (Or.inr (Or.inr (q14)))))))))))))))) (fun q14 => ?_)
  show pv_go cq_T12 1 (pv_call cq_mt d) P (134, [(0, .int c)], [], S)
  rw [if_neg (fun r => r.elim q0 (fun r => r.elim q1 (fun r => r.elim q2 (fun r => r.elim q3 (fun r => r.elim q4 (fun r => r.elim q5 (fun r => r.elim q6 (fun r => r.elim q7 (fun r => r.elim q8 (fun r => r.elim q9 (fun r => r.elim q10 (fun r => r.elim q11 (fun r => r.elim q12 (fun r => r.elim q13 q14))))))))))))))] at h
  refine pv_run [] 20 ?_
  exact And.intro (Or.inl rfl) h
section CG
variable {l : Nat → Nat → Int64} {w : Int64}
/-- the innermost of the first k stmts around that bears the label c -/
def dlb (a : Nat → Nat → Int32) (c : Int32) : Nat → Int32
  | 0 => -1
  | k + 1 => if a c_R_labelAround k = c then nI k else dlb a c k
theorem min20 {k : Nat} (hk : k ≤ 20) : (if (20 : Int32) < nI k then 20 else nI k) = nI k := by
  rw [if_neg]
  intro q
  rw [show (20 : Int32) = nI 20 from rfl, nI_ltI (by omega) (by omega)] at q
  omega
set_option maxRecDepth 100000 in
theorem cc_dlb_loop (d : Nat) (m : Nat → Int32) (a : Nat → Nat → Int32) (c x : Int32) (P : pv_R) : ∀ k : Nat, k ≤ 20 → P (some (.int (dlb a c k))) (cs m a l w) → pv_go cq_T51 0 (pv_call cq_mt d) P (9, [(0, .ref 3), (1, .int c), (2, .int x), (3, .int (nI k - 1))], [], cs m a l w) := by
  intro k
  induction k with
  | zero =>
    intro _ h
    refine pv_run [9] 40 ?_
    refine And.intro (fun _ => h) (fun q => absurd (show nI 0 - 1 < 0 by decide) q)
  | succ k ih =>
    intro hk h
    rw [nI_pred k]
    have hi : vp_in (nI k) 20 := vp_in_nI (by omega) (by decide)
    have hc : (nI k).toNatClampNeg = k := nI_clamp (by omega)
    unfold dlb at h
    refine pv_run [9] 40 ?_
    refine And.intro (fun q => absurd q (nI_pos (by omega))) (fun _ => ?_)
    refine And.intro hi ?_
    refine And.intro (fun q => ?_) (fun q => ?_)
    · have q : a 18 (nI k).toNatClampNeg = c := q
      rw [hc] at q
      rw [if_pos q] at h
      exact h
    · have q : ¬ a 18 (nI k).toNatClampNeg = c := q
      rw [hc] at q
      rw [if_neg q] at h
      have g := ih (by omega) h
      rw [Int32.sub_eq_add_neg] at g
      exact g
set_option maxRecDepth 100000 in
theorem cc_depthOfLabel (d : Nat) (m : Nat → Int32) (a : Nat → Nat → Int32) {k : Nat} (hk : k ≤ 20) (c : Int32) (P : pv_R) (h : P (some (.int (dlb a c k))) (cs m a l w)) : pv_call cq_mt (d + 2) cq_m_Reader_depthOfLabel [.ref 3, .int c, .int (nI k)] (cs m a l w) P := by
  refine pv_call_of rfl rfl rfl (pv_run [9] 40 ?_)
  show pv_go cq_T51 0 (pv_call cq_mt (d + 1)) P (9, [(0, .ref 3), (1, .int c), (2, .int (nI k)), (3, .int ((if (20 : Int32) < nI k then 20 else nI k) - 1))], [], cs m a l w)
  rw [min20 hk]
  exact cc_dlb_loop (d + 1) m a c (nI k) P k hk h
def nrT (a : Nat → Nat → Int32) (j : Int32) : Nat → Int32
  | 0 => -1
  | k + 1 => if lpI (a c_R_sortAround k) ∨ (j = 66 ∧ a c_R_sortAround k = 83) then a c_R_placeAround k else nrT a j k
set_option maxRecDepth 100000 in
theorem cc_nr_loop (d : Nat) (m : Nat → Int32) (a : Nat → Nat → Int32) (j x : Int32) (P : pv_R) : ∀ k : Nat, k ≤ 20 → P (some (.int (nrT a j k))) (cs m a l w) → pv_go cq_T49 0 (pv_call cq_mt (d + 1)) P (9, [(0, .ref 3), (1, .int j), (2, .int x), (3, .int (nI k - 1))], [], cs m a l w) := by
  intro k
  induction k with
  | zero =>
    intro _ h
    refine pv_run [9] 40 ?_
    refine And.intro (fun _ => h) (fun q => absurd (show nI 0 - 1 < 0 by decide) q)
  | succ k ih =>
    intro hk h
    rw [nI_pred k]
    have hi : vp_in (nI k) 20 := vp_in_nI (by omega) (by decide)
    have hc : (nI k).toNatClampNeg = k := nI_clamp (by omega)
    have h : P (some (.int (if lpI (a c_R_sortAround k) ∨ (j = 66 ∧ a c_R_sortAround k = 83) then a c_R_placeAround k else nrT a j k))) (cs m a l w) := h
    have y : (lpI (a c_R_sortAround k) ∨ (j = 66 ∧ a c_R_sortAround k = 83)) → pv_go cq_T49 0 (pv_call cq_mt (d + 1)) P (42, [(0, .ref 3), (1, .int j), (2, .int x), (3, .int (nI k))], [], cs m a l w) := by
      intro hq
      rw [if_pos hq] at h
      refine pv_run [] 20 ?_
      refine And.intro hi ?_
      have h2 : P (some (.int (a 16 (nI k).toNatClampNeg))) (cs m a l w) := by rw [hc]; exact h
      exact h2
    have z : ¬ (lpI (a c_R_sortAround k) ∨ (j = 66 ∧ a c_R_sortAround k = 83)) → pv_go cq_T49 0 (pv_call cq_mt (d + 1)) P (49, [(0, .ref 3), (1, .int j), (2, .int x), (3, .int (nI k))], [], cs m a l w) := by
      intro hq
      rw [if_neg hq] at h
      have g := ih (by omega) h
      rw [Int32.sub_eq_add_neg] at g
      refine pv_run [9] 20 ?_
      exact g
    refine pv_run [42, 49] 40 ?_
    refine And.intro (fun q => absurd q (nI_pos (by omega))) (fun _ => ?_)
    refine And.intro hi ?_
    refine cc_isLoop d _ _ _ ?_
    show pv_wp _ _ _ _ _ _ _ (_, _, [.int (if lpI (a 17 (nI k).toNatClampNeg) then 1 else 0)], _)
    rw [hc]
    by_cases q1 : lpI (a 17 k)
    · rw [if_pos q1]
      exact And.intro (fun q => absurd q (by decide)) (fun _ => y (Or.inl q1))
    · rw [if_neg q1]
      refine And.intro (fun _ => ?_) (fun q => absurd rfl q)
      refine And.intro (fun q2 => ?_) (fun q2 => z (fun r => r.elim q1 (fun r => q2 r.1)))
      refine And.intro hi ?_
      refine And.intro (fun q3 => ?_) (fun q3 => ?_)
      · have q3 : a 17 (nI k).toNatClampNeg = 83 := q3
        rw [hc] at q3
        exact y (Or.inr ⟨q2, q3⟩)
      · have q3 : ¬ a 17 (nI k).toNatClampNeg = 83 := q3
        rw [hc] at q3
        exact z (fun r => r.elim q1 (fun r => q3 r.2))
set_option maxRecDepth 100000 in
theorem cc_nearest (d : Nat) (m : Nat → Int32) (a : Nat → Nat → Int32) {k : Nat} (hk : k ≤ 20) (j : Int32) (P : pv_R) (h : P (some (.int (nrT a j k))) (cs m a l w)) : pv_call cq_mt (d + 2) cq_m_Reader_nearestTarget [.ref 3, .int j, .int (nI k)] (cs m a l w) P := by
  refine pv_call_of rfl rfl rfl (pv_run [9] 40 ?_)
  show pv_go cq_T49 0 (pv_call cq_mt (d + 1)) P (9, [(0, .ref 3), (1, .int j), (2, .int (nI k)), (3, .int ((if (20 : Int32) < nI k then 20 else nI k) - 1))], [], cs m a l w)
  rw [min20 hk]
  exact cc_nr_loop d m a j (nI k) P k hk h
set_option maxRecDepth 100000 in
theorem cc_lab_no (d : Nat) (m : Nat → Int32) (a : Nat → Nat → Int32) {k : Nat} (hk : k ≤ 20) (c j : Int32) (hd : dlb a c k = -1) (P : pv_R) (h : P (some (.int (-1))) (cs m a l w)) : pv_call cq_mt (d + 3) cq_m_Reader_labelledTarget [.ref 3, .int c, .int j, .int (nI k)] (cs m a l w) P := by
  refine pv_call_of rfl rfl rfl (pv_run [] 40 ?_)
  refine cc_depthOfLabel d m a hk c _ ?_
  rw [hd]
  refine And.intro (fun _ => ?_) (fun q => absurd rfl q)
  refine And.intro (fun _ => ?_) (fun q => absurd rfl q)
  exact h
set_option maxRecDepth 100000 in
theorem cc_lab_B (d : Nat) (m : Nat → Int32) (a : Nat → Nat → Int32) {k i : Nat} (hk : k ≤ 20) (hi : i < 20) (c : Int32) (hd : dlb a c k = nI i) (P : pv_R) (h : P (some (.int (a c_R_placeAround i))) (cs m a l w)) : pv_call cq_mt (d + 3) cq_m_Reader_labelledTarget [.ref 3, .int c, .int 66, .int (nI k)] (cs m a l w) P := by
  have ii : vp_in (nI i) 20 := vp_in_nI hi (by decide)
  have ci : (nI i).toNatClampNeg = i := nI_clamp (by omega)
  have ni : ¬ nI i = -1 := nI_m1 (by omega)
  refine pv_call_of rfl rfl rfl (pv_run [20] 40 ?_)
  refine cc_depthOfLabel d m a hk c _ ?_
  rw [hd]
  refine And.intro (fun q => absurd q ni) (fun _ => ?_)
  refine And.intro (fun _ => ?_) (fun q => absurd rfl q)
  show pv_go cq_T50 0 (pv_call cq_mt (d + 2)) P (20, [(0, .ref 3), (1, .int c), (2, .int 66), (3, .int (nI k)), (4, .int (nI i))], [], cs m a l w)
  refine pv_run [] 40 ?_
  refine And.intro (fun q => absurd q ni) (fun _ => ?_)
  refine And.intro ii ?_
  have h2 : P (some (.int (a 16 (nI i).toNatClampNeg))) (cs m a l w) := by rw [ci]; exact h
  exact h2
set_option maxRecDepth 100000 in
theorem cc_lab_C (d : Nat) (m : Nat → Int32) (a : Nat → Nat → Int32) {k i : Nat} (hk : k ≤ 20) (hi : i < 20) (c j : Int32) (hj : ¬ j = 66) (hd : dlb a c k = nI i) (P : pv_R) (h1 : i + 1 < 20 → lpI (a c_R_sortAround (i + 1)) → P (some (.int (a c_R_placeAround (i + 1)))) (cs m a l w)) (h0 : ¬ (i + 1 < 20 ∧ lpI (a c_R_sortAround (i + 1))) → P (some (.int (-1))) (cs m a l w)) : pv_call cq_mt (d + 3) cq_m_Reader_labelledTarget [.ref 3, .int c, .int j, .int (nI k)] (cs m a l w) P := by
  have ni : ¬ nI i = -1 := nI_m1 (by omega)
  have g : pv_go cq_T50 0 (pv_call cq_mt (d + 2)) P (44, [(0, .ref 3), (1, .int c), (2, .int j), (3, .int (nI k)), (4, .int (nI i)), (5, .int (nI (i + 1)))], [], cs m a l w) := by
    have no : ¬ (i + 1 < 20 ∧ lpI (a c_R_sortAround (i + 1))) → pv_go cq_T50 0 (pv_call cq_mt (d + 2)) P (74, [(0, .ref 3), (1, .int c), (2, .int j), (3, .int (nI k)), (4, .int (nI i)), (5, .int (nI (i + 1)))], [], cs m a l w) := by
      intro hq
      refine pv_run [] 20 ?_
      exact h0 hq
    refine pv_run [74] 40 ?_
    refine And.intro (fun q => ?_) (fun q => ?_)
    · have q : (20 : Int32) ≤ nI (i + 1) := q
      rw [show (20 : Int32) = nI 20 from rfl, nI_leI (by omega) (by omega)] at q
      exact no (by omega)
    · have q : ¬ (20 : Int32) ≤ nI (i + 1) := q
      rw [show (20 : Int32) = nI 20 from rfl, nI_leI (by omega) (by omega)] at q
      have ii : vp_in (nI (i + 1)) 20 := vp_in_nI (by omega) (by decide)
      have ci : (nI (i + 1)).toNatClampNeg = i + 1 := nI_clamp (by omega)
      refine And.intro ii ?_
      refine cc_isLoop (d + 1) _ _ _ ?_
      show pv_wp _ _ _ _ _ _ _ (_, _, [.int (if lpI (a 17 (nI (i + 1)).toNatClampNeg) then 1 else 0)], _)
      rw [ci]
      by_cases q1 : lpI (a 17 (i + 1))
      · rw [if_pos q1]
        refine And.intro (fun q => absurd q (by decide)) (fun _ => ?_)
        refine And.intro ii ?_
        have h2 : P (some (.int (a 16 (nI (i + 1)).toNatClampNeg))) (cs m a l w) := by rw [ci]; exact h1 (by omega) q1
        exact h2
      · rw [if_neg q1]
        exact And.intro (fun _ => no (fun r => q1 r.2)) (fun q => absurd rfl q)
  refine pv_call_of rfl rfl rfl (pv_run [44] 40 ?_)
  refine cc_depthOfLabel d m a hk c _ ?_
  rw [hd]
  refine And.intro (fun q => absurd q ni) (fun _ => ?_)
  refine And.intro (fun q => absurd q hj) (fun _ => ?_)
  show pv_go cq_T50 0 (pv_call cq_mt (d + 2)) P (44, [(0, .ref 3), (1, .int c), (2, .int j), (3, .int (nI k)), (4, .int (nI i)), (5, .int (nI i + 1))], [], cs m a l w)
  rw [nI_1]
  exact g
set_option maxRecDepth 100000 in
theorem cc_isRefused (d : Nat) (m : Nat → Int32) (a : Nat → Nat → Int32) {k V : Nat} (hk : k ≤ 20) (hV : V ≤ 12) (hvs : m c_V_size = nI V) (c : Int32) (P : pv_R) (h : P (some (.int (if ((c = 36 ∨ c = 37) ∧ V = 12) ∨ ((50 ≤ c ∧ c ≤ 57) ∧ ¬ dlb a c k = -1) then 1 else 0))) (cs m a l w)) : pv_call cq_mt (d + 3) cq_m_Reader_isRefused [.ref 3, .int c, .int (nI k)] (cs m a l w) P := by
  have full : (c = 36 ∨ c = 37) → pv_go cq_T37 1 (pv_call cq_mt (d + 2)) P (12, [(0, .ref 3), (1, .int c), (2, .int (nI k))], [], cs m a l w) := by
    intro hc
    have nl : ¬ (50 ≤ c ∧ c ≤ 57) := by rcases hc with rfl | rfl <;> decide
    refine pv_run [] 40 ?_
    refine cc_isFull (d + 1) m a (V := V) (by omega) hvs _ ?_
    by_cases hv : V = 12
    · rw [if_pos (Or.inl ⟨hc, hv⟩)] at h
      rw [if_pos (by omega)]
      exact And.intro (Or.inr rfl) h
    · rw [if_neg (fun r => r.elim (fun r => hv r.2) (fun r => nl r.1))] at h
      rw [if_neg (by omega)]
      exact And.intro (Or.inl rfl) h
  refine pv_call_of rfl rfl rfl (pv_run [12] 40 ?_)
  refine And.intro (fun q => full (Or.inl q)) (fun q1 => ?_)
  refine And.intro (fun q => full (Or.inr q)) (fun q2 => ?_)
  have n36 : ¬ (c = 36 ∨ c = 37) := fun r => r.elim q1 q2
  refine cc_isLabel (d + 1) _ c _ ?_
  by_cases hl : 50 ≤ c ∧ c ≤ 57
  · rw [if_pos hl]
    refine And.intro (fun q => absurd q (by decide)) (fun _ => ?_)
    refine cc_depthOfLabel d m a hk c _ ?_
    refine And.intro (fun q => ?_) (fun q => ?_)
    · rw [if_neg (fun r => r.elim (fun r => n36 r.1) (fun r => r.2 q))] at h
      exact And.intro (Or.inl rfl) h
    · rw [if_pos (Or.inr ⟨hl, q⟩)] at h
      exact And.intro (Or.inr rfl) h
  · rw [if_neg hl]
    refine And.intro (fun _ => ?_) (fun q => absurd rfl q)
    rw [if_neg (fun r => r.elim (fun r => n36 r.1) (fun r => hl r.1))] at h
    exact And.intro (Or.inl rfl) h
set_option maxRecDepth 100000 in
theorem cc_sort (d : Nat) (S : pv_S) (c : Int32) (P : pv_R) (h : P (some (.int (if 50 ≤ c ∧ c ≤ 57 then 58 else if stI c ∧ ¬ c = 58 then c else 59))) S) : pv_call cq_mt (d + 2) cq_m_Reader_statementSort [.int c] S P := by
  refine pv_call_of rfl rfl rfl (pv_run [] 40 ?_)
  refine cc_isLabel d _ c _ ?_
  by_cases hl : 50 ≤ c ∧ c ≤ 57
  · rw [if_pos hl] at h ⊢
    exact And.intro (fun q => absurd q (by decide)) (fun _ => h)
  · rw [if_neg hl] at h ⊢
    refine And.intro (fun _ => ?_) (fun q => absurd rfl q)
    refine cc_isStatement d _ c _ ?_
    by_cases hs : stI c
    · rw [if_pos hs]
      refine And.intro (fun q => absurd q (by decide)) (fun _ => ?_)
      refine And.intro (fun q => ?_) (fun q => ?_)
      · rw [if_neg (fun r => r.2 q)] at h
        exact h
      · rw [if_pos ⟨hs, q⟩] at h
        exact h
    · rw [if_neg hs]
      refine And.intro (fun _ => ?_) (fun q => absurd rfl q)
      rw [if_neg (fun r => hs r.1)] at h
      exact h
/-- the rows behind a VARIABLE that is given -/
def gvC (a : Nat → Nat → Int32) (V : Nat) (c f g : Int32) : Nat → Nat → Int32 := up2 (up2 (up2 (up2 (up2 (up2 a c_V_name V c) c_V_isFinal V f) c_V_giver V g) c_V_couldBeFinal V 1) c_V_uses V 0) c_V_assigns V 0
set_option maxRecDepth 100000 in
theorem cc_give (d : Nat) (m : Nat → Int32) (a : Nat → Nat → Int32) {V : Nat} (hV : V < 12) (hvs : m c_V_size = nI V) (c f g : Int32) (hf : f = 0 ∨ f = 1) (P : pv_R) (h : P (some (.int (nI V))) (cs (upd m c_V_size (nI (V + 1))) (gvC a V c f g) l w)) : pv_call cq_mt (d + 2) cq_m_Variables_give [.ref 1, .int c, .int f, .int g] (cs m a l w) P := by
  have i1 : vp_in (nI V) 12 := vp_in_nI hV (by decide)
  have c1 : (nI V).toNatClampNeg = V := nI_clamp (by omega)
  refine pv_call_of rfl rfl rfl (pv_run [15] 40 ?_)
  refine cc_isFull d m a (V := V) (by omega) hvs _ ?_
  rw [if_neg (by omega)]
  refine And.intro (fun _ => ?_) (fun q => absurd rfl q)
  show pv_go cq_T68 0 (pv_call cq_mt (d + 1)) P (15, [(0, .ref 1), (1, .int c), (2, .int f), (3, .int g), (4, .int (m 10))], [], cs m a l w)
  rw [show m 10 = nI V from hvs]
  refine pv_run [] 60 ?_
  refine And.intro i1 ?_
  refine And.intro (And.intro i1 hf) ?_
  refine And.intro i1 ?_
  refine And.intro (And.intro i1 (Or.inr rfl)) ?_
  refine And.intro i1 ?_
  refine And.intro i1 ?_
  have h2 : P (some (.int (nI V))) (cs (upd m c_V_size (m 10 + 1)) (gvC a (nI V).toNatClampNeg c f g) l w) := by rw [c1, show m 10 = nI V from hvs, nI_1]; exact h
  exact h2
set_option maxRecDepth 100000 in
theorem cc_enter (d : Nat) (m : Nat → Int32) (a : Nat → Nat → Int32) {p b : Nat} (hp : p < b) (hb : b ≤ 241) (hs : m c_P_size = nI b) (x : Int32) (hx : x = 0 ∨ x = 1) (P : pv_R) (h : P none (cs m (up2 a c_P_isEntered p x) l w)) : pv_call cq_mt (d + 2) cq_m_Reader_enter [.ref 3, .int (nI p), .int x] (cs m a l w) P := by
  have i1 : vp_in (nI p) 241 := vp_in_nI (by omega) (by decide)
  have c1 : (nI p).toNatClampNeg = p := nI_clamp (by omega)
  refine pv_call_of rfl rfl rfl (pv_run [] 40 ?_)
  refine cc_has d m a (p := p) (b := b) (by omega) (by omega) hs _ (fun _ => ?_) (fun q => absurd hp q)
  refine And.intro (fun q => absurd q (by decide)) (fun _ => ?_)
  refine And.intro (And.intro i1 hx) ?_
  have h2 : P none (cs m (up2 a c_P_isEntered (nI p).toNatClampNeg x) l w) := by rw [c1]; exact h
  exact h2
set_option maxRecDepth 100000 in
theorem cc_skip (d : Nat) (m : Nat → Int32) (a : Nat → Nat → Int32) {p b : Nat} (hp : p < b) (hb : b ≤ 241) (hs : m c_P_size = nI b) (x : Int32) (hx : x = 0 ∨ x = 1) (P : pv_R) (h : P none (cs m (up2 a c_P_isSkipped p x) l w)) : pv_call cq_mt (d + 2) cq_m_Reader_skip [.ref 3, .int (nI p), .int x] (cs m a l w) P := by
  have i1 : vp_in (nI p) 241 := vp_in_nI (by omega) (by decide)
  have c1 : (nI p).toNatClampNeg = p := nI_clamp (by omega)
  refine pv_call_of rfl rfl rfl (pv_run [] 40 ?_)
  refine cc_has d m a (p := p) (b := b) (by omega) (by omega) hs _ (fun _ => ?_) (fun q => absurd hp q)
  refine And.intro (fun q => absurd q (by decide)) (fun _ => ?_)
  refine And.intro (And.intro i1 hx) ?_
  have h2 : P none (cs m (up2 a c_P_isSkipped (nI p).toNatClampNeg x) l w) := by rw [c1]; exact h
  exact h2
end CG
