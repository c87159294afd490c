/-! collect of the reference -/
section RQ5
variable {m : Nat → Int32} {a : Nat → Nat → Int32}
abbrev sar (x : Int64) (y : Int32) : Int64 := x >>> (y.toInt64 &&& 63)
abbrev byV (v : Int64) (i : Nat) : Int32 := (sar v (8 * nI i)).toInt32.toInt8.toInt32.toInt8.toInt32
def roR (v : Int64) (s : Nat) : Nat → (Nat → Int32) → Nat → Int32
  | 0, f => f
  | j + 1, f => upd (roR v s j f) (s + j) (byV v j)
set_option maxRecDepth 100000 in
theorem co_31 (d : Nat) {s k : Nat} (hk : k ≤ 8) (hsk : s + k ≤ 240) (hs : m r_collected = nI s) (v : Int64) (P : pv_R) (h : P (some (.int (nI (s + k)))) (rs (upd m r_collected (nI (s + k))) (upa a r_row (roR v s k (a r_row))))) : ∀ (j i : Nat), i + j = k → pv_go rq_T1 0 (pv_call rq_mt d) P (31, [(0, .ref 0), (1, .long v), (3, .int (nI k)), (4, .int (nI i))], [], rs m (upa a r_row (roR v s i (a r_row)))) := by
  intro j
  induction j with
  | zero =>
    intro i hi
    have e : i = k := by omega
    subst e
    have e2 : m r_collected + nI i = nI (s + i) := by rw [hs, nI_add]
    have h : P (some (.int (m r_collected + nI i))) (rs (upd m r_collected (m r_collected + nI i)) (upa a r_row (roR v s i (a r_row)))) := by rw [e2]; exact h
    refine pv_run [] 40 ?_
    exact And.intro (fun _ => h) (fun q => absurd (Int32.le_refl _) q)
  | succ j ih =>
    intro i hi
    have nle : ¬ nI k ≤ nI i := by rw [nI_leI (by omega) (by omega)]; omega
    have e2 : m r_collected + nI i = nI (s + i) := by rw [hs, nI_add]
    have i1 : vp_in (m r_collected + nI i) 240 := by rw [e2]; exact vp_in_nI (by omega) (by decide)
    have c1 : (m r_collected + nI i).toNatClampNeg = s + i := by rw [e2]; exact nI_clamp (by omega)
    have g := ih (i + 1) (by omega)
    have er : up2 (upa a r_row (roR v s i (a r_row))) r_row (s + i) (byV v i) = upa a r_row (roR v s (i + 1) (a r_row)) := upa_up _ _ _ _ _
    refine pv_run [31] 40 ?_
    refine And.intro (fun q => absurd q nle) (fun _ => ?_)
    refine And.intro i1 ?_
    show pv_go rq_T1 0 (pv_call rq_mt d) P (31, [(0, .ref 0), (1, .long v), (3, .int (nI k)), (4, .int (nI i + 1))], [], rs m (up2 (upa a r_row (roR v s i (a r_row))) r_row (m r_collected + nI i).toNatClampNeg (byV v i)))
    rw [c1, er, nI_1]
    exact g
set_option maxRecDepth 100000 in
theorem rc_collect (d : Nat) {s : Nat} (hs2 : s ≤ 240) (hs : m r_collected = nI s) (v : Int64) (x : Int32) (P : pv_R)
    (hb : ¬ (1 ≤ x ∧ x ≤ 8) → P (some (.int (-2))) (rs m a))
    (h1 : ∀ k, x = nI k → (1 ≤ k ∧ k ≤ 8) → (¬ s + k ≤ 240 → P (some (.int (-3))) (rs m a)) ∧ (s + k ≤ 240 → P (some (.int (nI (s + k)))) (rs (upd m r_collected (nI (s + k))) (upa a r_row (roR v s k (a r_row)))))) : pv_call rq_mt (d + 2) rq_m_R_collect [.ref 0, .long v, .int x] (rs m a) P := by
  refine pv_call_of rfl rfl rfl (pv_run [31] 60 ?_)
  refine rc_isIn d (rs m a) x 1 8 _ ?_
  by_cases c : 1 ≤ x ∧ x ≤ 8
  · rw [if_pos c]
    refine And.intro (fun u => absurd u (by decide)) (fun _ => ?_)
    obtain ⟨k, hk, rfl⟩ := nI_of (show ¬ x < 0 from fun e => absurd (Int32.lt_of_lt_of_le e (Int32.le_trans (by decide) c.1)) (Int32.lt_irrefl))
    have k1 : 1 ≤ k := by
      have := c.1
      rw [show (1 : Int32) = nI 1 from rfl, nI_leI (by omega) hk] at this
      exact this
    have k8 : k ≤ 8 := by
      have := c.2
      rw [show (8 : Int32) = nI 8 from rfl, nI_leI hk (by omega)] at this
      exact this
    have h := h1 k rfl ⟨k1, k8⟩
    have e2 : m 1 + nI k = nI (s + k) := by rw [show m 1 = nI s from hs, nI_add]
    refine And.intro (fun q => ?_) (fun q => ?_)
    · have q : m 1 + nI k ≤ 240 := q
      rw [e2, show (240 : Int32) = nI 240 from rfl, nI_leI (by omega) (by omega)] at q
      have g := co_31 (m := m) (a := a) (d + 1) k8 (by omega) hs v P (h.2 (by omega)) k 0 (by omega)
      have e0 : upa a r_row (roR v s 0 (a r_row)) = a := upa_same _ _
      rw [e0] at g
      exact g
    · have q : ¬ m 1 + nI k ≤ 240 := q
      rw [e2, show (240 : Int32) = nI 240 from rfl, nI_leI (by omega) (by omega)] at q
      exact h.1 (by omega)
  · rw [if_neg c]
    refine And.intro (fun _ => ?_) (fun u => absurd rfl u)
    exact hb c
end RQ5
