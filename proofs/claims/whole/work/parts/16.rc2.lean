theorem skp_le (f : Nat → Int32) : ∀ k p, p ≤ skp f k p ∧ skp f k p ≤ p + k := by
  intro k
  induction k with
  | zero => intro p; exact ⟨Nat.le_refl _, Nat.le_refl _⟩
  | succ k ih =>
    intro p
    unfold skp
    split
    · have := ih (p + 1); omega
    · omega
theorem upd_same {m : Nat → Int32} {k : Nat} {x : Int32} (h : m k = x) : upd m k x = m := by
  funext j
  unfold upd
  split
  · next e => rw [e, h]
  · rfl
theorem upd_upd (m : Nat → Int32) (k : Nat) (x y : Int32) : upd (upd m k x) k y = upd m k y := by
  funext j
  unfold upd
  split <;> rfl
theorem rc_pass_loop (d : Nat) (a : Nat → Nat → Int32) (n : Nat) (hn : n ≤ 240) (P : pv_R) : ∀ (k p : Nat) (m : Nat → Int32), p + k = n → m r_at = nI p → m r_size = nI n → P none (rs (upd m r_at (nI (skp (a r_row) k p))) a) → pv_go rq_T4 3 (pv_call rq_mt d) P (0, [(0, .ref 0)], [], rs m a) := by
  intro k
  induction k with
  | zero =>
    intro p m hp hat hsz h
    refine pv_run [0] 50 ?_
    have e : p = n := by omega
    refine And.intro (fun c1 => ?_) (fun c1 => ?_)
    · rw [show upd m r_at (nI (skp (a r_row) 0 p)) = m from upd_same hat] at h
      exact h
    · exfalso
      have c1 : ¬ m 27 ≤ m 26 := c1
      rw [show m 26 = nI p from hat, show m 27 = nI n from hsz, e] at c1
      exact c1 (Int32.le_refl _)
  | succ k ih =>
    intro p m hp hat hsz h
    refine pv_run [0] 50 ?_
    have hlt : p < n := by omega
    refine And.intro (fun c1 => ?_) (fun c1 => ?_)
    · exfalso
      have c1 : m 27 ≤ m 26 := c1
      rw [show m 26 = nI p from hat, show m 27 = nI n from hsz] at c1
      exact nI_ge hlt (by omega) c1
    · have hi : vp_in (m 26) 240 := by rw [show m 26 = nI p from hat]; exact vp_in_nI (by omega) (by decide)
      have hv : (a 0) (m 26).toNatClampNeg = a r_row p := by rw [show m 26 = nI p from hat, nI_clamp (by omega)]
      have hnext : (a r_row p = 32 ∨ a r_row p = 10) → pv_go rq_T4 3 (pv_call rq_mt d) P (0, [(0, .ref 0)], [], rs (upd m r_at (m 26 + 1)) a) := by
        intro hb
        refine ih (p + 1) (upd m r_at (m 26 + 1)) (by omega) ?_ hsz ?_
        · show m 26 + 1 = nI (p + 1)
          rw [show m 26 = nI p from hat, nI_1]
        · rw [upd_upd]
          unfold skp at h
          rw [if_pos hb] at h
          exact h
      refine And.intro hi ?_
      refine And.intro (fun c2 => ?_) (fun c2 => ?_)
      · exact hnext (Or.inl (hv.symm.trans c2))
      · refine And.intro hi ?_
        refine And.intro (fun c3 => ?_) (fun c3 => ?_)
        · exact hnext (Or.inr (hv.symm.trans c3))
        · unfold skp at h
          rw [if_neg (fun q => q.elim (fun q => c2 (hv.trans q)) (fun q => c3 (hv.trans q))), show upd m r_at (nI p) = m from upd_same hat] at h
          exact h
