def r_nx (a : Nat → Nat → Int32) (n p : Nat) : Nat := skp (a r_row) (n - p) p
def r_ch (a : Nat → Nat → Int32) (n q : Nat) : Int32 := if q < n then a r_row q &&& 255 else -1
theorem skp_end (f : Nat → Int32) : ∀ k p, skp f k p = p + k ∨ ¬ (f (skp f k p) = 32 ∨ f (skp f k p) = 10) := by
  intro k
  induction k with
  | zero => intro p; exact Or.inl rfl
  | succ k ih =>
    intro p
    unfold skp
    split
    · rcases ih (p + 1) with h | h
      · left; omega
      · right; exact h
    · next h => right; exact h
theorem r_nx_le {a : Nat → Nat → Int32} {n p : Nat} (h : p ≤ n) : p ≤ r_nx a n p ∧ r_nx a n p ≤ n := by
  have := skp_le (a r_row) (n - p) p
  unfold r_nx
  omega
theorem r_nx_nx {a : Nat → Nat → Int32} {n p : Nat} (h : p ≤ n) : r_nx a n (r_nx a n p) = r_nx a n p := by
  have h1 := r_nx_le (a := a) h
  rcases skp_end (a r_row) (n - p) p with e | e
  · have e' : r_nx a n p = n := by unfold r_nx; omega
    rw [e']
    unfold r_nx
    rw [Nat.sub_self]; rfl
  · have e : ¬ (a r_row (r_nx a n p) = 32 ∨ a r_row (r_nx a n p) = 10) := e
    generalize r_nx a n p = q at *
    unfold r_nx
    cases n - q with
    | zero => rfl
    | succ k => unfold skp; rw [if_neg e]
theorem rc_pass (d : Nat) (m : Nat → Int32) (a : Nat → Nat → Int32) {n p : Nat} (hn : n ≤ 240) (hp : p ≤ n) (hat : m r_at = nI p) (hsz : m r_size = nI n) (P : pv_R) (h : P none (rs (upd m r_at (nI (r_nx a n p))) a)) : pv_call rq_mt (d + 1) rq_m_R_pass [.ref 0] (rs m a) P :=
  pv_call_of rfl rfl rfl (rc_pass_loop d a n hn P (n - p) p m (by omega) hat hsz h)
theorem rc_here (d : Nat) (m : Nat → Int32) (a : Nat → Nat → Int32) {n p : Nat} (hn : n ≤ 240) (hp : p ≤ n) (hat : m r_at = nI p) (hsz : m r_size = nI n) (P : pv_R) (h : P (some (.int (r_ch a n (r_nx a n p)))) (rs (upd m r_at (nI (r_nx a n p))) a)) : pv_call rq_mt (d + 2) rq_m_R_here [.ref 0] (rs m a) P := by
  obtain ⟨h1, h2⟩ := r_nx_le (a := a) hp
  refine pv_call_of rfl rfl rfl (pv_run [] 50 ?_)
  refine rc_pass d m a hn hp hat hsz _ ?_
  generalize r_nx a n p = q at *
  refine And.intro (fun c1 => ?_) (fun c1 => ?_)
  · have c1 : m 27 ≤ nI q := c1
    rw [show m 27 = nI n from hsz, nI_leI (by omega) (by omega)] at c1
    unfold r_ch at h
    rw [if_neg (by omega)] at h
    exact h
  · have c1 : ¬ m 27 ≤ nI q := c1
    rw [show m 27 = nI n from hsz, nI_leI (by omega) (by omega)] at c1
    have hi : vp_in (nI q) 240 := vp_in_nI (by omega) (by decide)
    refine And.intro hi ?_
    unfold r_ch at h
    rw [if_pos (by omega)] at h
    have hv : (a 0) (nI q).toNatClampNeg = a r_row q := by rw [nI_clamp (by omega)]
    rw [← hv] at h
    exact h
theorem rc_failHere (d : Nat) (m : Nat → Int32) (a : Nat → Nat → Int32) {n p : Nat} (hn : n ≤ 240) (hp : p ≤ n) (hat : m r_at = nI p) (hsz : m r_size = nI n) (P : pv_R) (h : P none (rs (upd (upd m r_at (nI (r_nx a n p))) r_wrong (if m r_wrong = -1 then nI (r_nx a n p) else m r_wrong)) a)) : pv_call rq_mt (d + 2) rq_m_R_failHere [.ref 0] (rs m a) P := by
  refine pv_call_of rfl rfl rfl (pv_run [] 50 ?_)
  refine rc_pass d m a hn hp hat hsz _ ?_
  exact rc_fail d _ a _ _ h
theorem rc_take (d : Nat) (m : Nat → Int32) (a : Nat → Nat → Int32) {n p : Nat} (hn : n ≤ 240) (hp : p ≤ n) (hat : m r_at = nI p) (hsz : m r_size = nI n) (c : Int32) (P : pv_R) (h0 : ¬ m r_wrong = -1 → P none (rs m a)) (h1 : m r_wrong = -1 → r_ch a n (r_nx a n p) = c → P none (rs (upd m r_at (nI (r_nx a n p + 1))) a)) (h2 : m r_wrong = -1 → ¬ r_ch a n (r_nx a n p) = c → P none (rs (upd (upd m r_at (nI (r_nx a n p))) r_wrong (nI (r_nx a n p))) a)) : pv_call rq_mt (d + 3) rq_m_R_take [.ref 0, .int c] (rs m a) P := by
  obtain ⟨l1, l2⟩ := r_nx_le (a := a) hp
  refine pv_call_of rfl rfl rfl (pv_run [] 50 ?_)
  refine rc_isRight (d + 1) m a _ ?_
  by_cases hw : m r_wrong = -1
  · rw [if_pos hw]
    refine And.intro (fun c1 => absurd c1 (by decide)) (fun _ => ?_)
    refine rc_here d m a hn hp hat hsz _ ?_
    refine And.intro (fun c1 => ?_) (fun c1 => ?_)
    · have h1 := h1 hw c1
      rw [← nI_1, ← upd_upd m r_at (nI (r_nx a n p))] at h1
      exact h1
    · have h2 := h2 hw c1
      refine rc_failHere d (upd m r_at (nI (r_nx a n p))) a hn l2 rfl hsz _ ?_
      rw [r_nx_nx hp, upd_upd]
      have e : (upd m r_at (nI (r_nx a n p))) r_wrong = -1 := hw
      rw [if_pos e]
      exact h2
  · rw [if_neg hw]
    refine And.intro (fun _ => ?_) (fun c1 => absurd rfl c1)
    exact h0 hw
theorem rc_isName (d : Nat) (S : pv_S) (c : Int32) (P : pv_R) (h : P (some (.int (if 97 ≤ c ∧ c ≤ 122 then 1 else 0))) S) : pv_call rq_mt (d + 1) rq_m_R_isName [.int c] S P := by
  refine pv_call_of rfl rfl rfl (pv_run [] 50 ?_)
  refine And.intro (fun c1 => ?_) (fun c1 => ?_)
  · refine And.intro (Or.inl rfl) ?_
    rw [if_neg (by intro q; exact absurd c1 (Int32.not_lt.mpr q.1))] at h
    exact h
  · refine And.intro (fun c2 => ?_) (fun c2 => ?_)
    · refine And.intro (Or.inl rfl) ?_
      rw [if_neg (by intro q; exact absurd c2 (Int32.not_lt.mpr q.2))] at h
      exact h
    · refine And.intro (Or.inr rfl) ?_
      rw [if_pos ⟨Int32.not_lt.mp c1, Int32.not_lt.mp c2⟩] at h
      exact h
theorem rc_isLabel (d : Nat) (S : pv_S) (c : Int32) (P : pv_R) (h : P (some (.int (if 50 ≤ c ∧ c ≤ 57 then 1 else 0))) S) : pv_call rq_mt (d + 1) rq_m_R_isLabel [.int c] S P := by
  refine pv_call_of rfl rfl rfl (pv_run [] 50 ?_)
  refine And.intro (fun c1 => ?_) (fun c1 => ?_)
  · refine And.intro (Or.inl rfl) ?_
    rw [if_neg (by intro q; exact absurd c1 (Int32.not_lt.mpr q.1))] at h
    exact h
  · refine And.intro (fun c2 => ?_) (fun c2 => ?_)
    · refine And.intro (Or.inl rfl) ?_
      rw [if_neg (by intro q; exact absurd c2 (Int32.not_lt.mpr q.2))] at h
      exact h
    · refine And.intro (Or.inr rfl) ?_
      rw [if_pos ⟨Int32.not_lt.mp c1, Int32.not_lt.mp c2⟩] at h
      exact h
theorem rc_push (d : Nat) (m : Nat → Int32) (a : Nat → Nat → Int32) {k : Nat} (hk : k < 300) (hops : m r_ops = nI k) (x y : Int32) (P : pv_R) (h : P none (rs (upd m r_ops (nI (k + 1))) (up2 (up2 a r_opSign k x) r_opNode k y))) : pv_call rq_mt (d + 1) rq_m_R_push [.ref 0, .int x, .int y] (rs m a) P := by
  refine pv_call_of rfl rfl rfl (pv_run [] 50 ?_)
  have hi : vp_in (m 31) 300 := by rw [show m 31 = nI k from hops]; exact vp_in_nI hk (by decide)
  have hc : (m 31).toNatClampNeg = k := by rw [show m 31 = nI k from hops, nI_clamp (by omega)]
  refine And.intro hi (And.intro hi ?_)
  rw [← nI_1, ← show m 31 = nI k from hops, ← hc] at h
  exact h
theorem rc_nest (d : Nat) (m : Nat → Int32) (a : Nat → Nat → Int32) {n p k : Nat} (hn : n ≤ 240) (hp : p ≤ n) (hat : m r_at = nI p) (hsz : m r_size = nI n) (hk : k < 2 ^ 30) (hne : m r_nested = nI k) (P : pv_R) (h1 : k < 30 → P none (rs (upd m r_nested (nI (k + 1))) a)) (h2 : 30 ≤ k → P none (rs (upd (upd (upd m r_at (nI (r_nx a n p))) r_wrong (if m r_wrong = -1 then nI (r_nx a n p) else m r_wrong)) r_nested (nI (k + 1))) a)) : pv_call rq_mt (d + 3) rq_m_R_nest [.ref 0] (rs m a) P := by
  refine pv_call_of rfl rfl rfl (pv_run [] 50 ?_)
  have e : m 34 = nI k := hne
  refine And.intro (fun c1 => ?_) (fun c1 => ?_)
  · have c1 : m 34 < 30 := c1
    rw [e, show (30 : Int32) = nI 30 from rfl, nI_ltI (by omega) (by omega)] at c1
    have h1 := h1 c1
    rw [← nI_1, ← e] at h1
    exact h1
  · have c1 : ¬ m 34 < 30 := c1
    rw [e, show (30 : Int32) = nI 30 from rfl, nI_ltI (by omega) (by omega)] at c1
    refine rc_failHere d m a hn hp hat hsz _ ?_
    have h2 := h2 (by omega)
    rw [← nI_1, ← e] at h2
    exact h2
theorem rc_top (d : Nat) (m : Nat → Int32) (a : Nat → Nat → Int32) {k : Nat} (hk : k ≤ 300) (hops : m r_ops = nI k) (P : pv_R) (h : P (some (.int (if k = 0 then -1 else a r_opSign (k - 1)))) (rs m a)) : pv_call rq_mt (d + 1) rq_m_R_top [.ref 0] (rs m a) P := by
  refine pv_call_of rfl rfl rfl (pv_run [] 50 ?_)
  have e : m 31 = nI k := hops
  refine And.intro (fun c1 => ?_) (fun c1 => ?_)
  · have c1 : m 31 ≤ 0 := c1
    rw [e, show (0 : Int32) = nI 0 from rfl, nI_leI (by omega) (by omega)] at c1
    rw [if_pos (by omega)] at h
    exact h
  · have c1 : ¬ m 31 ≤ 0 := c1
    rw [e, show (0 : Int32) = nI 0 from rfl, nI_leI (by omega) (by omega)] at c1
    have e2 : m 31 - 1 = nI (k - 1) := by rw [e, show k = (k - 1) + 1 by omega, nI_pred]; rfl
    have hi : vp_in (m 31 - 1) 300 := by rw [e2]; exact vp_in_nI (by omega) (by decide)
    have hc : (m 31 - 1).toNatClampNeg = k - 1 := by rw [e2, nI_clamp (by omega)]
    refine And.intro hi ?_
    rw [if_neg (by omega), ← hc] at h
    exact h
