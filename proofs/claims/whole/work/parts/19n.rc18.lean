/-- reduceWhile's loop leads from one state to another -/
def rwG (d : Nat) (x y z : Int32) (m : Nat → Int32) (a : Nat → Nat → Int32) (m' : Nat → Int32) (a' : Nat → Nat → Int32) : Prop := ∀ (P : pv_R) (L : pv_L), (L = [] ∨ ∃ c, L = [(5, .int c)]) → P none (rs m' a') → pv_go rq_T18 3 (pv_call rq_mt (d + 1)) P (3, [(0, .ref 0), (1, .int x), (2, .int y), (3, .int z), (4, .int 1)] ++ L, [], rs m a)
theorem rwG_to {d : Nat} {x y z : Int32} {m m' : Nat → Int32} {a a' : Nat → Nat → Int32} (h : rwG d x y z m a m' a') : rwTo d x y z m a m' a' := fun P hP => rc_reduceWhile d m a x y z P (h P [] (Or.inl rfl) hP)
theorem rwG_stop (d : Nat) (x y z : Int32) (m : Nat → Int32) (a : Nat → Nat → Int32) {p b k t s : Nat} (hk : k ≤ 300) (h : ¬ rw_c x y z (if k = 0 then -1 else a r_opSign (k - 1))) : rwG d x y z (em m p b k t s) a (em m p b k t s) a := fun P L hL hP => rc_rw_head d (em m p b k t s) a x y z L hL hk rfl P (fun q => absurd q h) (fun _ => hP)
theorem rwG_2 (d : Nat) (x y z : Int32) (m m' : Nat → Int32) (a a' : Nat → Nat → Int32) {p b k t s u v : Nat} (hk : k < 300) (ht : t + 2 ≤ 300) (hu : a r_done (t + 1) = nI u) (hv : a r_done t = nI v) (hu2 : u < 260) (hv2 : v < 260) (hc : (a r_opSign k = 38 ∧ ¬ x = 0) ∨ (a r_opSign k = 124 ∧ ¬ y = 0)) (h : rwG d x y z (em m p b k (t + 1) s) (up2 (up2 (up2 a r_around u (a r_opNode k)) r_around v (a r_opNode k)) r_done t (a r_opNode k)) m' a') : rwG d x y z (em m p b (k + 1) (t + 2) s) a m' a' := by
  intro P L hL hP
  have e : (if k + 1 = 0 then -1 else a r_opSign (k + 1 - 1) : Int32) = a r_opSign k := by rw [if_neg (by omega), show k + 1 - 1 = k by omega]
  have hcond : rw_c x y z (if k + 1 = 0 then -1 else a r_opSign (k + 1 - 1)) := by
    rw [e]
    rcases hc with hc | hc
    · exact Or.inl hc
    · exact Or.inr (Or.inl hc)
  refine rc_rw_head d (em m p b (k + 1) (t + 2) s) a x y z L hL (k := k + 1) (by omega) rfl P (fun _ => ?_) (fun q => absurd hcond q)
  refine rc_reduce2 d (em m p b (k + 1) (t + 2) s) a hk ht rfl rfl hu hv hu2 hv2 (hc.elim (fun q => Or.inl q.1) (fun q => Or.inr q.1)) _ ?_
  rw [em_ops, em_dones]
  exact ⟨rfl, h P _ (Or.inr ⟨_, rfl⟩) hP⟩
theorem rwG_1 (d : Nat) (x y z : Int32) (m m' : Nat → Int32) (a a' : Nat → Nat → Int32) {p b k t s u : Nat} (hk : k < 300) (ht : t + 1 ≤ 300) (hu : a r_done t = nI u) (hu2 : u < 260) (hc : (a r_opSign k = 61 ∨ a r_opSign k = 58) ∧ ¬ z = 0) (h : rwG d x y z (em m p b k (t + 1) s) (up2 (up2 a r_around u (a r_opNode k)) r_done t (a r_opNode k)) m' a') : rwG d x y z (em m p b (k + 1) (t + 1) (s + 1)) a m' a' := by
  intro P L hL hP
  have e : (if k + 1 = 0 then -1 else a r_opSign (k + 1 - 1) : Int32) = a r_opSign k := by rw [if_neg (by omega), show k + 1 - 1 = k by omega]
  have hcond : rw_c x y z (if k + 1 = 0 then -1 else a r_opSign (k + 1 - 1)) := by
    rw [e]
    exact Or.inr (Or.inr hc)
  refine rc_rw_head d (em m p b (k + 1) (t + 1) (s + 1)) a x y z L hL (k := k + 1) (by omega) rfl P (fun _ => ?_) (fun q => absurd hcond q)
  refine rc_reduce1 d (em m p b (k + 1) (t + 1) (s + 1)) a hk ht rfl rfl hu hu2 ⟨by rcases hc.1 with q | q <;> rw [q] <;> decide, by rcases hc.1 with q | q <;> rw [q] <;> decide⟩ _ ?_
  rw [show em m p b (k + 1) (t + 1) (s + 1) r_nested - 1 = nI s from nI_pred s, em_ops, em_nested]
  exact ⟨rfl, h P _ (Or.inr ⟨_, rfl⟩) hP⟩
