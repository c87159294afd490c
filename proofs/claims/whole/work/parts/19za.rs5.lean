abbrev tL (k p : Nat) : pv_L := [(0, .ref 0), (1, .int (nI k)), (2, .int (nI p))]
abbrev noneP (P : pv_R) : pv_R := fun o S => o = none ∧ P none S
set_option maxRecDepth 100000 in
theorem rc_readList (d : Nat) (m : Nat → Int32) (a : Nat → Nat → Int32) {n p k t j : Nat} (hn : n ≤ 240) (hp : p ≤ n) (hat : m r_at = nI p) (hsz : m r_size = nI n) (hk : k < 24) (ho : m r_opened = nI (k + 1)) (hm : a r_mark k = nI t) (hj : t + j ≤ 12) (hsc : m r_scopes = nI (t + j)) (v1 : ∀ i, i < 12 → ∃ v, v < 12 ∧ a r_scope i = nI v) (v2 : ∀ v, v < 12 → ∃ u, u < 26 ∧ a r_nameOf v = nI u) (pt : Int32) (P : pv_R)
    (h1 : r_ch a n (r_nx a n p) = 125 → P (some (.int 1)) (rs (upd (upd m r_at (nI (r_nx a n p + 1))) r_scopes (nI t)) (upa a r_named (clz (a r_scope) (a r_nameOf) t j (a r_named)))))
    (h2 : ¬ r_ch a n (r_nx a n p) = 125 → pv_call rq_mt (d + 2) rq_m_R_readStmt [.ref 0, .int 1, .int pt] (rs (upd m r_at (nI (r_nx a n p))) a) (fun o S => o = none ∧ P (some (.int 0)) S)) : pv_call rq_mt (d + 3) rq_m_R_readList [.ref 0, .int pt] (rs m a) P := by
  refine pv_call_of rfl rfl rfl (pv_run [9, 36] 80 ?_)
  refine rc_here d m a hn hp hat hsz _ ?_
  generalize r_nx a n p = q at *
  refine And.intro (fun e => ?_) (fun e => ?_)
  · have h1 := h1 e
    show pv_go rq_T32 1 (pv_call rq_mt (d + 2)) P (9, [(0, .ref 0), (1, .int pt)], [], rs (upd m r_at (nI q)) a)
    have e1 : m 40 - 1 = nI k := by rw [show m 40 = nI (k + 1) from ho, nI_pred]
    have i1 : vp_in (m 40 - 1) 24 := by rw [e1]; exact vp_in_nI hk (by decide)
    have c1 : (m 40 - 1).toNatClampNeg = k := by rw [e1, nI_clamp (by omega)]
    refine pv_run [] 80 ?_
    refine And.intro i1 ?_
    show pv_call rq_mt (d + 2) 24 [.ref 0, .int (a 39 (m 40 - 1).toNatClampNeg)] (rs (upd (upd m r_at (nI q)) r_at (nI q + 1)) a) _
    rw [c1, show a 39 k = nI t from hm, upd_upd, nI_1]
    refine rc_close (d + 1) (upd m r_at (nI (q + 1))) a hj hsc v1 v2 _ ?_
    exact And.intro (Or.inr rfl) h1
  · have h2 := h2 e
    show pv_go rq_T32 1 (pv_call rq_mt (d + 2)) P (36, [(0, .ref 0), (1, .int pt)], [], rs (upd m r_at (nI q)) a)
    refine pv_run [] 80 ?_
    refine pv_call_cm rq_mt (d + 2) _ _ _ _ _ ?_ h2
    intro o S hS
    obtain ⟨rfl, hS⟩ := hS
    exact And.intro (Or.inl rfl) hS
set_option maxRecDepth 100000 in
theorem rc_step_pre (d : Nat) (m : Nat → Int32) (a : Nat → Nat → Int32) {k p s : Nat} (hk : k < 24) (hop : m r_opened = nI (k + 1)) (ho : a r_open k = nI p) (hp : p < 260) (hs : a r_sort p = nI s) (hs2 : s < 256) (P : pv_R) (h : ∀ pc, pc = (if s = 58 then 103 else if s = 68 then 221 else if s = 70 then 148 else if s = 73 then 139 else if s = 83 then 278 else if s = 87 then 148 else if s = 123 then 88 else 287) → pv_go rq_T33 3 (pv_call rq_mt d) P (pc, tL k p, [], rs m a)) : pv_call rq_mt (d + 1) rq_m_R_step [.ref 0] (rs m a) P := by
  have e1 : m 40 - 1 = nI k := by rw [show m 40 = nI (k + 1) from hop, nI_pred]
  have i1 : vp_in (m 40 - 1) 24 := by rw [e1]; exact vp_in_nI hk (by decide)
  have c1 : (m 40 - 1).toNatClampNeg = k := by rw [e1, nI_clamp (by omega)]
  have f1 : a 37 (m 40 - 1).toNatClampNeg = nI p := by rw [c1]; exact ho
  have i2 : vp_in (a 37 (m 40 - 1).toNatClampNeg) 260 := by rw [f1]; exact vp_in_nI hp (by decide)
  have c2 : (a 37 (m 40 - 1).toNatClampNeg).toNatClampNeg = p := by rw [f1, nI_clamp (by omega)]
  have f2 : a 3 (a 37 (m 40 - 1).toNatClampNeg).toNatClampNeg = nI s := by rw [c2]; exact hs
  have nI_of : ∀ x : Nat, x < 256 → (nI s = nI x ↔ s = x) := fun x hx => nI_eq (by omega) (by omega)
  have go : ∀ pc, pc = (if s = 58 then 103 else if s = 68 then 221 else if s = 70 then 148 else if s = 73 then 139 else if s = 83 then 278 else if s = 87 then 148 else if s = 123 then 88 else 287) → pv_go rq_T33 3 (pv_call rq_mt d) P (pc, [(0, .ref 0), (1, .int (m 40 - 1)), (2, .int (a 37 (m 40 - 1).toNatClampNeg))], [], rs m a) := by
    intro pc hpc
    rw [f1, e1]
    exact h pc hpc
  refine pv_call_of rfl rfl rfl (pv_run [103, 221, 148, 139, 278, 88, 287] 80 ?_)
  refine And.intro i1 ?_
  refine And.intro i2 ?_
  refine And.intro (fun q => go 103 ?_) (fun q58 => ?_)
  · have q := (nI_of 58 (by decide)).mp (f2.symm.trans q)
    rw [q]; rfl
  have q58 : ¬ s = 58 := fun e => q58 (f2.trans ((nI_of 58 (by decide)).mpr e))
  refine And.intro (fun q => go 221 ?_) (fun q68 => ?_)
  · have q := (nI_of 68 (by decide)).mp (f2.symm.trans q)
    rw [q]; rfl
  have q68 : ¬ s = 68 := fun e => q68 (f2.trans ((nI_of 68 (by decide)).mpr e))
  refine And.intro (fun q => go 148 ?_) (fun q70 => ?_)
  · have q := (nI_of 70 (by decide)).mp (f2.symm.trans q)
    rw [q]; rfl
  have q70 : ¬ s = 70 := fun e => q70 (f2.trans ((nI_of 70 (by decide)).mpr e))
  refine And.intro (fun q => go 139 ?_) (fun q73 => ?_)
  · have q := (nI_of 73 (by decide)).mp (f2.symm.trans q)
    rw [q]; rfl
  have q73 : ¬ s = 73 := fun e => q73 (f2.trans ((nI_of 73 (by decide)).mpr e))
  refine And.intro (fun q => go 278 ?_) (fun q83 => ?_)
  · have q := (nI_of 83 (by decide)).mp (f2.symm.trans q)
    rw [q]; rfl
  have q83 : ¬ s = 83 := fun e => q83 (f2.trans ((nI_of 83 (by decide)).mpr e))
  refine And.intro (fun q => go 148 ?_) (fun q87 => ?_)
  · have q := (nI_of 87 (by decide)).mp (f2.symm.trans q)
    rw [q]; rfl
  have q87 : ¬ s = 87 := fun e => q87 (f2.trans ((nI_of 87 (by decide)).mpr e))
  refine And.intro (fun q => go 88 ?_) (fun q123 => ?_)
  · have q := (nI_of 123 (by decide)).mp (f2.symm.trans q)
    rw [q]; rfl
  have q123 : ¬ s = 123 := fun e => q123 (f2.trans ((nI_of 123 (by decide)).mpr e))
  refine go 287 ?_
  rw [if_neg q58, if_neg q68, if_neg q70, if_neg q73, if_neg q83, if_neg q87, if_neg q123]
set_option maxRecDepth 100000 in
theorem st_88 (d : Nat) (m : Nat → Int32) (a : Nat → Nat → Int32) (k p : Nat) (P : pv_R) (h : pv_call rq_mt (d + 1) rq_m_R_readList [.ref 0, .int 0] (rs m a) (fun o S => ∃ m' a', S = rs m' a' ∧ ((o = some (.int 0) ∧ P none S) ∨ (o = some (.int 1) ∧ pv_call rq_mt (d + 1) rq_m_R_finish [.ref 0] S (noneP P))))) : pv_go rq_T33 3 (pv_call rq_mt (d + 1)) P (88, tL k p, [], rs m a) := by
  refine pv_run [] 80 ?_
  refine pv_call_cm rq_mt (d + 1) _ _ _ _ _ ?_ h
  intro o S hS
  obtain ⟨m', a', rfl, hS⟩ := hS
  rcases hS with ⟨rfl, hS⟩ | ⟨rfl, hS⟩
  · refine And.intro (fun _ => ?_) (fun q => absurd rfl q)
    exact hS
  · refine And.intro (fun q => absurd q (by decide)) (fun _ => ?_)
    refine pv_call_cm rq_mt (d + 1) _ _ _ _ _ ?_ hS
    intro o S hS
    obtain ⟨rfl, hS⟩ := hS
    exact hS
/-- the state of an open stmt goes up -/
theorem st_in {a : Nat → Nat → Int32} {k x : Nat} (hst : a r_state k = nI x) (hk : k < 24) : up2 a r_state (nI k).toNatClampNeg (a 38 (nI k).toNatClampNeg + 1) = up2 a r_state k (nI (x + 1)) := by
  rw [nI_clamp (by omega), show a 38 k = nI x from hst, nI_1]
set_option maxRecDepth 100000 in
theorem st_103 (d : Nat) (m : Nat → Int32) (a : Nat → Nat → Int32) {k p x : Nat} (hk : k < 24) (hst : a r_state k = nI x) (hx : x < 10) (P : pv_R) (h0 : x = 0 → pv_call rq_mt (d + 1) rq_m_R_readStmt [.ref 0, .int 0, .int 0] (rs m (up2 a r_state k (nI (x + 1)))) (noneP P)) (h1 : ¬ x = 0 → pv_call rq_mt (d + 1) rq_m_R_finish [.ref 0] (rs m (up2 a r_state k (nI (x + 1)))) (noneP P)) : pv_go rq_T33 3 (pv_call rq_mt (d + 1)) P (103, tL k p, [], rs m a) := by
  have i1 : vp_in (nI k) 24 := vp_in_nI hk (by decide)
  refine pv_run [113] 80 ?_
  refine And.intro i1 ?_
  refine And.intro i1 ?_
  show pv_go rq_T33 3 (pv_call rq_mt (d + 1)) P (113, tL k p, [], rs m (up2 a r_state (nI k).toNatClampNeg (a 38 (nI k).toNatClampNeg + 1)))
  rw [st_in hst hk]
  have f1 : (up2 a r_state k (nI (x + 1))) 38 (nI k).toNatClampNeg = nI (x + 1) := by rw [nI_clamp (by omega)]; exact up2_eq _ _ _ _
  generalize up2 a r_state k (nI (x + 1)) = a1 at *
  refine pv_run [] 80 ?_
  refine And.intro i1 ?_
  refine And.intro (fun q => ?_) (fun q => ?_)
  · have q : x + 1 = 1 := (nI_eq (by omega) (by omega)).mp (f1.symm.trans q)
    refine pv_call_cm rq_mt (d + 1) _ _ _ _ _ ?_ (h0 (by omega))
    intro o S hS
    obtain ⟨rfl, hS⟩ := hS
    exact hS
  · have q : ¬ x + 1 = 1 := fun e => q (f1.trans ((nI_eq (a := x + 1) (b := 1) (by omega) (by omega)).mpr e))
    refine pv_call_cm rq_mt (d + 1) _ _ _ _ _ ?_ (h1 (by omega))
    intro o S hS
    obtain ⟨rfl, hS⟩ := hS
    exact hS
theorem st_139 (d : Nat) (m : Nat → Int32) (a : Nat → Nat → Int32) (k p : Nat) (P : pv_R) (h : pv_call rq_mt (d + 1) rq_m_R_stepIf [.ref 0, .int (nI k), .int (nI p)] (rs m a) (noneP P)) : pv_go rq_T33 3 (pv_call rq_mt (d + 1)) P (139, tL k p, [], rs m a) := by
  refine pv_run [] 80 ?_
  refine pv_call_cm rq_mt (d + 1) _ _ _ _ _ ?_ h
  intro o S hS
  obtain ⟨rfl, hS⟩ := hS
  exact hS
theorem st_278 (d : Nat) (m : Nat → Int32) (a : Nat → Nat → Int32) (k p : Nat) (P : pv_R) (h : pv_call rq_mt (d + 1) rq_m_R_stepCases [.ref 0, .int (nI k), .int (nI p)] (rs m a) (noneP P)) : pv_go rq_T33 3 (pv_call rq_mt (d + 1)) P (278, tL k p, [], rs m a) := by
  refine pv_run [] 80 ?_
  refine pv_call_cm rq_mt (d + 1) _ _ _ _ _ ?_ h
  intro o S hS
  obtain ⟨rfl, hS⟩ := hS
  exact hS
theorem st_287 (d : Nat) (m : Nat → Int32) (a : Nat → Nat → Int32) (k p : Nat) (P : pv_R) (h : pv_call rq_mt (d + 1) rq_m_R_stepTry [.ref 0, .int (nI k), .int (nI p)] (rs m a) (noneP P)) : pv_go rq_T33 3 (pv_call rq_mt (d + 1)) P (287, tL k p, [], rs m a) := by
  refine pv_run [] 80 ?_
  refine pv_call_cm rq_mt (d + 1) _ _ _ _ _ ?_ h
  intro o S hS
  obtain ⟨rfl, hS⟩ := hS
  exact hS
