def wb (m : Nat → Int32) (w g : Int32) : Nat → Int32 := upd (upd m r_wantsMore w) r_beginsMore g
theorem em_wb (m : Nat → Int32) (p b k t z : Nat) (w g : Int32) : upd (upd (em m p b k t z) r_wantsMore w) r_beginsMore g = em (wb m w g) p b k t z := by
  funext j
  simp only [em, wb, upd]
  by_cases h : j = 36
  · subst h; rfl
  · by_cases h2 : j = 35
    · subst h2; rfl
    · simp [h, h2]
theorem em_w (m : Nat → Int32) (p b k t z : Nat) (w g x : Int32) : upd (em (wb m w g) p b k t z) r_wantsMore x = em (wb m x g) p b k t z := by
  funext j
  simp only [em, wb, upd]
  by_cases h2 : j = 35
  · subst h2; rfl
  · simp [h2]
theorem em_g (m : Nat → Int32) (p b k t z : Nat) (w g x : Int32) : upd (em (wb m w g) p b k t z) r_beginsMore x = em (wb m w x) p b k t z := by
  funext j
  simp only [em, wb, upd]
  by_cases h2 : j = 36
  · subst h2; rfl
  · simp [h2]
/-- reduceWhile leads from one state to another -/
def rwTo (d : Nat) (x y z : Int32) (m : Nat → Int32) (a : Nat → Nat → Int32) (m' : Nat → Int32) (a' : Nat → Nat → Int32) : Prop := ∀ P : pv_R, P none (rs m' a') → pv_call rq_mt (d + 2) rq_m_R_reduceWhile [.ref 0, .int x, .int y, .int z] (rs m a) P
set_option maxRecDepth 100000 in
theorem rc_ro_and (d : Nat) (m : Nat → Int32) (a a' : Nat → Nat → Int32) {p b k t z k' t' z' sc x : Nat} (hsc2 : sc ≤ 12) (hsc : m r_scopes = nI sc) (hb : b < 260) (hk : k' < 300) (ht : t' < 300) (hx : a' r_done t' = nI x) (hx2 : x < 260) (hrw : rwTo (d + 1) 1 0 0 (em (wb m 1 0) p b k t z) a (em (wb m 1 0) p b k' (t' + 1) z') a') (P : pv_R)
    (h : P (some (.int 1)) (rs (em (wb m 1 0) (p + 1) (b + 1) (k' + 1) (t' + 1) z') (up2 (up2 (r_nodeA a' b 38 (a' r_first x) 0 (thr (a' r_scope) sc)) r_opSign k' 38) r_opNode k' (nI b)))) : pv_call rq_mt (d + 4) rq_m_R_readOperator [.ref 0, .int 38] (rs (em m p b k t z) a) P := by
  refine pv_call_of rfl rfl rfl (pv_run [] 80 ?_)
  refine And.intro (Or.inr rfl) ?_
  refine And.intro (Or.inl rfl) ?_
  refine And.intro (fun _ => ?_) (fun q => absurd rfl q)
  show pv_call rq_mt (d + 3) 18 [.ref 0, .int 1, .int 0, .int 0] (rs (upd (upd (em m p b k t z) r_wantsMore 1) r_beginsMore 0) a) _
  rw [em_wb]
  refine hrw _ ?_
  refine rc_infix d (em (wb m 1 0) p b k' (t' + 1) z') a' hsc2 hsc hb rfl hk rfl ht rfl hx hx2 38 _ ?_
  show pv_wp _ _ _ _ _ _ _ (_, _, _, rs (upd (upd (upd (em (wb m 1 0) p b k' (t' + 1) z') r_nodes (nI (b + 1))) r_ops (nI (k' + 1))) r_at (nI p + 1)) _)
  rw [em_nodes, em_ops, nI_1 p, em_at]
  exact And.intro (Or.inr rfl) h
set_option maxRecDepth 100000 in
theorem rc_ro_or (d : Nat) (m : Nat → Int32) (a a' : Nat → Nat → Int32) {p b k t z k' t' z' sc x : Nat} (hsc2 : sc ≤ 12) (hsc : m r_scopes = nI sc) (hb : b < 260) (hk : k' < 300) (ht : t' < 300) (hx : a' r_done t' = nI x) (hx2 : x < 260) (hrw : rwTo (d + 1) 1 1 0 (em (wb m 1 0) p b k t z) a (em (wb m 1 0) p b k' (t' + 1) z') a') (P : pv_R)
    (h : P (some (.int 1)) (rs (em (wb m 1 0) (p + 1) (b + 1) (k' + 1) (t' + 1) z') (up2 (up2 (r_nodeA a' b 124 (a' r_first x) 0 (thr (a' r_scope) sc)) r_opSign k' 124) r_opNode k' (nI b)))) : pv_call rq_mt (d + 4) rq_m_R_readOperator [.ref 0, .int 124] (rs (em m p b k t z) a) P := by
  refine pv_call_of rfl rfl rfl (pv_run [] 80 ?_)
  refine And.intro (Or.inr rfl) ?_
  refine And.intro (Or.inl rfl) ?_
  refine And.intro (fun q => absurd q (by decide)) (fun _ => ?_)
  refine And.intro (fun _ => ?_) (fun q => absurd rfl q)
  show pv_call rq_mt (d + 3) 18 [.ref 0, .int 1, .int 1, .int 0] (rs (upd (upd (em m p b k t z) r_wantsMore 1) r_beginsMore 0) a) _
  rw [em_wb]
  refine hrw _ ?_
  refine rc_infix d (em (wb m 1 0) p b k' (t' + 1) z') a' hsc2 hsc hb rfl hk rfl ht rfl hx hx2 124 _ ?_
  show pv_wp _ _ _ _ _ _ _ (_, _, _, rs (upd (upd (upd (em (wb m 1 0) p b k' (t' + 1) z') r_nodes (nI (b + 1))) r_ops (nI (k' + 1))) r_at (nI p + 1)) _)
  rw [em_nodes, em_ops, nI_1 p, em_at]
  exact And.intro (Or.inr rfl) h
