set_option maxRecDepth 100000 in
theorem t33_148 (d : Nat) (m : Nat → Int32) (a : Nat → Nat → Int32) {k p x : Nat} (hk : k < 24) (hst : a r_state k = nI x) (hx : x < 10) (P : pv_R) (h0 : x = 0 → pv_go rq_T33 3 (pv_call rq_mt d) P (168, tL k p, [], rs m (up2 a r_state k (nI (x + 1))))) (h1 : ¬ x = 0 → pv_go rq_T33 3 (pv_call rq_mt d) P (214, tL k p, [], rs m (up2 a r_state k (nI (x + 1))))) : pv_go rq_T33 3 (pv_call rq_mt d) P (148, tL k p, [], rs m a) := by
  have i1 : vp_in (nI k) 24 := vp_in_nI hk (by decide)
  refine pv_run [158] 80 ?_
  refine And.intro i1 ?_
  refine And.intro i1 ?_
  show pv_go rq_T33 3 (pv_call rq_mt d) P (158, tL k p, [], rs m (up2 a r_state (nI k).toNatClampNeg (a 38 (nI k).toNatClampNeg + 1)))
  rw [st_in hst hk]
  have f1 : (up2 a r_state k (nI (x + 1))) 38 (nI k).toNatClampNeg = nI (x + 1) := by rw [nI_clamp (by omega)]; exact up2_eq _ _ _ _
  generalize up2 a r_state k (nI (x + 1)) = a1 at *
  refine pv_run [168, 214] 80 ?_
  refine And.intro i1 ?_
  refine And.intro (fun q => ?_) (fun q => ?_)
  · have q : x + 1 = 1 := (nI_eq (by omega) (by omega)).mp (f1.symm.trans q)
    exact h0 (by omega)
  · have q : ¬ x + 1 = 1 := fun e => q (f1.trans ((nI_eq (a := x + 1) (b := 1) (by omega) (by omega)).mpr e))
    exact h1 (by omega)
set_option maxRecDepth 100000 in
theorem t33_168_ok (d : Nat) (m : Nat → Int32) (a : Nat → Nat → Int32) {n q k p : Nat} (hn : n ≤ 240) (hq : q ≤ n) (hat : m r_at = nI q) (hsz : m r_size = nI n) (hw : m r_wrong = -1) (P : pv_R) (h1 : r_ch a n (r_nx a n q) = 40 → pv_go rq_T33 3 (pv_call rq_mt (d + 3)) P (174, tL k p, [], rs (upd m r_at (nI (r_nx a n q + 1))) a)) (h2 : ¬ r_ch a n (r_nx a n q) = 40 → pv_go rq_T33 3 (pv_call rq_mt (d + 3)) P (174, tL k p, [], rs (upd (upd m r_at (nI (r_nx a n q))) r_wrong (nI (r_nx a n q))) a)) : pv_go rq_T33 3 (pv_call rq_mt (d + 3)) P (168, tL k p, [], rs m a) := by
  refine pv_run [174] 20 ?_
  exact rc_take d m a hn hq hat hsz 40 _ (fun q => absurd hw q) (fun _ e => h1 e) (fun _ e => h2 e)
set_option maxRecDepth 100000 in
theorem t33_168_no (d : Nat) (m : Nat → Int32) (a : Nat → Nat → Int32) {k p : Nat} (hw : ¬ m r_wrong = -1) (P : pv_R) (h : pv_go rq_T33 3 (pv_call rq_mt (d + 3)) P (174, tL k p, [], rs m a)) : pv_go rq_T33 3 (pv_call rq_mt (d + 3)) P (168, tL k p, [], rs m a) := by
  refine pv_run [174] 20 ?_
  exact rc_take_no d m a hw 40 _ h
set_option maxRecDepth 100000 in
theorem t33_174_ok (d : Nat) (m : Nat → Int32) (a : Nat → Nat → Int32) {k p : Nat} (hw : m r_wrong = -1) (P : pv_R) (h : pv_call rq_mt (d + 2) rq_m_R_readE [.ref 0, .int (nI p)] (rs m a) (fun o S => (∃ r, o = some (.int r)) ∧ ∃ m' a', S = rs m' a' ∧ pv_go rq_T33 3 (pv_call rq_mt (d + 3)) P (179, tL k p, [], rs m' a'))) : pv_go rq_T33 3 (pv_call rq_mt (d + 3)) P (174, tL k p, [], rs m a) := by
  refine pv_run [179] 20 ?_
  refine rc_readPart_ok (d + 1) m a hw (nI p) _ ?_
  refine pv_call_cm rq_mt (d + 2) _ _ _ _ _ ?_ h
  intro o S hS
  obtain ⟨h1, m', a', rfl, hS⟩ := hS
  exact ⟨h1, hS⟩
set_option maxRecDepth 100000 in
theorem t33_174_no (d : Nat) (m : Nat → Int32) (a : Nat → Nat → Int32) {k p : Nat} (hw : ¬ m r_wrong = -1) (P : pv_R) (h : pv_go rq_T33 3 (pv_call rq_mt (d + 3)) P (179, tL k p, [], rs m a)) : pv_go rq_T33 3 (pv_call rq_mt (d + 3)) P (174, tL k p, [], rs m a) := by
  refine pv_run [179] 20 ?_
  exact rc_readPart_no (d + 1) m a hw (nI p) _ h
set_option maxRecDepth 100000 in
theorem t33_190_ok (d : Nat) (m : Nat → Int32) (a : Nat → Nat → Int32) {n q k p : Nat} (hn : n ≤ 240) (hq : q ≤ n) (hat : m r_at = nI q) (hsz : m r_size = nI n) (hw : m r_wrong = -1) (P : pv_R) (h1 : r_ch a n (r_nx a n q) = 59 → pv_go rq_T33 3 (pv_call rq_mt (d + 3)) P (196, tL k p, [], rs (upd m r_at (nI (r_nx a n q + 1))) a)) (h2 : ¬ r_ch a n (r_nx a n q) = 59 → pv_go rq_T33 3 (pv_call rq_mt (d + 3)) P (196, tL k p, [], rs (upd (upd m r_at (nI (r_nx a n q))) r_wrong (nI (r_nx a n q))) a)) : pv_go rq_T33 3 (pv_call rq_mt (d + 3)) P (190, tL k p, [], rs m a) := by
  refine pv_run [196] 20 ?_
  exact rc_take d m a hn hq hat hsz 59 _ (fun q => absurd hw q) (fun _ e => h1 e) (fun _ e => h2 e)
set_option maxRecDepth 100000 in
theorem t33_190_no (d : Nat) (m : Nat → Int32) (a : Nat → Nat → Int32) {k p : Nat} (hw : ¬ m r_wrong = -1) (P : pv_R) (h : pv_go rq_T33 3 (pv_call rq_mt (d + 3)) P (196, tL k p, [], rs m a)) : pv_go rq_T33 3 (pv_call rq_mt (d + 3)) P (190, tL k p, [], rs m a) := by
  refine pv_run [196] 20 ?_
  exact rc_take_no d m a hw 59 _ h
set_option maxRecDepth 100000 in
theorem t33_196_ok (d : Nat) (m : Nat → Int32) (a : Nat → Nat → Int32) {k p : Nat} (hw : m r_wrong = -1) (P : pv_R) (h : pv_call rq_mt (d + 2) rq_m_R_readE [.ref 0, .int (nI p)] (rs m a) (fun o S => (∃ r, o = some (.int r)) ∧ ∃ m' a', S = rs m' a' ∧ pv_go rq_T33 3 (pv_call rq_mt (d + 3)) P (201, tL k p, [], rs m' a'))) : pv_go rq_T33 3 (pv_call rq_mt (d + 3)) P (196, tL k p, [], rs m a) := by
  refine pv_run [201] 20 ?_
  refine rc_readPart_ok (d + 1) m a hw (nI p) _ ?_
  refine pv_call_cm rq_mt (d + 2) _ _ _ _ _ ?_ h
  intro o S hS
  obtain ⟨h1, m', a', rfl, hS⟩ := hS
  exact ⟨h1, hS⟩
set_option maxRecDepth 100000 in
theorem t33_196_no (d : Nat) (m : Nat → Int32) (a : Nat → Nat → Int32) {k p : Nat} (hw : ¬ m r_wrong = -1) (P : pv_R) (h : pv_go rq_T33 3 (pv_call rq_mt (d + 3)) P (201, tL k p, [], rs m a)) : pv_go rq_T33 3 (pv_call rq_mt (d + 3)) P (196, tL k p, [], rs m a) := by
  refine pv_run [201] 20 ?_
  exact rc_readPart_no (d + 1) m a hw (nI p) _ h
set_option maxRecDepth 100000 in
theorem t33_201_ok (d : Nat) (m : Nat → Int32) (a : Nat → Nat → Int32) {n q k p : Nat} (hn : n ≤ 240) (hq : q ≤ n) (hat : m r_at = nI q) (hsz : m r_size = nI n) (hw : m r_wrong = -1) (P : pv_R) (h1 : r_ch a n (r_nx a n q) = 41 → pv_go rq_T33 3 (pv_call rq_mt (d + 3)) P (207, tL k p, [], rs (upd m r_at (nI (r_nx a n q + 1))) a)) (h2 : ¬ r_ch a n (r_nx a n q) = 41 → pv_go rq_T33 3 (pv_call rq_mt (d + 3)) P (207, tL k p, [], rs (upd (upd m r_at (nI (r_nx a n q))) r_wrong (nI (r_nx a n q))) a)) : pv_go rq_T33 3 (pv_call rq_mt (d + 3)) P (201, tL k p, [], rs m a) := by
  refine pv_run [207] 20 ?_
  exact rc_take d m a hn hq hat hsz 41 _ (fun q => absurd hw q) (fun _ e => h1 e) (fun _ e => h2 e)
set_option maxRecDepth 100000 in
theorem t33_201_no (d : Nat) (m : Nat → Int32) (a : Nat → Nat → Int32) {k p : Nat} (hw : ¬ m r_wrong = -1) (P : pv_R) (h : pv_go rq_T33 3 (pv_call rq_mt (d + 3)) P (207, tL k p, [], rs m a)) : pv_go rq_T33 3 (pv_call rq_mt (d + 3)) P (201, tL k p, [], rs m a) := by
  refine pv_run [207] 20 ?_
  exact rc_take_no d m a hw 41 _ h
set_option maxRecDepth 100000 in
theorem t33_207_ok (d : Nat) (m : Nat → Int32) (a : Nat → Nat → Int32) {k p : Nat} (hw : m r_wrong = -1) (P : pv_R) (h : pv_call rq_mt (d + 2) rq_m_R_readStmt [.ref 0, .int 0, .int 0] (rs m a) (noneP P)) : pv_go rq_T33 3 (pv_call rq_mt (d + 3)) P (207, tL k p, [], rs m a) := by
  refine pv_run [] 20 ?_
  refine rc_readBody_ok (d + 1) m a hw _ ?_
  exact h
set_option maxRecDepth 100000 in
theorem t33_207_no (d : Nat) (m : Nat → Int32) (a : Nat → Nat → Int32) {k p : Nat} (hw : ¬ m r_wrong = -1) (P : pv_R) (h : P none (rs m a)) : pv_go rq_T33 3 (pv_call rq_mt (d + 3)) P (207, tL k p, [], rs m a) := by
  refine pv_run [] 20 ?_
  exact rc_readBody_no (d + 1) m a hw _ h
set_option maxRecDepth 100000 in
theorem t33_214 (d : Nat) (m : Nat → Int32) (a : Nat → Nat → Int32) (k p : Nat) (P : pv_R) (h : pv_call rq_mt (d + 1) rq_m_R_finish [.ref 0] (rs m a) (noneP P)) : pv_go rq_T33 3 (pv_call rq_mt (d + 1)) P (214, tL k p, [], rs m a) := by
  refine pv_run [] 20 ?_
  refine pv_call_cm rq_mt (d + 1) _ _ _ _ _ ?_ h
  intro o S hS
  obtain ⟨rfl, hS⟩ := hS
  exact hS
set_option maxRecDepth 100000 in
theorem t33_179 (d : Nat) (m : Nat → Int32) (a : Nat → Nat → Int32) {k p : Nat} (hp : p < 260) (P : pv_R) (h1 : a r_sort p = 70 → pv_go rq_T33 3 (pv_call rq_mt d) P (190, tL k p, [], rs m a)) (h2 : ¬ a r_sort p = 70 → pv_go rq_T33 3 (pv_call rq_mt d) P (201, tL k p, [], rs m a)) : pv_go rq_T33 3 (pv_call rq_mt d) P (179, tL k p, [], rs m a) := by
  have i1 : vp_in (nI p) 260 := vp_in_nI hp (by decide)
  have c1 : (nI p).toNatClampNeg = p := nI_clamp (by omega)
  refine pv_run [190, 201] 20 ?_
  refine And.intro i1 ?_
  refine And.intro (fun q => h1 ?_) (fun q => h2 (fun e => q ?_))
  · rw [← c1]; exact q
  · show a 3 (nI p).toNatClampNeg = 70
    rw [c1]; exact e
set_option maxRecDepth 100000 in
theorem t33_221 (d : Nat) (m : Nat → Int32) (a : Nat → Nat → Int32) {k p x : Nat} (hk : k < 24) (hst : a r_state k = nI x) (hx : x < 10) (P : pv_R) (h0 : x = 0 → pv_go rq_T33 3 (pv_call rq_mt d) P (241, tL k p, [], rs m (up2 a r_state k (nI (x + 1))))) (h1 : ¬ x = 0 → pv_go rq_T33 3 (pv_call rq_mt d) P (248, tL k p, [], rs m (up2 a r_state k (nI (x + 1))))) : pv_go rq_T33 3 (pv_call rq_mt d) P (221, tL k p, [], rs m a) := by
  have i1 : vp_in (nI k) 24 := vp_in_nI hk (by decide)
  refine pv_run [231] 80 ?_
  refine And.intro i1 ?_
  refine And.intro i1 ?_
  show pv_go rq_T33 3 (pv_call rq_mt d) P (231, tL k p, [], rs m (up2 a r_state (nI k).toNatClampNeg (a 38 (nI k).toNatClampNeg + 1)))
  rw [st_in hst hk]
  have f1 : (up2 a r_state k (nI (x + 1))) 38 (nI k).toNatClampNeg = nI (x + 1) := by rw [nI_clamp (by omega)]; exact up2_eq _ _ _ _
  generalize up2 a r_state k (nI (x + 1)) = a1 at *
  refine pv_run [241, 248] 80 ?_
  refine And.intro i1 ?_
  refine And.intro (fun q => ?_) (fun q => ?_)
  · have q : x + 1 = 1 := (nI_eq (by omega) (by omega)).mp (f1.symm.trans q)
    exact h0 (by omega)
  · have q : ¬ x + 1 = 1 := fun e => q (f1.trans ((nI_eq (a := x + 1) (b := 1) (by omega) (by omega)).mpr e))
    exact h1 (by omega)
set_option maxRecDepth 100000 in
theorem t33_241_ok (d : Nat) (m : Nat → Int32) (a : Nat → Nat → Int32) {k p : Nat} (hw : m r_wrong = -1) (P : pv_R) (h : pv_call rq_mt (d + 2) rq_m_R_readStmt [.ref 0, .int 0, .int 0] (rs m a) (noneP P)) : pv_go rq_T33 3 (pv_call rq_mt (d + 3)) P (241, tL k p, [], rs m a) := by
  refine pv_run [] 20 ?_
  refine rc_readBody_ok (d + 1) m a hw _ ?_
  exact h
set_option maxRecDepth 100000 in
theorem t33_241_no (d : Nat) (m : Nat → Int32) (a : Nat → Nat → Int32) {k p : Nat} (hw : ¬ m r_wrong = -1) (P : pv_R) (h : P none (rs m a)) : pv_go rq_T33 3 (pv_call rq_mt (d + 3)) P (241, tL k p, [], rs m a) := by
  refine pv_run [] 20 ?_
  exact rc_readBody_no (d + 1) m a hw _ h
set_option maxRecDepth 100000 in
theorem t33_248_ok (d : Nat) (m : Nat → Int32) (a : Nat → Nat → Int32) {n q k p : Nat} (hn : n ≤ 240) (hq : q ≤ n) (hat : m r_at = nI q) (hsz : m r_size = nI n) (hw : m r_wrong = -1) (P : pv_R) (h1 : r_ch a n (r_nx a n q) = 40 → pv_go rq_T33 3 (pv_call rq_mt (d + 3)) P (254, tL k p, [], rs (upd m r_at (nI (r_nx a n q + 1))) a)) (h2 : ¬ r_ch a n (r_nx a n q) = 40 → pv_go rq_T33 3 (pv_call rq_mt (d + 3)) P (254, tL k p, [], rs (upd (upd m r_at (nI (r_nx a n q))) r_wrong (nI (r_nx a n q))) a)) : pv_go rq_T33 3 (pv_call rq_mt (d + 3)) P (248, tL k p, [], rs m a) := by
  refine pv_run [254] 20 ?_
  exact rc_take d m a hn hq hat hsz 40 _ (fun q => absurd hw q) (fun _ e => h1 e) (fun _ e => h2 e)
set_option maxRecDepth 100000 in
theorem t33_248_no (d : Nat) (m : Nat → Int32) (a : Nat → Nat → Int32) {k p : Nat} (hw : ¬ m r_wrong = -1) (P : pv_R) (h : pv_go rq_T33 3 (pv_call rq_mt (d + 3)) P (254, tL k p, [], rs m a)) : pv_go rq_T33 3 (pv_call rq_mt (d + 3)) P (248, tL k p, [], rs m a) := by
  refine pv_run [254] 20 ?_
  exact rc_take_no d m a hw 40 _ h
set_option maxRecDepth 100000 in
theorem t33_254_ok (d : Nat) (m : Nat → Int32) (a : Nat → Nat → Int32) {k p : Nat} (hw : m r_wrong = -1) (P : pv_R) (h : pv_call rq_mt (d + 2) rq_m_R_readE [.ref 0, .int (nI p)] (rs m a) (fun o S => (∃ r, o = some (.int r)) ∧ ∃ m' a', S = rs m' a' ∧ pv_go rq_T33 3 (pv_call rq_mt (d + 3)) P (259, tL k p, [], rs m' a'))) : pv_go rq_T33 3 (pv_call rq_mt (d + 3)) P (254, tL k p, [], rs m a) := by
  refine pv_run [259] 20 ?_
  refine rc_readPart_ok (d + 1) m a hw (nI p) _ ?_
  refine pv_call_cm rq_mt (d + 2) _ _ _ _ _ ?_ h
  intro o S hS
  obtain ⟨h1, m', a', rfl, hS⟩ := hS
  exact ⟨h1, hS⟩
set_option maxRecDepth 100000 in
theorem t33_254_no (d : Nat) (m : Nat → Int32) (a : Nat → Nat → Int32) {k p : Nat} (hw : ¬ m r_wrong = -1) (P : pv_R) (h : pv_go rq_T33 3 (pv_call rq_mt (d + 3)) P (259, tL k p, [], rs m a)) : pv_go rq_T33 3 (pv_call rq_mt (d + 3)) P (254, tL k p, [], rs m a) := by
  refine pv_run [259] 20 ?_
  exact rc_readPart_no (d + 1) m a hw (nI p) _ h
set_option maxRecDepth 100000 in
theorem t33_259_ok (d : Nat) (m : Nat → Int32) (a : Nat → Nat → Int32) {n q k p : Nat} (hn : n ≤ 240) (hq : q ≤ n) (hat : m r_at = nI q) (hsz : m r_size = nI n) (hw : m r_wrong = -1) (P : pv_R) (h1 : r_ch a n (r_nx a n q) = 41 → pv_go rq_T33 3 (pv_call rq_mt (d + 3)) P (265, tL k p, [], rs (upd m r_at (nI (r_nx a n q + 1))) a)) (h2 : ¬ r_ch a n (r_nx a n q) = 41 → pv_go rq_T33 3 (pv_call rq_mt (d + 3)) P (265, tL k p, [], rs (upd (upd m r_at (nI (r_nx a n q))) r_wrong (nI (r_nx a n q))) a)) : pv_go rq_T33 3 (pv_call rq_mt (d + 3)) P (259, tL k p, [], rs m a) := by
  refine pv_run [265] 20 ?_
  exact rc_take d m a hn hq hat hsz 41 _ (fun q => absurd hw q) (fun _ e => h1 e) (fun _ e => h2 e)
set_option maxRecDepth 100000 in
theorem t33_259_no (d : Nat) (m : Nat → Int32) (a : Nat → Nat → Int32) {k p : Nat} (hw : ¬ m r_wrong = -1) (P : pv_R) (h : pv_go rq_T33 3 (pv_call rq_mt (d + 3)) P (265, tL k p, [], rs m a)) : pv_go rq_T33 3 (pv_call rq_mt (d + 3)) P (259, tL k p, [], rs m a) := by
  refine pv_run [265] 20 ?_
  exact rc_take_no d m a hw 41 _ h
set_option maxRecDepth 100000 in
theorem t33_265_ok (d : Nat) (m : Nat → Int32) (a : Nat → Nat → Int32) {n q k p : Nat} (hn : n ≤ 240) (hq : q ≤ n) (hat : m r_at = nI q) (hsz : m r_size = nI n) (hw : m r_wrong = -1) (P : pv_R) (h1 : r_ch a n (r_nx a n q) = 59 → pv_go rq_T33 3 (pv_call rq_mt (d + 3)) P (271, tL k p, [], rs (upd m r_at (nI (r_nx a n q + 1))) a)) (h2 : ¬ r_ch a n (r_nx a n q) = 59 → pv_go rq_T33 3 (pv_call rq_mt (d + 3)) P (271, tL k p, [], rs (upd (upd m r_at (nI (r_nx a n q))) r_wrong (nI (r_nx a n q))) a)) : pv_go rq_T33 3 (pv_call rq_mt (d + 3)) P (265, tL k p, [], rs m a) := by
  refine pv_run [271] 20 ?_
  exact rc_take d m a hn hq hat hsz 59 _ (fun q => absurd hw q) (fun _ e => h1 e) (fun _ e => h2 e)
set_option maxRecDepth 100000 in
theorem t33_265_no (d : Nat) (m : Nat → Int32) (a : Nat → Nat → Int32) {k p : Nat} (hw : ¬ m r_wrong = -1) (P : pv_R) (h : pv_go rq_T33 3 (pv_call rq_mt (d + 3)) P (271, tL k p, [], rs m a)) : pv_go rq_T33 3 (pv_call rq_mt (d + 3)) P (265, tL k p, [], rs m a) := by
  refine pv_run [271] 20 ?_
  exact rc_take_no d m a hw 59 _ h
set_option maxRecDepth 100000 in
theorem t33_271 (d : Nat) (m : Nat → Int32) (a : Nat → Nat → Int32) (k p : Nat) (P : pv_R) (h : pv_call rq_mt (d + 1) rq_m_R_finish [.ref 0] (rs m a) (noneP P)) : pv_go rq_T33 3 (pv_call rq_mt (d + 1)) P (271, tL k p, [], rs m a) := by
  refine pv_run [] 20 ?_
  refine pv_call_cm rq_mt (d + 1) _ _ _ _ _ ?_ h
  intro o S hS
  obtain ⟨rfl, hS⟩ := hS
  exact hS
set_option maxRecDepth 100000 in
theorem t36_0 (d : Nat) (m : Nat → Int32) (a : Nat → Nat → Int32) {k p x : Nat} (hk : k < 24) (hst : a r_state k = nI x) (hx : x < 10) (P : pv_R) (h0 : x = 0 → pv_go rq_T36 3 (pv_call rq_mt d) P (20, tL k p, [], rs m (up2 a r_state k (nI (x + 1))))) (h1 : ¬ x = 0 → pv_go rq_T36 3 (pv_call rq_mt d) P (44, tL k p, [], rs m (up2 a r_state k (nI (x + 1))))) : pv_go rq_T36 3 (pv_call rq_mt d) P (0, tL k p, [], rs m a) := by
  have i1 : vp_in (nI k) 24 := vp_in_nI hk (by decide)
  refine pv_run [10] 80 ?_
  refine And.intro i1 ?_
  refine And.intro i1 ?_
  show pv_go rq_T36 3 (pv_call rq_mt d) P (10, tL k p, [], rs m (up2 a r_state (nI k).toNatClampNeg (a 38 (nI k).toNatClampNeg + 1)))
  rw [st_in hst hk]
  have f1 : (up2 a r_state k (nI (x + 1))) 38 (nI k).toNatClampNeg = nI (x + 1) := by rw [nI_clamp (by omega)]; exact up2_eq _ _ _ _
  generalize up2 a r_state k (nI (x + 1)) = a1 at *
  refine pv_run [20, 44] 80 ?_
  refine And.intro i1 ?_
  refine And.intro (fun q => ?_) (fun q => ?_)
  · have q : x + 1 = 1 := (nI_eq (by omega) (by omega)).mp (f1.symm.trans q)
    exact h0 (by omega)
  · have q : ¬ x + 1 = 1 := fun e => q (f1.trans ((nI_eq (a := x + 1) (b := 1) (by omega) (by omega)).mpr e))
    exact h1 (by omega)
set_option maxRecDepth 100000 in
theorem t36_20_ok (d : Nat) (m : Nat → Int32) (a : Nat → Nat → Int32) {n q k p : Nat} (hn : n ≤ 240) (hq : q ≤ n) (hat : m r_at = nI q) (hsz : m r_size = nI n) (hw : m r_wrong = -1) (P : pv_R) (h1 : r_ch a n (r_nx a n q) = 40 → pv_go rq_T36 3 (pv_call rq_mt (d + 3)) P (26, tL k p, [], rs (upd m r_at (nI (r_nx a n q + 1))) a)) (h2 : ¬ r_ch a n (r_nx a n q) = 40 → pv_go rq_T36 3 (pv_call rq_mt (d + 3)) P (26, tL k p, [], rs (upd (upd m r_at (nI (r_nx a n q))) r_wrong (nI (r_nx a n q))) a)) : pv_go rq_T36 3 (pv_call rq_mt (d + 3)) P (20, tL k p, [], rs m a) := by
  refine pv_run [26] 20 ?_
  exact rc_take d m a hn hq hat hsz 40 _ (fun q => absurd hw q) (fun _ e => h1 e) (fun _ e => h2 e)
set_option maxRecDepth 100000 in
theorem t36_20_no (d : Nat) (m : Nat → Int32) (a : Nat → Nat → Int32) {k p : Nat} (hw : ¬ m r_wrong = -1) (P : pv_R) (h : pv_go rq_T36 3 (pv_call rq_mt (d + 3)) P (26, tL k p, [], rs m a)) : pv_go rq_T36 3 (pv_call rq_mt (d + 3)) P (20, tL k p, [], rs m a) := by
  refine pv_run [26] 20 ?_
  exact rc_take_no d m a hw 40 _ h
set_option maxRecDepth 100000 in
theorem t36_26_ok (d : Nat) (m : Nat → Int32) (a : Nat → Nat → Int32) {k p : Nat} (hw : m r_wrong = -1) (P : pv_R) (h : pv_call rq_mt (d + 2) rq_m_R_readE [.ref 0, .int (nI p)] (rs m a) (fun o S => (∃ r, o = some (.int r)) ∧ ∃ m' a', S = rs m' a' ∧ pv_go rq_T36 3 (pv_call rq_mt (d + 3)) P (31, tL k p, [], rs m' a'))) : pv_go rq_T36 3 (pv_call rq_mt (d + 3)) P (26, tL k p, [], rs m a) := by
  refine pv_run [31] 20 ?_
  refine rc_readPart_ok (d + 1) m a hw (nI p) _ ?_
  refine pv_call_cm rq_mt (d + 2) _ _ _ _ _ ?_ h
  intro o S hS
  obtain ⟨h1, m', a', rfl, hS⟩ := hS
  exact ⟨h1, hS⟩
set_option maxRecDepth 100000 in
theorem t36_26_no (d : Nat) (m : Nat → Int32) (a : Nat → Nat → Int32) {k p : Nat} (hw : ¬ m r_wrong = -1) (P : pv_R) (h : pv_go rq_T36 3 (pv_call rq_mt (d + 3)) P (31, tL k p, [], rs m a)) : pv_go rq_T36 3 (pv_call rq_mt (d + 3)) P (26, tL k p, [], rs m a) := by
  refine pv_run [31] 20 ?_
  exact rc_readPart_no (d + 1) m a hw (nI p) _ h
set_option maxRecDepth 100000 in
theorem t36_31_ok (d : Nat) (m : Nat → Int32) (a : Nat → Nat → Int32) {n q k p : Nat} (hn : n ≤ 240) (hq : q ≤ n) (hat : m r_at = nI q) (hsz : m r_size = nI n) (hw : m r_wrong = -1) (P : pv_R) (h1 : r_ch a n (r_nx a n q) = 41 → pv_go rq_T36 3 (pv_call rq_mt (d + 3)) P (37, tL k p, [], rs (upd m r_at (nI (r_nx a n q + 1))) a)) (h2 : ¬ r_ch a n (r_nx a n q) = 41 → pv_go rq_T36 3 (pv_call rq_mt (d + 3)) P (37, tL k p, [], rs (upd (upd m r_at (nI (r_nx a n q))) r_wrong (nI (r_nx a n q))) a)) : pv_go rq_T36 3 (pv_call rq_mt (d + 3)) P (31, tL k p, [], rs m a) := by
  refine pv_run [37] 20 ?_
  exact rc_take d m a hn hq hat hsz 41 _ (fun q => absurd hw q) (fun _ e => h1 e) (fun _ e => h2 e)
set_option maxRecDepth 100000 in
theorem t36_31_no (d : Nat) (m : Nat → Int32) (a : Nat → Nat → Int32) {k p : Nat} (hw : ¬ m r_wrong = -1) (P : pv_R) (h : pv_go rq_T36 3 (pv_call rq_mt (d + 3)) P (37, tL k p, [], rs m a)) : pv_go rq_T36 3 (pv_call rq_mt (d + 3)) P (31, tL k p, [], rs m a) := by
  refine pv_run [37] 20 ?_
  exact rc_take_no d m a hw 41 _ h
set_option maxRecDepth 100000 in
theorem t36_37_ok (d : Nat) (m : Nat → Int32) (a : Nat → Nat → Int32) {k p : Nat} (hw : m r_wrong = -1) (P : pv_R) (h : pv_call rq_mt (d + 2) rq_m_R_readStmt [.ref 0, .int 0, .int 0] (rs m a) (noneP P)) : pv_go rq_T36 3 (pv_call rq_mt (d + 3)) P (37, tL k p, [], rs m a) := by
  refine pv_run [] 20 ?_
  refine rc_readBody_ok (d + 1) m a hw _ ?_
  exact h
set_option maxRecDepth 100000 in
theorem t36_37_no (d : Nat) (m : Nat → Int32) (a : Nat → Nat → Int32) {k p : Nat} (hw : ¬ m r_wrong = -1) (P : pv_R) (h : P none (rs m a)) : pv_go rq_T36 3 (pv_call rq_mt (d + 3)) P (37, tL k p, [], rs m a) := by
  refine pv_run [] 20 ?_
  exact rc_readBody_no (d + 1) m a hw _ h
set_option maxRecDepth 100000 in
theorem t36_89 (d : Nat) (m : Nat → Int32) (a : Nat → Nat → Int32) (k p : Nat) (P : pv_R) (h : pv_call rq_mt (d + 1) rq_m_R_finish [.ref 0] (rs m a) (noneP P)) : pv_go rq_T36 3 (pv_call rq_mt (d + 1)) P (89, tL k p, [], rs m a) := by
  refine pv_run [] 20 ?_
  refine pv_call_cm rq_mt (d + 1) _ _ _ _ _ ?_ h
  intro o S hS
  obtain ⟨rfl, hS⟩ := hS
  exact hS
set_option maxRecDepth 100000 in
theorem t36_44 (d : Nat) (m : Nat → Int32) (a : Nat → Nat → Int32) {n q k p x : Nat} (hn : n ≤ 240) (hq : q ≤ n) (hat : m r_at = nI q) (hsz : m r_size = nI n) (hk : k < 24) (hst : a r_state k = nI x) (hx : x < 10) (hp : p < 260) (P : pv_R)
    (h1 : x = 2 → r_ch a n (r_nx a n q) = 69 → pv_call rq_mt (d + 2) rq_m_R_readStmt [.ref 0, .int 0, .int 1] (rs (upd m r_at (nI (r_nx a n q + 1))) (up2 a r_hasElse p 1)) (noneP P))
    (h2 : x = 2 → ¬ r_ch a n (r_nx a n q) = 69 → pv_go rq_T36 3 (pv_call rq_mt (d + 2)) P (89, tL k p, [], rs (upd m r_at (nI (r_nx a n q))) a))
    (h3 : ¬ x = 2 → pv_go rq_T36 3 (pv_call rq_mt (d + 2)) P (89, tL k p, [], rs m a)) : pv_go rq_T36 3 (pv_call rq_mt (d + 2)) P (44, tL k p, [], rs m a) := by
  have i1 : vp_in (nI k) 24 := vp_in_nI hk (by decide)
  have c1 : (nI k).toNatClampNeg = k := nI_clamp (by omega)
  have i2 : vp_in (nI p) 260 := vp_in_nI hp (by decide)
  have c2 : (nI p).toNatClampNeg = p := nI_clamp (by omega)
  have f1 : a 38 (nI k).toNatClampNeg = nI x := by rw [c1]; exact hst
  refine pv_run [63, 89] 40 ?_
  refine And.intro i1 ?_
  refine And.intro (fun q1 => ?_) (fun q1 => ?_)
  · have q1 : x = 2 := (nI_eq (by omega) (by omega)).mp (f1.symm.trans q1)
    refine rc_here d m a hn hq hat hsz _ ?_
    refine And.intro (fun q2 => ?_) (fun q2 => ?_)
    · have h1 := h1 q1 q2
      generalize r_nx a n q = q0 at *
      show pv_go rq_T36 3 (pv_call rq_mt (d + 2)) P (63, tL k p, [], rs (upd m r_at (nI q0)) a)
      refine pv_run [] 40 ?_
      refine And.intro (And.intro i2 (Or.inr rfl)) ?_
      show pv_call rq_mt (d + 2) 26 [.ref 0, .int 0, .int 1] (rs (upd (upd m r_at (nI q0)) r_at (nI q0 + 1)) (up2 a r_hasElse (nI p).toNatClampNeg 1)) _
      rw [c2, upd_upd, nI_1]
      refine pv_call_cm rq_mt (d + 2) _ _ _ _ _ ?_ h1
      intro o S hS
      obtain ⟨rfl, hS⟩ := hS
      exact hS
    · exact h2 q1 q2
  · have q1 : ¬ x = 2 := fun e => q1 (f1.trans ((nI_eq (a := x) (b := 2) (by omega) (by omega)).mpr e))
    exact h3 q1
set_option maxRecDepth 100000 in
theorem t37_9_ok (d : Nat) (m : Nat → Int32) (a : Nat → Nat → Int32) {n q k p : Nat} (hn : n ≤ 240) (hq : q ≤ n) (hat : m r_at = nI q) (hsz : m r_size = nI n) (hw : m r_wrong = -1) (P : pv_R) (h1 : r_ch a n (r_nx a n q) = 40 → pv_go rq_T37 3 (pv_call rq_mt (d + 3)) P (15, tL k p, [], rs (upd m r_at (nI (r_nx a n q + 1))) a)) (h2 : ¬ r_ch a n (r_nx a n q) = 40 → pv_go rq_T37 3 (pv_call rq_mt (d + 3)) P (15, tL k p, [], rs (upd (upd m r_at (nI (r_nx a n q))) r_wrong (nI (r_nx a n q))) a)) : pv_go rq_T37 3 (pv_call rq_mt (d + 3)) P (9, tL k p, [], rs m a) := by
  refine pv_run [15] 20 ?_
  exact rc_take d m a hn hq hat hsz 40 _ (fun q => absurd hw q) (fun _ e => h1 e) (fun _ e => h2 e)
set_option maxRecDepth 100000 in
theorem t37_9_no (d : Nat) (m : Nat → Int32) (a : Nat → Nat → Int32) {k p : Nat} (hw : ¬ m r_wrong = -1) (P : pv_R) (h : pv_go rq_T37 3 (pv_call rq_mt (d + 3)) P (15, tL k p, [], rs m a)) : pv_go rq_T37 3 (pv_call rq_mt (d + 3)) P (9, tL k p, [], rs m a) := by
  refine pv_run [15] 20 ?_
  exact rc_take_no d m a hw 40 _ h
set_option maxRecDepth 100000 in
theorem t37_15_ok (d : Nat) (m : Nat → Int32) (a : Nat → Nat → Int32) {k p : Nat} (hw : m r_wrong = -1) (P : pv_R) (h : pv_call rq_mt (d + 2) rq_m_R_readE [.ref 0, .int (nI p)] (rs m a) (fun o S => (∃ r, o = some (.int r)) ∧ ∃ m' a', S = rs m' a' ∧ pv_go rq_T37 3 (pv_call rq_mt (d + 3)) P (20, tL k p, [], rs m' a'))) : pv_go rq_T37 3 (pv_call rq_mt (d + 3)) P (15, tL k p, [], rs m a) := by
  refine pv_run [20] 20 ?_
  refine rc_readPart_ok (d + 1) m a hw (nI p) _ ?_
  refine pv_call_cm rq_mt (d + 2) _ _ _ _ _ ?_ h
  intro o S hS
  obtain ⟨h1, m', a', rfl, hS⟩ := hS
  exact ⟨h1, hS⟩
set_option maxRecDepth 100000 in
theorem t37_15_no (d : Nat) (m : Nat → Int32) (a : Nat → Nat → Int32) {k p : Nat} (hw : ¬ m r_wrong = -1) (P : pv_R) (h : pv_go rq_T37 3 (pv_call rq_mt (d + 3)) P (20, tL k p, [], rs m a)) : pv_go rq_T37 3 (pv_call rq_mt (d + 3)) P (15, tL k p, [], rs m a) := by
  refine pv_run [20] 20 ?_
  exact rc_readPart_no (d + 1) m a hw (nI p) _ h
set_option maxRecDepth 100000 in
theorem t37_20_ok (d : Nat) (m : Nat → Int32) (a : Nat → Nat → Int32) {n q k p : Nat} (hn : n ≤ 240) (hq : q ≤ n) (hat : m r_at = nI q) (hsz : m r_size = nI n) (hw : m r_wrong = -1) (P : pv_R) (h1 : r_ch a n (r_nx a n q) = 41 → pv_go rq_T37 3 (pv_call rq_mt (d + 3)) P (26, tL k p, [], rs (upd m r_at (nI (r_nx a n q + 1))) a)) (h2 : ¬ r_ch a n (r_nx a n q) = 41 → pv_go rq_T37 3 (pv_call rq_mt (d + 3)) P (26, tL k p, [], rs (upd (upd m r_at (nI (r_nx a n q))) r_wrong (nI (r_nx a n q))) a)) : pv_go rq_T37 3 (pv_call rq_mt (d + 3)) P (20, tL k p, [], rs m a) := by
  refine pv_run [26] 20 ?_
  exact rc_take d m a hn hq hat hsz 41 _ (fun q => absurd hw q) (fun _ e => h1 e) (fun _ e => h2 e)
set_option maxRecDepth 100000 in
theorem t37_20_no (d : Nat) (m : Nat → Int32) (a : Nat → Nat → Int32) {k p : Nat} (hw : ¬ m r_wrong = -1) (P : pv_R) (h : pv_go rq_T37 3 (pv_call rq_mt (d + 3)) P (26, tL k p, [], rs m a)) : pv_go rq_T37 3 (pv_call rq_mt (d + 3)) P (20, tL k p, [], rs m a) := by
  refine pv_run [26] 20 ?_
  exact rc_take_no d m a hw 41 _ h
set_option maxRecDepth 100000 in
theorem t37_26_ok (d : Nat) (m : Nat → Int32) (a : Nat → Nat → Int32) {n q k p : Nat} (hn : n ≤ 240) (hq : q ≤ n) (hat : m r_at = nI q) (hsz : m r_size = nI n) (hw : m r_wrong = -1) (P : pv_R) (h1 : r_ch a n (r_nx a n q) = 123 → pv_go rq_T37 3 (pv_call rq_mt (d + 3)) P (32, tL k p, [], rs (upd m r_at (nI (r_nx a n q + 1))) a)) (h2 : ¬ r_ch a n (r_nx a n q) = 123 → pv_go rq_T37 3 (pv_call rq_mt (d + 3)) P (32, tL k p, [], rs (upd (upd m r_at (nI (r_nx a n q))) r_wrong (nI (r_nx a n q))) a)) : pv_go rq_T37 3 (pv_call rq_mt (d + 3)) P (26, tL k p, [], rs m a) := by
  refine pv_run [32] 20 ?_
  exact rc_take d m a hn hq hat hsz 123 _ (fun q => absurd hw q) (fun _ e => h1 e) (fun _ e => h2 e)
set_option maxRecDepth 100000 in
theorem t37_26_no (d : Nat) (m : Nat → Int32) (a : Nat → Nat → Int32) {k p : Nat} (hw : ¬ m r_wrong = -1) (P : pv_R) (h : pv_go rq_T37 3 (pv_call rq_mt (d + 3)) P (32, tL k p, [], rs m a)) : pv_go rq_T37 3 (pv_call rq_mt (d + 3)) P (26, tL k p, [], rs m a) := by
  refine pv_run [32] 20 ?_
  exact rc_take_no d m a hw 123 _ h
set_option maxRecDepth 100000 in
theorem t37_0 (d : Nat) (m : Nat → Int32) (a : Nat → Nat → Int32) {k p x : Nat} (hk : k < 24) (hst : a r_state k = nI x) (hx : x < 10) (P : pv_R) (h0 : x = 0 → pv_go rq_T37 3 (pv_call rq_mt d) P (9, tL k p, [], rs m a)) (h1 : ¬ x = 0 → pv_go rq_T37 3 (pv_call rq_mt d) P (45, tL k p, [], rs m a)) : pv_go rq_T37 3 (pv_call rq_mt d) P (0, tL k p, [], rs m a) := by
  have i1 : vp_in (nI k) 24 := vp_in_nI hk (by decide)
  have c1 : (nI k).toNatClampNeg = k := nI_clamp (by omega)
  have f1 : a 38 (nI k).toNatClampNeg = nI x := by rw [c1]; exact hst
  refine pv_run [9, 45] 40 ?_
  refine And.intro i1 ?_
  refine And.intro (fun q => h0 ?_) (fun q => h1 (fun e => q ?_))
  · exact (nI_eq (a := x) (b := 0) (by omega) (by omega)).mp (f1.symm.trans q)
  · exact f1.trans ((nI_eq (b := 0) (by omega) (by omega)).mpr e)
set_option maxRecDepth 100000 in
theorem t37_32 (d : Nat) (m : Nat → Int32) (a : Nat → Nat → Int32) {k p : Nat} (hk : k < 24) (P : pv_R) (h : P none (rs (upd m r_isCase 0) (up2 a r_state k 1))) : pv_go rq_T37 3 (pv_call rq_mt d) P (32, tL k p, [], rs m a) := by
  have i1 : vp_in (nI k) 24 := vp_in_nI hk (by decide)
  have c1 : (nI k).toNatClampNeg = k := nI_clamp (by omega)
  refine pv_run [] 40 ?_
  refine And.intro i1 ?_
  refine And.intro (Or.inl rfl) ?_
  rw [← c1] at h
  exact h
set_option maxRecDepth 100000 in
theorem t37_45 (d : Nat) (m : Nat → Int32) (a : Nat → Nat → Int32) {n q k p x : Nat} {o e : Int32} (hn : n ≤ 240) (hq : q ≤ n) (hat : m r_at = nI q) (hsz : m r_size = nI n) (hw : m r_wrong = -1) (hk : k < 24) (hst : a r_state k = nI x) (hx : x < 10) (hp : p < 260) (ho : a r_hasOther p = o) (ho2 : o = 0 ∨ o = 1) (he : m r_isCase = e) (he2 : e = 0 ∨ e = 1) (P : pv_R)
    (h1 : r_ch a n (r_nx a n q) = 125 → pv_call rq_mt (d + 3) rq_m_R_finish [.ref 0] (rs (upd (upd m r_at (nI (r_nx a n q + 1))) r_isCase 0) (up2 a r_tailMarked p e)) (noneP P))
    (h2 : (r_ch a n (r_nx a n q) = 76 ∨ (r_ch a n (r_nx a n q) = 79 ∧ o = 0)) → r_ch a n (r_nx a n (r_nx a n q + 1)) = 58 → P none (rs (upd (upd m r_at (nI (r_nx a n (r_nx a n q + 1) + 1))) r_isCase 1) (up2 (up2 a r_hasOther p (if ¬ o = 0 ∨ r_ch a n (r_nx a n q) = 79 then 1 else 0)) r_state k 2)))
    (h3 : (r_ch a n (r_nx a n q) = 76 ∨ (r_ch a n (r_nx a n q) = 79 ∧ o = 0)) → ¬ r_ch a n (r_nx a n (r_nx a n q + 1)) = 58 → P none (rs (upd (upd (upd m r_at (nI (r_nx a n (r_nx a n q + 1)))) r_wrong (nI (r_nx a n (r_nx a n q + 1)))) r_isCase 1) (up2 (up2 a r_hasOther p (if ¬ o = 0 ∨ r_ch a n (r_nx a n q) = 79 then 1 else 0)) r_state k 2)))
    (h4 : ¬ r_ch a n (r_nx a n q) = 125 → ¬ (r_ch a n (r_nx a n q) = 76 ∨ (r_ch a n (r_nx a n q) = 79 ∧ o = 0)) → x = 1 → P none (rs (upd (upd m r_at (nI (r_nx a n q))) r_wrong (nI (r_nx a n q))) a))
    (h5 : ¬ r_ch a n (r_nx a n q) = 125 → ¬ (r_ch a n (r_nx a n q) = 76 ∨ (r_ch a n (r_nx a n q) = 79 ∧ o = 0)) → ¬ x = 1 → pv_call rq_mt (d + 3) rq_m_R_readStmt [.ref 0, .int 1, .int 0] (rs (upd m r_at (nI (r_nx a n q))) a) (noneP P)) : pv_go rq_T37 3 (pv_call rq_mt (d + 3)) P (45, tL k p, [], rs m a) := by
  have i1 : vp_in (nI k) 24 := vp_in_nI hk (by decide)
  have c1 : (nI k).toNatClampNeg = k := nI_clamp (by omega)
  have i2 : vp_in (nI p) 260 := vp_in_nI hp (by decide)
  have c2 : (nI p).toNatClampNeg = p := nI_clamp (by omega)
  have f1 : a 38 (nI k).toNatClampNeg = nI x := by rw [c1]; exact hst
  have f2 : a 14 (nI p).toNatClampNeg = o := by rw [c2]; exact ho
  obtain ⟨l1, l2⟩ := r_nx_le (a := a) hq
  have hnn : r_nx a n (r_nx a n q) = r_nx a n q := r_nx_nx hq
  refine pv_run [50] 40 ?_
  refine rc_here (d + 1) m a hn hq hat hsz _ ?_
  have hlt : (r_ch a n (r_nx a n q) = 76 ∨ (r_ch a n (r_nx a n q) = 79 ∧ o = 0)) → r_nx a n q < n := by
    intro hc
    refine Decidable.byContradiction fun hq => ?_
    unfold r_ch at hc
    rw [if_neg hq] at hc
    rcases hc with hc | hc
    · exact absurd hc (by decide)
    · exact absurd hc.1 (by decide)
  generalize r_nx a n q = q0 at *
  generalize r_ch a n q0 = c at *
  show pv_go rq_T37 3 (pv_call rq_mt (d + 3)) P (50, tL k p ++ [(3, .int c)], [], rs (upd m r_at (nI q0)) a)
  have mk : (c = 76 ∨ (c = 79 ∧ o = 0)) → pv_go rq_T37 3 (pv_call rq_mt (d + 3)) P (109, tL k p ++ [(3, .int c)], [], rs (upd m r_at (nI q0)) a) := by
    intro hc
    have h2 := h2 hc
    have h3 := h3 hc
    have hq0 := hlt hc
    have nx : ∀ y : Int32, y = (if ¬ o = 0 ∨ c = 79 then 1 else 0) → (y = 0 ∨ y = 1) → pv_go rq_T37 3 (pv_call rq_mt (d + 3)) P (134, tL k p ++ [(3, .int c)], [.int y, .int (nI p), .ref 13], rs (upd m r_at (nI q0)) a) := by
      intro y hy hy2
      rw [← hy] at h2 h3
      refine pv_run [151] 40 ?_
      refine And.intro (And.intro i2 hy2) ?_
      show pv_call rq_mt (d + 3) 9 [.ref 0, .int 58] (rs (upd (upd m r_at (nI q0)) r_at (nI q0 + 1)) (up2 a r_hasOther (nI p).toNatClampNeg y)) _
      rw [c2, upd_upd, nI_1]
      have tl : ∀ m', P none (rs (upd m' r_isCase 1) (up2 (up2 a r_hasOther p y) r_state k 2)) → pv_go rq_T37 3 (pv_call rq_mt (d + 3)) P (151, tL k p ++ [(3, .int c)], [], rs m' (up2 a r_hasOther p y)) := by
        intro m' hm'
        refine pv_run [] 40 ?_
        refine And.intro (Or.inr rfl) ?_
        refine And.intro i1 ?_
        rw [← c1] at hm'
        exact hm'
      refine rc_take d (upd m r_at (nI (q0 + 1))) (up2 a r_hasOther p y) hn (by omega) rfl hsz 58 _ (fun q => absurd hw q) (fun _ e => ?_) (fun _ e => ?_)
      · rw [upd_upd]
        exact tl _ (h2 e)
      · rw [upd_upd]
        exact tl _ (h3 e)
    refine pv_run [134] 40 ?_
    refine And.intro i2 ?_
    refine And.intro (fun e1 => ?_) (fun e1 => ?_)
    · have e1 : o = 0 := f2.symm.trans e1
      refine And.intro (fun e2 => ?_) (fun e2 => ?_)
      · have e2 : c = 79 := e2
        exact nx 1 (by rw [if_pos (Or.inr e2)]) (Or.inr rfl)
      · have e2 : ¬ c = 79 := e2
        exact nx 0 (by rw [if_neg (fun r => r.elim (fun r => r e1) e2)]) (Or.inl rfl)
    · have e1 : ¬ o = 0 := fun e => e1 (f2.trans e)
      exact nx 1 (by rw [if_pos (Or.inl e1)]) (Or.inr rfl)
  have ot : ¬ c = 125 → ¬ (c = 76 ∨ (c = 79 ∧ o = 0)) → pv_go rq_T37 3 (pv_call rq_mt (d + 3)) P (166, tL k p ++ [(3, .int c)], [], rs (upd m r_at (nI q0)) a) := by
    intro n1 n2
    refine pv_run [] 40 ?_
    refine And.intro i1 ?_
    refine And.intro (fun e1 => ?_) (fun e1 => ?_)
    · have e1 : x = 1 := (nI_eq (by omega) (by omega)).mp (f1.symm.trans e1)
      refine rc_failHere (d + 1) (upd m r_at (nI q0)) a hn l2 rfl hsz _ ?_
      rw [hnn, upd_upd, if_pos (show (upd m r_at (nI q0)) r_wrong = -1 from hw)]
      exact h4 n1 n2 e1
    · have e1 : ¬ x = 1 := fun e => e1 (f1.trans ((nI_eq (a := x) (b := 1) (by omega) (by omega)).mpr e))
      refine pv_call_cm rq_mt (d + 3) _ _ _ _ _ ?_ (h5 n1 n2 e1)
      intro o S hS
      obtain ⟨rfl, hS⟩ := hS
      exact hS
  refine pv_run [56, 109, 166] 40 ?_
  refine And.intro (fun e1 => ?_) (fun e1 => ?_)
  · have h1 := h1 e1
    show pv_go rq_T37 3 (pv_call rq_mt (d + 3)) P (56, tL k p ++ [(3, .int c)], [], rs (upd m r_at (nI q0)) a)
    refine pv_run [] 40 ?_
    refine And.intro (And.intro i2 ?_) ?_
    · show m 41 = 0 ∨ m 41 = 1
      rw [show m 41 = e from he]
      exact he2
    refine And.intro (Or.inl rfl) ?_
    show pv_call rq_mt (d + 3) 31 [.ref 0] (rs (upd (upd (upd m r_at (nI q0)) r_at (nI q0 + 1)) r_isCase 0) (up2 a r_tailMarked (nI p).toNatClampNeg (m 41))) _
    rw [c2, upd_upd, nI_1, show m 41 = e from he]
    refine pv_call_cm rq_mt (d + 3) _ _ _ _ _ ?_ h1
    intro o S hS
    obtain ⟨rfl, hS⟩ := hS
    exact hS
  · have e1 : ¬ c = 125 := e1
    refine And.intro (fun e2 => ?_) (fun e2 => ?_)
    · exact mk (Or.inl e2)
    · have e2 : ¬ c = 76 := e2
      refine And.intro (fun e3 => ?_) (fun e3 => ?_)
      · have e3 : c = 79 := e3
        refine And.intro i2 ?_
        refine And.intro (fun e4 => ?_) (fun e4 => ?_)
        · exact mk (Or.inr ⟨e3, f2.symm.trans e4⟩)
        · exact ot e1 (fun r => r.elim e2 (fun r => e4 (f2.trans r.2)))
      · have e3 : ¬ c = 79 := e3
        exact ot e1 (fun r => r.elim e2 (fun r => e3 r.1))
