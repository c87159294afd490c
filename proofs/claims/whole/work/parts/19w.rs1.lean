theorem rc_take_no (d : Nat) (m : Nat → Int32) (a : Nat → Nat → Int32) (hw : ¬ m r_wrong = -1) (c : Int32) (P : pv_R) (h : P none (rs m a)) : pv_call rq_mt (d + 3) rq_m_R_take [.ref 0, .int c] (rs m a) P := by
  refine pv_call_of rfl rfl rfl (pv_run [] 50 ?_)
  refine rc_isRight (d + 1) m a _ ?_
  rw [if_neg hw]
  refine And.intro (fun _ => ?_) (fun c1 => absurd rfl c1)
  exact h
theorem rc_readPart_ok (d : Nat) (m : Nat → Int32) (a : Nat → Nat → Int32) (hw : m r_wrong = -1) (st : Int32) (P : pv_R) (h : pv_call rq_mt (d + 1) rq_m_R_readE [.ref 0, .int st] (rs m a) (fun o S => (∃ r, o = some (.int r)) ∧ P none S)) : pv_call rq_mt (d + 2) rq_m_R_readPart [.ref 0, .int st] (rs m a) P := by
  refine pv_call_of rfl rfl rfl (pv_run [] 50 ?_)
  refine rc_isRight d m a _ ?_
  rw [if_pos hw]
  refine And.intro (fun q => absurd q (by decide)) (fun _ => ?_)
  refine pv_call_cm rq_mt (d + 1) _ _ _ _ _ ?_ h
  intro o S hS
  obtain ⟨⟨r, rfl⟩, hS⟩ := hS
  exact hS
theorem rc_readPart_no (d : Nat) (m : Nat → Int32) (a : Nat → Nat → Int32) (hw : ¬ m r_wrong = -1) (st : Int32) (P : pv_R) (h : P none (rs m a)) : pv_call rq_mt (d + 2) rq_m_R_readPart [.ref 0, .int st] (rs m a) P := by
  refine pv_call_of rfl rfl rfl (pv_run [] 50 ?_)
  refine rc_isRight d m a _ ?_
  rw [if_neg hw]
  refine And.intro (fun _ => ?_) (fun q => absurd rfl q)
  exact h
theorem rc_readBody_ok (d : Nat) (m : Nat → Int32) (a : Nat → Nat → Int32) (hw : m r_wrong = -1) (P : pv_R) (h : pv_call rq_mt (d + 1) rq_m_R_readStmt [.ref 0, .int 0, .int 0] (rs m a) (fun o S => o = none ∧ P none S)) : pv_call rq_mt (d + 2) rq_m_R_readBody [.ref 0] (rs m a) P := by
  refine pv_call_of rfl rfl rfl (pv_run [] 50 ?_)
  refine rc_isRight d m a _ ?_
  rw [if_pos hw]
  refine And.intro (fun q => absurd q (by decide)) (fun _ => ?_)
  refine pv_call_cm rq_mt (d + 1) _ _ _ _ _ ?_ h
  intro o S hS
  obtain ⟨rfl, hS⟩ := hS
  exact hS
theorem rc_readBody_no (d : Nat) (m : Nat → Int32) (a : Nat → Nat → Int32) (hw : ¬ m r_wrong = -1) (P : pv_R) (h : P none (rs m a)) : pv_call rq_mt (d + 2) rq_m_R_readBody [.ref 0] (rs m a) P := by
  refine pv_call_of rfl rfl rfl (pv_run [] 50 ?_)
  refine rc_isRight d m a _ ?_
  rw [if_neg hw]
  refine And.intro (fun _ => ?_) (fun q => absurd rfl q)
  exact h
abbrev isEc (c : Int32) : Prop := (97 ≤ c ∧ c ≤ 122) ∨ c = 48 ∨ c = 49 ∨ c = 35 ∨ c = 33 ∨ c = 40
/-- a sign with which a stmt begins (g: one that gives a variable may stand there) -/
abbrev kn (g c : Int32) : Prop := c = 123 ∨ (50 ≤ c ∧ c ≤ 57) ∨ c = 73 ∨ c = 87 ∨ c = 68 ∨ c = 70 ∨ c = 83 ∨ c = 84 ∨ c = 66 ∨ c = 67 ∨ c = 82 ∨ c = 88 ∨ (97 ≤ c ∧ c ≤ 122) ∨ c = 48 ∨ c = 49 ∨ c = 35 ∨ c = 33 ∨ c = 40 ∨ (¬ g = 0 ∧ (c = 36 ∨ c = 37))
abbrev sL3 (g pt c : Int32) : pv_L := [(0, .ref 0), (1, .int g), (2, .int pt), (3, .int c)]
abbrev sL4 (g pt c k : Int32) : pv_L := [(0, .ref 0), (1, .int g), (2, .int pt), (3, .int c), (4, .int k)]
abbrev sL5 (g pt c k e : Int32) : pv_L := [(0, .ref 0), (1, .int g), (2, .int pt), (3, .int c), (4, .int k), (5, .int e)]
abbrev sL6 (g pt c k e : Int32) (b : Int32) : pv_L := [(0, .ref 0), (1, .int g), (2, .int pt), (3, .int c), (4, .int k), (5, .int e), (6, .int b)]
set_option maxRecDepth 100000 in
theorem rs_kn (d : Nat) (S : pv_S) (g pt c : Int32) (P : pv_R) (h1 : kn g c → pv_go rq_T26 3 (pv_call rq_mt (d + 1)) P (138, sL4 g pt c 1, [], S)) (h0 : ¬ kn g c → pv_go rq_T26 3 (pv_call rq_mt (d + 1)) P (138, sL4 g pt c 0, [], S)) : pv_go rq_T26 3 (pv_call rq_mt (d + 1)) P (5, sL3 g pt c, [], S) := by
  have y : kn g c → pv_go rq_T26 3 (pv_call rq_mt (d + 1)) P (131, sL3 g pt c, [], S) := by
    intro hq
    refine pv_run [138] 20 ?_
    exact h1 hq
  have z : ¬ kn g c → pv_go rq_T26 3 (pv_call rq_mt (d + 1)) P (135, sL3 g pt c, [], S) := by
    intro hq
    refine pv_run [138] 20 ?_
    exact h0 hq
  refine pv_run [131, 135] 120 ?_
  refine And.intro (fun q0 => y (Or.inl (q0))) (fun q0 => ?_)
  refine rc_isLabel d S c _ ?_
  by_cases q1 : 50 ≤ c ∧ c ≤ 57
  · rw [if_pos q1]
    exact And.intro (fun q => absurd q (by decide)) (fun _ => y (Or.inr (Or.inl (q1))))
  rw [if_neg q1]
  refine And.intro (fun _ => ?_) (fun q => absurd rfl q)
  refine And.intro (fun q2 => y (Or.inr (Or.inr (Or.inl (q2))))) (fun q2 => ?_)
  refine And.intro (fun q3 => y (Or.inr (Or.inr (Or.inr (Or.inl (q3)))))) (fun q3 => ?_)
  refine And.intro (fun q4 => y (Or.inr (Or.inr (Or.inr (Or.inr (Or.inl (q4))))))) (fun q4 => ?_)
  refine And.intro (fun q5 => y (Or.inr (Or.inr (Or.inr (Or.inr (Or.inr (Or.inl (q5)))))))) (fun q5 => ?_)
  refine And.intro (fun q6 => y (Or.inr (Or.inr (Or.inr (Or.inr (Or.inr (Or.inr (Or.inl (q6))))))))) (fun q6 => ?_)
  refine And.intro (fun q7 => y (Or.inr (Or.inr (Or.inr (Or.inr (Or.inr (Or.inr (Or.inr (Or.inl (q7)))))))))) (fun q7 => ?_)
  refine And.intro (fun q8 => y (Or.inr (Or.inr (Or.inr (Or.inr (Or.inr (Or.inr (Or.inr (Or.inr (Or.inl (q8))))))))))) (fun q8 => ?_)
  refine And.intro (fun q9 => y (Or.inr (Or.inr (Or.inr (Or.inr (Or.inr (Or.inr (Or.inr (Or.inr (Or.inr (Or.inl (q9)))))))))))) (fun q9 => ?_)
  refine And.intro (fun q10 => y (Or.inr (Or.inr (Or.inr (Or.inr (Or.inr (Or.inr (Or.inr (Or.inr (Or.inr (Or.inr (Or.inl (q10))))))))))))) (fun q10 => ?_)
  refine And.intro (fun q11 => y (Or.inr (Or.inr (Or.inr (Or.inr (Or.inr (Or.inr (Or.inr (Or.inr (Or.inr (Or.inr (Or.inr (Or.inl (q11)))))))))))))) (fun q11 => ?_)
  refine rc_isName d S c _ ?_
  by_cases q12 : 97 ≤ c ∧ c ≤ 122
  · rw [if_pos q12]
    exact And.intro (fun q => absurd q (by decide)) (fun _ => y (Or.inr (Or.inr (Or.inr (Or.inr (Or.inr (Or.inr (Or.inr (Or.inr (Or.inr (Or.inr (Or.inr (Or.inr (Or.inl (q12)))))))))))))))
  rw [if_neg q12]
  refine And.intro (fun _ => ?_) (fun q => absurd rfl q)
  refine And.intro (fun q13 => y (Or.inr (Or.inr (Or.inr (Or.inr (Or.inr (Or.inr (Or.inr (Or.inr (Or.inr (Or.inr (Or.inr (Or.inr (Or.inr (Or.inl (q13)))))))))))))))) (fun q13 => ?_)
  refine And.intro (fun q14 => y (Or.inr (Or.inr (Or.inr (Or.inr (Or.inr (Or.inr (Or.inr (Or.inr (Or.inr (Or.inr (Or.inr (Or.inr (Or.inr (Or.inr (Or.inl (q14))))))))))))))))) (fun q14 => ?_)
  refine And.intro (fun q15 => y (Or.inr (Or.inr (Or.inr (Or.inr (Or.inr (Or.inr (Or.inr (Or.inr (Or.inr (Or.inr (Or.inr (Or.inr (Or.inr (Or.inr (Or.inr (Or.inl (q15)))))))))))))))))) (fun q15 => ?_)
  refine And.intro (fun q16 => y (Or.inr (Or.inr (Or.inr (Or.inr (Or.inr (Or.inr (Or.inr (Or.inr (Or.inr (Or.inr (Or.inr (Or.inr (Or.inr (Or.inr (Or.inr (Or.inr (Or.inl (q16))))))))))))))))))) (fun q16 => ?_)
  refine And.intro (fun q17 => y (Or.inr (Or.inr (Or.inr (Or.inr (Or.inr (Or.inr (Or.inr (Or.inr (Or.inr (Or.inr (Or.inr (Or.inr (Or.inr (Or.inr (Or.inr (Or.inr (Or.inr (Or.inl (q17)))))))))))))))))))) (fun q17 => ?_)
  refine And.intro (fun q18 => z (fun r => r.elim q0 (fun r => r.elim q1 (fun r => r.elim q2 (fun r => r.elim q3 (fun r => r.elim q4 (fun r => r.elim q5 (fun r => r.elim q6 (fun r => r.elim q7 (fun r => r.elim q8 (fun r => r.elim q9 (fun r => r.elim q10 (fun r => r.elim q11 (fun r => r.elim q12 (fun r => r.elim q13 (fun r => r.elim q14 (fun r => r.elim q15 (fun r => r.elim q16 (fun r => r.elim q17 (fun r => r.1 q18)))))))))))))))))))) (fun q18 => ?_)
  refine And.intro (fun q19 => y (Or.inr (Or.inr (Or.inr (Or.inr (Or.inr (Or.inr (Or.inr (Or.inr (Or.inr (Or.inr (Or.inr (Or.inr (Or.inr (Or.inr (Or.inr (Or.inr (Or.inr (Or.inr (⟨q18, Or.inl q19⟩)))))))))))))))))))) (fun q19 => ?_)
  refine And.intro (fun q20 => y (Or.inr (Or.inr (Or.inr (Or.inr (Or.inr (Or.inr (Or.inr (Or.inr (Or.inr (Or.inr (Or.inr (Or.inr (Or.inr (Or.inr (Or.inr (Or.inr (Or.inr (Or.inr (⟨q18, Or.inr q20⟩)))))))))))))))))))) (fun q20 => z (fun r => r.elim q0 (fun r => r.elim q1 (fun r => r.elim q2 (fun r => r.elim q3 (fun r => r.elim q4 (fun r => r.elim q5 (fun r => r.elim q6 (fun r => r.elim q7 (fun r => r.elim q8 (fun r => r.elim q9 (fun r => r.elim q10 (fun r => r.elim q11 (fun r => r.elim q12 (fun r => r.elim q13 (fun r => r.elim q14 (fun r => r.elim q15 (fun r => r.elim q16 (fun r => r.elim q17 (fun r => r.2.elim q19 q20))))))))))))))))))))
set_option maxRecDepth 100000 in
theorem rs_e (d : Nat) (S : pv_S) (g pt c k : Int32) (P : pv_R) (h1 : isEc c → pv_go rq_T26 3 (pv_call rq_mt (d + 1)) P (201, sL5 g pt c k 1, [], S)) (h0 : ¬ isEc c → pv_go rq_T26 3 (pv_call rq_mt (d + 1)) P (201, sL5 g pt c k 0, [], S)) : pv_go rq_T26 3 (pv_call rq_mt (d + 1)) P (157, sL4 g pt c k, [], S) := by
  have y : isEc c → pv_go rq_T26 3 (pv_call rq_mt (d + 1)) P (194, sL4 g pt c k, [], S) := by
    intro hq
    refine pv_run [201] 20 ?_
    exact h1 hq
  have z : ¬ isEc c → pv_go rq_T26 3 (pv_call rq_mt (d + 1)) P (198, sL4 g pt c k, [], S) := by
    intro hq
    refine pv_run [201] 20 ?_
    exact h0 hq
  refine pv_run [194, 198] 60 ?_
  refine rc_isName d S c _ ?_
  by_cases q0 : 97 ≤ c ∧ c ≤ 122
  · rw [if_pos q0]
    exact And.intro (fun q => absurd q (by decide)) (fun _ => y (Or.inl q0))
  rw [if_neg q0]
  refine And.intro (fun _ => ?_) (fun q => absurd rfl q)
  refine And.intro (fun q1 => y (Or.inr (Or.inl (q1)))) (fun q1 => ?_)
  refine And.intro (fun q2 => y (Or.inr (Or.inr (Or.inl (q2))))) (fun q2 => ?_)
  refine And.intro (fun q3 => y (Or.inr (Or.inr (Or.inr (Or.inl (q3)))))) (fun q3 => ?_)
  refine And.intro (fun q4 => y (Or.inr (Or.inr (Or.inr (Or.inr (Or.inl (q4))))))) (fun q4 => ?_)
  refine And.intro (fun q5 => y (Or.inr (Or.inr (Or.inr (Or.inr (Or.inr (q5))))))) (fun q5 => z (fun r => r.elim q0 (fun r => r.elim q1 (fun r => r.elim q2 (fun r => r.elim q3 (fun r => r.elim q4 q5))))))
/-- the rows behind a new stmt -/
def rsA (a : Nat → Nat → Int32) (b : Nat) (s f th o pt e : Int32) : Nat → Nat → Int32 := up2 (up2 (up2 (r_nodeA a b s f 1 th) r_around b o) r_part b pt) r_isMarked b e
set_option maxRecDepth 100000 in
/-- the new stmt's node -/
theorem rs_node (d : Nat) (m : Nat → Int32) (a : Nat → Nat → Int32) {b sc k x : Nat} (hsc2 : sc ≤ 12) (hsc : m r_scopes = nI sc) (hb : b < 260) (hnd : m r_nodes = nI b) (hk : k ≤ 20) (hop : m r_opened = nI k) (ho : 0 < k → a r_open (k - 1) = nI x) (e : Int32) (hcs : m r_isCase = e) (he01 : e = 0 ∨ e = 1) (g pt c f s : Int32) (P : pv_R) (h : pv_go rq_T26 3 (pv_call rq_mt (d + 2)) P (288, sL6 g pt c 1 f (nI b), [], rs (upd (upd m r_nodes (nI (b + 1))) r_isCase 0) (rsA a b s (m r_at) (thr (a r_scope) sc) (if k = 0 then -1 else nI x) pt e))) : pv_go rq_T26 3 (pv_call rq_mt (d + 2)) P (225, sL5 g pt c 1 f, [.int s, .ref 0], rs m a) := by
  refine pv_run [235] 20 ?_
  refine rc_node d m a hsc2 hsc hb hnd s (m r_at) 1 (Or.inr rfl) _ ?_
  have i1 : vp_in (nI b) 260 := vp_in_nI hb (by decide)
  have e1 : (nI b).toNatClampNeg = b := nI_clamp (by omega)
  have hop' : (upd m r_nodes (nI (b + 1))) 40 = nI k := hop
  have hcs' : (upd m r_nodes (nI (b + 1))) 41 = e := hcs
  have ho' : 0 < k → (r_nodeA a b s (m r_at) 1 (thr (a r_scope) sc)) r_open (k - 1) = nI x := ho
  unfold rsA at h
  generalize hm1 : upd m r_nodes (nI (b + 1)) = m1 at h hop' hcs' ⊢
  generalize r_nodeA a b s (m r_at) 1 (thr (a r_scope) sc) = a1 at h ho' ⊢
  show pv_go rq_T26 3 (pv_call rq_mt (d + 2)) P (235, sL6 g pt c 1 f (nI b), [], rs m1 a1)
  have fin : ∀ o : Int32, o = (if k = 0 then -1 else nI x) → pv_go rq_T26 3 (pv_call rq_mt (d + 2)) P (263, sL6 g pt c 1 f (nI b), [.int o, .int (nI b), .ref 4], rs m1 a1) := by
    intro o ho2
    rw [← ho2] at h
    refine pv_run [288] 40 ?_
    refine And.intro i1 ?_
    refine And.intro i1 ?_
    refine And.intro (And.intro i1 ?_) ?_
    · show m1 41 = 0 ∨ m1 41 = 1
      rw [hcs']
      exact he01
    refine And.intro (Or.inl rfl) ?_
    have h2 : pv_go rq_T26 3 (pv_call rq_mt (d + 2)) P (288, sL6 g pt c 1 f (nI b), [], rs (upd m1 r_isCase 0) (up2 (up2 (up2 a1 r_around (nI b).toNatClampNeg o) r_part (nI b).toNatClampNeg pt) r_isMarked (nI b).toNatClampNeg (m1 41))) := by rw [e1, hcs']; exact h
    exact h2
  refine pv_run [263] 40 ?_
  refine And.intro (fun q => ?_) (fun q => ?_)
  · have q : m1 40 ≤ 0 := q
    rw [hop', show (0 : Int32) = nI 0 from rfl, nI_leI (by omega) (by omega)] at q
    exact fin (-1) (by rw [if_pos (by omega)])
  · have q : ¬ m1 40 ≤ 0 := q
    rw [hop', show (0 : Int32) = nI 0 from rfl, nI_leI (by omega) (by omega)] at q
    have e2 : m1 40 - 1 = nI (k - 1) := by
      rw [hop', show k = k - 1 + 1 by omega, nI_pred]
      rfl
    have i2 : vp_in (m1 40 - 1) 24 := by rw [e2]; exact vp_in_nI (by omega) (by decide)
    refine And.intro i2 ?_
    refine fin _ ?_
    show a1 37 (m1 40 - 1).toNatClampNeg = _
    rw [e2, nI_clamp (by omega), if_neg (by omega)]
    exact ho' (by omega)
set_option maxRecDepth 100000 in
/-- a stmt's beginning, up to its own rows -/
theorem rc_rs (d : Nat) (m : Nat → Int32) (a : Nat → Nat → Int32) {n p b sc k x : Nat} (hn : n ≤ 240) (hp : p ≤ n) (hat : m r_at = nI p) (hsz : m r_size = nI n) (hw : m r_wrong = -1) (hsc2 : sc ≤ 12) (hsc : m r_scopes = nI sc) (hb : b < 260) (hnd : m r_nodes = nI b) (hk : k ≤ 20) (hop : m r_opened = nI k) (ho : 0 < k → a r_open (k - 1) = nI x) (e : Int32) (hcs : m r_isCase = e) (he01 : e = 0 ∨ e = 1) (g pt : Int32) (P : pv_R)
    (h0 : ¬ (kn g (r_ch a n (r_nx a n p)) ∧ k < 20) → P none (rs (upd (upd m r_at (nI (r_nx a n p))) r_wrong (nI (r_nx a n p))) a))
    (h1 : kn g (r_ch a n (r_nx a n p)) → k < 20 → pv_go rq_T26 3 (pv_call rq_mt (d + 2)) P (288, sL6 g pt (r_ch a n (r_nx a n p)) 1 (if isEc (r_ch a n (r_nx a n p)) then 1 else 0) (nI b), [], rs (upd (upd (upd m r_at (nI (r_nx a n p))) r_nodes (nI (b + 1))) r_isCase 0) (rsA a b (if isEc (r_ch a n (r_nx a n p)) then 59 else if 50 ≤ r_ch a n (r_nx a n p) ∧ r_ch a n (r_nx a n p) ≤ 57 then 58 else r_ch a n (r_nx a n p)) (nI (r_nx a n p)) (thr (a r_scope) sc) (if k = 0 then -1 else nI x) pt e))) : pv_call rq_mt (d + 3) rq_m_R_readStmt [.ref 0, .int g, .int pt] (rs m a) P := by
  obtain ⟨l1, l2⟩ := r_nx_le (a := a) hp
  have hnn : r_nx a n (r_nx a n p) = r_nx a n p := r_nx_nx hp
  refine pv_call_of rfl rfl rfl (pv_run [5] 50 ?_)
  refine rc_here d m a hn hp hat hsz _ ?_
  generalize r_nx a n p = q at *
  generalize r_ch a n q = c at *
  have bad : ¬ (kn g c ∧ k < 20) → ∀ L, pv_go rq_T26 3 (pv_call rq_mt (d + 2)) P (152, (0, .ref 0) :: L, [], rs (upd m r_at (nI q)) a) := by
    intro hb L
    refine pv_run [] 50 ?_
    refine rc_failHere d (upd m r_at (nI q)) a hn l2 rfl hsz _ ?_
    rw [hnn, upd_upd, if_pos (show (upd m r_at (nI q)) r_wrong = -1 from hw)]
    exact h0 hb
  show pv_go rq_T26 3 (pv_call rq_mt (d + 2)) P (5, sL3 g pt c, [], rs (upd m r_at (nI q)) a)
  refine rs_kn (d + 1) _ g pt c P (fun hkn => ?_) (fun hkn => ?_)
  · refine pv_run [152, 157] 50 ?_
    refine And.intro (fun q => absurd q (by decide)) (fun _ => ?_)
    refine And.intro (fun q1 => ?_) (fun q1 => ?_)
    · have q1 : m 40 < 20 := q1
      rw [show m 40 = nI k from hop, show (20 : Int32) = nI 20 from rfl, nI_ltI (by omega) (by omega)] at q1
      have h1 := h1 hkn q1
      refine rs_e (d + 1) _ g pt c 1 P (fun he => ?_) (fun he => ?_)
      · rw [if_pos he, if_pos he] at h1
        refine pv_run [225] 50 ?_
        refine And.intro (fun q => absurd q (by decide)) (fun _ => ?_)
        exact rs_node d (upd m r_at (nI q)) a hsc2 hsc hb hnd hk hop ho e hcs he01 g pt c 1 59 P h1
      · rw [if_neg he, if_neg he] at h1
        refine pv_run [225] 50 ?_
        refine And.intro (fun _ => ?_) (fun q => absurd rfl q)
        refine rc_isLabel (d + 1) _ c _ ?_
        by_cases hl : 50 ≤ c ∧ c ≤ 57
        · rw [if_pos hl] at h1 ⊢
          refine And.intro (fun q => absurd q (by decide)) (fun _ => ?_)
          exact rs_node d (upd m r_at (nI q)) a hsc2 hsc hb hnd hk hop ho e hcs he01 g pt c 0 58 P h1
        · rw [if_neg hl] at h1 ⊢
          refine And.intro (fun _ => ?_) (fun q => absurd rfl q)
          exact rs_node d (upd m r_at (nI q)) a hsc2 hsc hb hnd hk hop ho e hcs he01 g pt c 0 c P h1
    · have q1 : ¬ m 40 < 20 := q1
      rw [show m 40 = nI k from hop, show (20 : Int32) = nI 20 from rfl, nI_ltI (by omega) (by omega)] at q1
      exact bad (fun r => q1 r.2) _
  · refine pv_run [152, 157] 50 ?_
    refine And.intro (fun _ => ?_) (fun q => absurd rfl q)
    exact bad (fun r => hkn r.1) _
