set_option maxRecDepth 100000 in
theorem t38_x0 (d : Nat) (m : Nat → Int32) (a : Nat → Nat → Int32) {k p : Nat} (hk : k < 24) (hst : a r_state k = 0) (P : pv_R) (h : pv_go rq_T38 3 (pv_call rq_mt d) P (9, tL k p, [], rs m a)) : pv_go rq_T38 3 (pv_call rq_mt d) P (0, tL k p, [], rs m a) := by
  have i1 : vp_in (nI k) 24 := vp_in_nI hk (by decide)
  have c1 : (nI k).toNatClampNeg = k := nI_clamp (by omega)
  have f1 : a 38 (nI k).toNatClampNeg = 0 := by rw [c1]; exact hst
  refine pv_run [9] 40 ?_
  refine And.intro i1 ?_
  refine And.intro (fun _ => h) (fun q => absurd f1 q)
set_option maxRecDepth 100000 in
theorem t38_9_ok (d : Nat) (m : Nat → Int32) (a : Nat → Nat → Int32) {n q k p : Nat} (hn : n ≤ 240) (hq : q ≤ n) (hat : m r_at = nI q) (hsz : m r_size = nI n) (hw : m r_wrong = -1) (P : pv_R) (h1 : r_ch a n (r_nx a n q) = 123 → pv_go rq_T38 3 (pv_call rq_mt (d + 3)) P (15, tL k p, [], rs (upd m r_at (nI (r_nx a n q + 1))) a)) (h2 : ¬ r_ch a n (r_nx a n q) = 123 → pv_go rq_T38 3 (pv_call rq_mt (d + 3)) P (15, tL k p, [], rs (upd (upd m r_at (nI (r_nx a n q))) r_wrong (nI (r_nx a n q))) a)) : pv_go rq_T38 3 (pv_call rq_mt (d + 3)) P (9, tL k p, [], rs m a) := by
  refine pv_run [15] 20 ?_
  exact rc_take d m a hn hq hat hsz 123 _ (fun q => absurd hw q) (fun _ e => h1 e) (fun _ e => h2 e)
set_option maxRecDepth 100000 in
theorem t38_9_no (d : Nat) (m : Nat → Int32) (a : Nat → Nat → Int32) {k p : Nat} (hw : ¬ m r_wrong = -1) (P : pv_R) (h : pv_go rq_T38 3 (pv_call rq_mt (d + 3)) P (15, tL k p, [], rs m a)) : pv_go rq_T38 3 (pv_call rq_mt (d + 3)) P (9, tL k p, [], rs m a) := by
  refine pv_run [15] 20 ?_
  exact rc_take_no d m a hw 123 _ h
set_option maxRecDepth 100000 in
theorem t38_15 (d : Nat) (m : Nat → Int32) (a : Nat → Nat → Int32) {k p : Nat} (hk : k < 24) (P : pv_R) (h : P none (rs m (up2 a r_state k 1))) : pv_go rq_T38 3 (pv_call rq_mt d) P (15, tL k p, [], rs m a) := by
  have i1 : vp_in (nI k) 24 := vp_in_nI hk (by decide)
  have c1 : (nI k).toNatClampNeg = k := nI_clamp (by omega)
  refine pv_run [] 40 ?_
  refine And.intro i1 ?_
  rw [← c1] at h
  exact h
set_option maxRecDepth 100000 in
theorem t38_55 (d : Nat) (m : Nat → Int32) (a : Nat → Nat → Int32) {k p x : Nat} (hk : k < 24) (hst : a r_state k = nI x) (hx : x = 1 ∨ x = 3 ∨ x = 5) (P : pv_R) (h : pv_call rq_mt (d + 1) rq_m_R_readList [.ref 0, .int (nI (x / 2))] (rs m a) (fun o S => ∃ m' a', S = rs m' a' ∧ ((o = some (.int 0) ∧ P none S) ∨ (o = some (.int 1) ∧ a' r_state k = nI x ∧ P none (rs m' (up2 a' r_state k (nI (x + 1)))))))) : pv_go rq_T38 3 (pv_call rq_mt (d + 1)) P (55, tL k p, [], rs m a) := by
  have i1 : vp_in (nI k) 24 := vp_in_nI hk (by decide)
  have c1 : (nI k).toNatClampNeg = k := nI_clamp (by omega)
  have f1 : a 38 (nI k).toNatClampNeg = nI x := by rw [c1]; exact hst
  have dv : nI x / 2 = nI (x / 2) := by rcases hx with rfl | rfl | rfl <;> decide
  refine pv_run [] 40 ?_
  refine And.intro i1 ?_
  refine And.intro (by decide) ?_
  show pv_call rq_mt (d + 1) 32 [.ref 0, .int (a 38 (nI k).toNatClampNeg / 2)] (rs m a) _
  rw [f1, dv]
  refine pv_call_cm rq_mt (d + 1) _ _ _ _ _ ?_ h
  intro o S hS
  obtain ⟨m', a', rfl, hS⟩ := hS
  rcases hS with ⟨rfl, hS⟩ | ⟨rfl, hs2, hS⟩
  · refine And.intro (fun _ => ?_) (fun q => absurd rfl q)
    exact hS
  · refine And.intro (fun q => absurd q (by decide)) (fun _ => ?_)
    refine And.intro i1 ?_
    refine And.intro i1 ?_
    have h2 : P none (rs m' (up2 a' r_state (nI k).toNatClampNeg (a' 38 (nI k).toNatClampNeg + 1))) := by rw [st_in hs2 hk]; exact hS
    exact h2
set_option maxRecDepth 100000 in
/-- in a { } of a T -/
theorem t38_list (d : Nat) (m : Nat → Int32) (a : Nat → Nat → Int32) {k p x : Nat} (hk : k < 24) (hst : a r_state k = nI x) (hx : x = 1 ∨ x = 3 ∨ x = 5) (P : pv_R) (h : pv_call rq_mt (d + 1) rq_m_R_readList [.ref 0, .int (nI (x / 2))] (rs m a) (fun o S => ∃ m' a', S = rs m' a' ∧ ((o = some (.int 0) ∧ P none S) ∨ (o = some (.int 1) ∧ a' r_state k = nI x ∧ P none (rs m' (up2 a' r_state k (nI (x + 1)))))))) : pv_go rq_T38 3 (pv_call rq_mt (d + 1)) P (0, tL k p, [], rs m a) := by
  have i1 : vp_in (nI k) 24 := vp_in_nI hk (by decide)
  have c1 : (nI k).toNatClampNeg = k := nI_clamp (by omega)
  have f1 : a 38 (nI k).toNatClampNeg = nI x := by rw [c1]; exact hst
  have g := t38_55 d m a (p := p) hk hst hx P h
  have nz : ¬ nI x = 0 := fun e => by
    have e : nI x = nI 0 := e
    rw [nI_eq (by omega) (by omega)] at e
    omega
  have n1 : ∀ y : Nat, y < 10 → nI x = nI y → x = y := fun y hy e => (nI_eq (by omega) (by omega)).mp e
  refine pv_run [55] 40 ?_
  refine And.intro i1 ?_
  refine And.intro (fun q => absurd (f1.symm.trans q) nz) (fun _ => ?_)
  refine And.intro i1 ?_
  refine And.intro (fun _ => g) (fun q1 => ?_)
  refine And.intro i1 ?_
  refine And.intro (fun _ => g) (fun q3 => ?_)
  refine And.intro i1 ?_
  refine And.intro (fun _ => g) (fun q5 => ?_)
  exfalso
  rcases hx with rfl | rfl | rfl
  · exact q1 f1
  · exact q3 f1
  · exact q5 f1
set_option maxRecDepth 100000 in
theorem t38_83 (d : Nat) (m : Nat → Int32) (a : Nat → Nat → Int32) {k p x : Nat} (hk : k < 24) (hst : a r_state k = nI x) (hx : x = 2 ∨ x = 4 ∨ x = 6) (P : pv_R) (h2 : x = 2 → pv_go rq_T38 3 (pv_call rq_mt d) P (93, tL k p, [], rs m a)) (h4 : x = 4 → pv_go rq_T38 3 (pv_call rq_mt d) P (197, tL k p, [], rs m a)) (h6 : x = 6 → pv_go rq_T38 3 (pv_call rq_mt d) P (239, tL k p, [], rs m a)) : pv_go rq_T38 3 (pv_call rq_mt d) P (0, tL k p, [], rs m a) := by
  have i1 : vp_in (nI k) 24 := vp_in_nI hk (by decide)
  have c1 : (nI k).toNatClampNeg = k := nI_clamp (by omega)
  have f1 : a 38 (nI k).toNatClampNeg = nI x := by rw [c1]; exact hst
  have no : ∀ y : Nat, y < 10 → ¬ x = y → ¬ a 38 (nI k).toNatClampNeg = nI y := fun y hy hne e => hne ((nI_eq (by omega) (by omega)).mp (f1.symm.trans e))
  refine pv_run [93, 197, 239] 60 ?_
  refine And.intro i1 ?_
  refine And.intro (fun q => absurd q (no 0 (by decide) (by omega))) (fun _ => ?_)
  refine And.intro i1 ?_
  refine And.intro (fun q => absurd q (no 1 (by decide) (by omega))) (fun _ => ?_)
  refine And.intro i1 ?_
  refine And.intro (fun q => absurd q (no 3 (by decide) (by omega))) (fun _ => ?_)
  refine And.intro i1 ?_
  refine And.intro (fun q => absurd q (no 5 (by decide) (by omega))) (fun _ => ?_)
  refine And.intro i1 ?_
  refine And.intro (fun q => h2 ?_) (fun q2 => ?_)
  · exact (nI_eq (a := x) (b := 2) (by omega) (by omega)).mp (f1.symm.trans q)
  refine And.intro i1 ?_
  refine And.intro (fun q => h4 ?_) (fun q4 => h6 ?_)
  · exact (nI_eq (a := x) (b := 4) (by omega) (by omega)).mp (f1.symm.trans q)
  · rcases hx with rfl | rfl | rfl
    · exact absurd f1 q2
    · exact absurd f1 q4
    · rfl
set_option maxRecDepth 100000 in
theorem t38_239 (d : Nat) (m : Nat → Int32) (a : Nat → Nat → Int32) (k p : Nat) (P : pv_R) (h : pv_call rq_mt (d + 1) rq_m_R_finish [.ref 0] (rs m a) (noneP P)) : pv_go rq_T38 3 (pv_call rq_mt (d + 1)) P (239, tL k p, [], rs m a) := by
  refine pv_run [] 20 ?_
  refine pv_call_cm rq_mt (d + 1) _ _ _ _ _ ?_ h
  intro o S hS
  obtain ⟨rfl, hS⟩ := hS
  exact hS
set_option maxRecDepth 100000 in
theorem t38_197 (d : Nat) (m : Nat → Int32) (a : Nat → Nat → Int32) {n q k p : Nat} (hn : n ≤ 240) (hq : q ≤ n) (hat : m r_at = nI q) (hsz : m r_size = nI n) (hw : m r_wrong = -1) (hk : k < 24) (hp : p < 260) (P : pv_R)
    (h1 : r_ch a n (r_nx a n q) = 78 → r_ch a n (r_nx a n (r_nx a n q + 1)) = 123 → P none (rs (upd m r_at (nI (r_nx a n (r_nx a n q + 1) + 1))) (up2 (up2 a r_hasEnd p 1) r_state k 5)))
    (h2 : r_ch a n (r_nx a n q) = 78 → ¬ r_ch a n (r_nx a n (r_nx a n q + 1)) = 123 → P none (rs (upd (upd m r_at (nI (r_nx a n (r_nx a n q + 1)))) r_wrong (nI (r_nx a n (r_nx a n q + 1)))) (up2 (up2 a r_hasEnd p 1) r_state k 5)))
    (h3 : ¬ r_ch a n (r_nx a n q) = 78 → pv_go rq_T38 3 (pv_call rq_mt (d + 3)) P (239, tL k p, [], rs (upd m r_at (nI (r_nx a n q))) a)) : pv_go rq_T38 3 (pv_call rq_mt (d + 3)) P (197, tL k p, [], rs m a) := by
  have i1 : vp_in (nI k) 24 := vp_in_nI hk (by decide)
  have c1 : (nI k).toNatClampNeg = k := nI_clamp (by omega)
  have i2 : vp_in (nI p) 260 := vp_in_nI hp (by decide)
  have c2 : (nI p).toNatClampNeg = p := nI_clamp (by omega)
  obtain ⟨l1, l2⟩ := r_nx_le (a := a) hq
  have hlt : r_ch a n (r_nx a n q) = 78 → r_nx a n q < n := by
    intro hc
    refine Decidable.byContradiction fun hq => ?_
    unfold r_ch at hc
    rw [if_neg hq] at hc
    exact absurd hc (by decide)
  refine pv_run [206, 239] 40 ?_
  refine rc_here (d + 1) m a hn hq hat hsz _ ?_
  generalize r_nx a n q = q0 at *
  refine And.intro (fun e => ?_) (fun e => ?_)
  · have h1 := h1 e
    have h2 := h2 e
    have hq0 := hlt e
    show pv_go rq_T38 3 (pv_call rq_mt (d + 3)) P (206, tL k p, [], rs (upd m r_at (nI q0)) a)
    refine pv_run [229] 40 ?_
    refine And.intro (And.intro i2 (Or.inr rfl)) ?_
    show pv_call rq_mt (d + 3) 9 [.ref 0, .int 123] (rs (upd (upd m r_at (nI q0)) r_at (nI q0 + 1)) (up2 a r_hasEnd (nI p).toNatClampNeg 1)) _
    rw [c2, upd_upd, nI_1]
    have tl : ∀ m', P none (rs m' (up2 (up2 a r_hasEnd p 1) r_state k 5)) → pv_go rq_T38 3 (pv_call rq_mt (d + 3)) P (229, tL k p, [], rs m' (up2 a r_hasEnd p 1)) := by
      intro m' hm'
      refine pv_run [] 40 ?_
      refine And.intro i1 ?_
      rw [← c1] at hm'
      exact hm'
    refine rc_take d (upd m r_at (nI (q0 + 1))) (up2 a r_hasEnd p 1) hn (by omega) rfl hsz 123 _ (fun q => absurd hw q) (fun _ e => ?_) (fun _ e => ?_)
    · rw [upd_upd]
      exact tl _ (h1 e)
    · rw [upd_upd]
      exact tl _ (h2 e)
  · exact h3 e
set_option maxRecDepth 100000 in
theorem t38_93 (d : Nat) (m : Nat → Int32) (a : Nat → Nat → Int32) {n q k p : Nat} (hn : n ≤ 240) (hq : q ≤ n) (hat : m r_at = nI q) (hsz : m r_size = nI n) (hw : m r_wrong = -1) (hk : k < 24) (hp : p < 260) (P : pv_R)
    (h1 : (r_ch a n (r_nx a n q) = 75 ∨ r_ch a n (r_nx a n q) = 78) → r_ch a n (r_nx a n (r_nx a n q + 1)) = 123 → P none (rs (upd m r_at (nI (r_nx a n (r_nx a n q + 1) + 1))) (up2 (up2 (up2 a r_hasCatch p (if r_ch a n (r_nx a n q) = 75 then 1 else 0)) r_hasEnd p (if r_ch a n (r_nx a n q) = 78 then 1 else 0)) r_state k (if r_ch a n (r_nx a n q) = 75 then 3 else 5))))
    (h2 : (r_ch a n (r_nx a n q) = 75 ∨ r_ch a n (r_nx a n q) = 78) → ¬ r_ch a n (r_nx a n (r_nx a n q + 1)) = 123 → P none (rs (upd (upd m r_at (nI (r_nx a n (r_nx a n q + 1)))) r_wrong (nI (r_nx a n (r_nx a n q + 1)))) (up2 (up2 (up2 a r_hasCatch p (if r_ch a n (r_nx a n q) = 75 then 1 else 0)) r_hasEnd p (if r_ch a n (r_nx a n q) = 78 then 1 else 0)) r_state k (if r_ch a n (r_nx a n q) = 75 then 3 else 5))))
    (h3 : ¬ (r_ch a n (r_nx a n q) = 75 ∨ r_ch a n (r_nx a n q) = 78) → P none (rs (upd (upd m r_at (nI (r_nx a n q))) r_wrong (nI (r_nx a n q))) a)) : pv_go rq_T38 3 (pv_call rq_mt (d + 3)) P (93, tL k p, [], rs m a) := by
  have i1 : vp_in (nI k) 24 := vp_in_nI hk (by decide)
  have c1 : (nI k).toNatClampNeg = k := nI_clamp (by omega)
  have i2 : vp_in (nI p) 260 := vp_in_nI hp (by decide)
  have c2 : (nI p).toNatClampNeg = p := nI_clamp (by omega)
  obtain ⟨l1, l2⟩ := r_nx_le (a := a) hq
  have hnn : r_nx a n (r_nx a n q) = r_nx a n q := r_nx_nx hq
  have hlt : (r_ch a n (r_nx a n q) = 75 ∨ r_ch a n (r_nx a n q) = 78) → r_nx a n q < n := by
    intro hc
    refine Decidable.byContradiction fun hq => ?_
    unfold r_ch at hc
    rw [if_neg hq] at hc
    exact absurd hc (by decide)
  refine pv_run [98] 40 ?_
  refine rc_here (d + 1) m a hn hq hat hsz _ ?_
  generalize r_nx a n q = q0 at *
  generalize r_ch a n q0 = c at *
  show pv_go rq_T38 3 (pv_call rq_mt (d + 3)) P (98, tL k p ++ [(3, .int c)], [], rs (upd m r_at (nI q0)) a)
  have mk : (c = 75 ∨ c = 78) → pv_go rq_T38 3 (pv_call rq_mt (d + 3)) P (110, tL k p ++ [(3, .int c)], [], rs (upd m r_at (nI q0)) a) := by
    intro hc
    have h1 := h1 hc
    have h2 := h2 hc
    have hq0 := hlt hc
    have s160 : ∀ m' a' (y z : Int32), P none (rs m' (up2 (up2 (up2 a r_hasCatch p y) r_hasEnd p z) r_state k (if c = 75 then 3 else 5))) → a' = up2 (up2 a r_hasCatch p y) r_hasEnd p z → pv_go rq_T38 3 (pv_call rq_mt (d + 3)) P (160, tL k p ++ [(3, .int c)], [], rs m' a') := by
      intro m' a' y z hP ha
      rw [← ha] at hP
      refine pv_run [] 40 ?_
      refine And.intro (fun e => ?_) (fun e => ?_)
      · rw [if_pos (show c = 75 from e)] at hP
        refine And.intro i1 ?_
        rw [← c1] at hP
        exact hP
      · rw [if_neg (show ¬ c = 75 from e)] at hP
        refine And.intro i1 ?_
        rw [← c1] at hP
        exact hP
    have s153 : ∀ y z : Int32, y = (if c = 75 then 1 else 0) → z = (if c = 78 then 1 else 0) → (z = 0 ∨ z = 1) → pv_go rq_T38 3 (pv_call rq_mt (d + 3)) P (153, tL k p ++ [(3, .int c)], [.int z, .int (nI p), .ref 15], rs (upd m r_at (nI (q0 + 1))) (up2 a r_hasCatch p y)) := by
      intro y z hy hz hz2
      rw [← hy, ← hz] at h1 h2
      refine pv_run [160] 40 ?_
      refine And.intro (And.intro i2 hz2) ?_
      show pv_call rq_mt (d + 3) 9 [.ref 0, .int 123] (rs (upd m r_at (nI (q0 + 1))) (up2 (up2 a r_hasCatch p y) r_hasEnd (nI p).toNatClampNeg z)) _
      rw [c2]
      refine rc_take d (upd m r_at (nI (q0 + 1))) (up2 (up2 a r_hasCatch p y) r_hasEnd p z) hn (by omega) rfl hsz 123 _ (fun q => absurd hw q) (fun _ e => ?_) (fun _ e => ?_)
      · rw [upd_upd]
        exact s160 _ _ y z (h1 e) rfl
      · rw [upd_upd]
        exact s160 _ _ y z (h2 e) rfl
    have s136 : ∀ y : Int32, y = (if c = 75 then 1 else 0) → (y = 0 ∨ y = 1) → pv_go rq_T38 3 (pv_call rq_mt (d + 3)) P (136, tL k p ++ [(3, .int c)], [.int y, .int (nI p), .ref 14], rs (upd m r_at (nI (q0 + 1))) a) := by
      intro y hy hy2
      refine pv_run [153] 40 ?_
      refine And.intro (And.intro i2 hy2) ?_
      have e2 : up2 a r_hasCatch (nI p).toNatClampNeg y = up2 a r_hasCatch p y := by rw [c2]
      refine And.intro (fun e => ?_) (fun e => ?_)
      · have g := s153 y 1 hy (by rw [if_pos (show c = 78 from e)]) (Or.inr rfl)
        rw [← e2] at g
        exact g
      · have g := s153 y 0 hy (by rw [if_neg (show ¬ c = 78 from e)]) (Or.inl rfl)
        rw [← e2] at g
        exact g
    refine pv_run [136] 40 ?_
    have e3 : upd m r_at (nI (q0 + 1)) = upd (upd m r_at (nI q0)) r_at (nI q0 + 1) := by rw [upd_upd, nI_1]
    rw [e3] at s136
    refine And.intro (fun e => ?_) (fun e => ?_)
    · exact s136 1 (by rw [if_pos (show c = 75 from e)]) (Or.inr rfl)
    · exact s136 0 (by rw [if_neg (show ¬ c = 75 from e)]) (Or.inl rfl)
  refine pv_run [110, 180] 40 ?_
  refine And.intro (fun e1 => mk (Or.inl e1)) (fun e1 => ?_)
  refine And.intro (fun e2 => mk (Or.inr e2)) (fun e2 => ?_)
  show pv_go rq_T38 3 (pv_call rq_mt (d + 3)) P (180, tL k p ++ [(3, .int c)], [], rs (upd m r_at (nI q0)) a)
  refine pv_run [] 40 ?_
  refine rc_failHere (d + 1) (upd m r_at (nI q0)) a hn l2 rfl hsz _ ?_
  rw [hnn, upd_upd, if_pos (show (upd m r_at (nI q0)) r_wrong = -1 from hw)]
  exact h3 (fun r => r.elim e1 e2)
/-- the names, all gone -/
def nmZ (f : Nat → Int32) : Nat → (Nat → Int32)
  | 0 => f
  | k + 1 => upd (nmZ f k) k (-1)
theorem nmZ_at (f : Nat → Int32) : ∀ k u, u < k → nmZ f k u = -1 := by
  intro k
  induction k with
  | zero => intro u hu; omega
  | succ k ih =>
    intro u hu
    show (if u = k then (-1 : Int32) else nmZ f k u) = -1
    by_cases e : u = k
    · rw [if_pos e]
    · rw [if_neg e]; exact ih u (by omega)
set_option maxRecDepth 100000 in
theorem rc_clear_loop (d : Nat) (m : Nat → Int32) (a : Nat → Nat → Int32) (P : pv_R) (h : P none (rs m (upa a r_named (nmZ (a r_named) 26)))) : ∀ (j i : Nat), i + j = 26 → pv_go rq_T3 3 (pv_call rq_mt d) P (22, [(0, .ref 0), (1, .int (nI i))], [], rs m (upa a r_named (nmZ (a r_named) i))) := by
  intro j
  induction j with
  | zero =>
    intro i hi
    have e : i = 26 := by omega
    subst e
    refine pv_run [] 40 ?_
    refine And.intro (fun _ => h) (fun q => absurd q (by decide))
  | succ j ih =>
    intro i hi
    have g := ih (i + 1) (by omega)
    have i1 : vp_in (nI i) 26 := vp_in_nI (by omega) (by decide)
    have c1 : (nI i).toNatClampNeg = i := nI_clamp (by omega)
    refine pv_run [22] 40 ?_
    refine And.intro (fun q => ?_) (fun _ => ?_)
    · exfalso
      have q : (26 : Int32) ≤ nI i := q
      rw [show (26 : Int32) = nI 26 from rfl, nI_leI (by omega) (by omega)] at q
      omega
    refine And.intro i1 ?_
    have ea : up2 (upa a r_named (nmZ (a r_named) i)) r_named (nI i).toNatClampNeg (-1) = upa a r_named (nmZ (a r_named) (i + 1)) := by
      rw [c1]
      funext x
      unfold up2 upa
      split
      · rfl
      · rfl
    rw [← nI_1, ← ea] at g
    exact g
set_option maxRecDepth 100000 in
theorem rc_clear (d : Nat) (m : Nat → Int32) (a : Nat → Nat → Int32) (P : pv_R) (h : P none (rs (upd (upd (upd (upd m r_nodes 0) r_variables 0) r_scopes 0) r_thereAtEnd 0) (upa a r_named (nmZ (a r_named) 26)))) : pv_call rq_mt (d + 1) rq_m_R_clear [.ref 0] (rs m a) P := by
  refine pv_call_of rfl rfl rfl (pv_run [22] 40 ?_)
  have g := rc_clear_loop d (upd (upd (upd (upd m r_nodes 0) r_variables 0) r_scopes 0) r_thereAtEnd 0) a P h 26 0 (by omega)
  have e : upa a r_named (nmZ (a r_named) 0) = a := by
    funext x
    unfold upa nmZ
    split
    · next e => rw [e]
    · rfl
  rw [e] at g
  exact g
/-- parse's loop -/
abbrev Hd (d : Nat) (P : pv_R) (n : Nat) (m : Nat → Int32) (a : Nat → Nat → Int32) : Prop := pv_go rq_T39 3 (pv_call rq_mt d) P (31, [(0, .ref 0), (1, .int (nI n)), (2, .int 1)], [], rs m a)
abbrev HdP (d : Nat) (P : pv_R) (n : Nat) : pv_R := fun o S => o = none ∧ ∃ m a, S = rs m a ∧ Hd d P n m a
set_option maxRecDepth 100000 in
theorem Hd_out (d : Nat) (P : pv_R) (n : Nat) (m : Nat → Int32) (a : Nat → Nat → Int32) (x : Int32) {s : Nat} (hs : s ≤ 12) (hsc : m r_scopes = nI s) (h : P none (rs (upd m r_thereAtEnd (thr (a r_scope) s)) a)) : pv_go rq_T39 3 (pv_call rq_mt (d + 1)) P (89, [(0, .ref 0), (1, .int (nI n)), (2, .int x)], [], rs m a) := by
  refine pv_run [] 40 ?_
  refine rc_thereNow d m a hs hsc _ ?_
  exact h
set_option maxRecDepth 100000 in
theorem Hd_fault (d : Nat) (P : pv_R) (n : Nat) (m : Nat → Int32) (a : Nat → Nat → Int32) (hw : ¬ m r_wrong = -1) {s : Nat} (hs : s ≤ 12) (hsc : m r_scopes = nI s) (h : P none (rs (upd m r_thereAtEnd (thr (a r_scope) s)) a)) : Hd (d + 1) P n m a := by
  refine pv_run [89] 40 ?_
  refine And.intro (fun q => absurd q (by decide)) (fun _ => ?_)
  refine rc_isRight d m a _ ?_
  rw [if_neg hw]
  refine And.intro (fun _ => ?_) (fun q => absurd rfl q)
  exact Hd_out d P n m a 1 hs hsc h
set_option maxRecDepth 100000 in
theorem Hd_step (d : Nat) (P : pv_R) (n : Nat) (m : Nat → Int32) (a : Nat → Nat → Int32) (hw : m r_wrong = -1) {k : Nat} (hk : k < 24) (hop : m r_opened = nI (k + 1)) (h : pv_call rq_mt (d + 1) rq_m_R_step [.ref 0] (rs m a) (HdP (d + 1) P n)) : Hd (d + 1) P n m a := by
  refine pv_run [31] 40 ?_
  refine And.intro (fun q => absurd q (by decide)) (fun _ => ?_)
  refine rc_isRight d m a _ ?_
  rw [if_pos hw]
  refine And.intro (fun q => absurd q (by decide)) (fun _ => ?_)
  refine And.intro (fun q => ?_) (fun _ => ?_)
  · exfalso
    have q : m 40 ≤ 0 := q
    rw [show m 40 = nI (k + 1) from hop, show (0 : Int32) = nI 0 from rfl, nI_leI (by omega) (by omega)] at q
    omega
  refine pv_call_cm rq_mt (d + 1) _ _ _ _ _ ?_ h
  intro o S hS
  obtain ⟨rfl, m', a', rfl, hS⟩ := hS
  exact hS
set_option maxRecDepth 100000 in
/-- with no stmt open: the end, or the next stmt -/
theorem Hd_top (d : Nat) (P : pv_R) (n : Nat) (m : Nat → Int32) (a : Nat → Nat → Int32) {p s : Nat} (hn : n ≤ 240) (hp : p ≤ n) (hat : m r_at = nI p) (hsz : m r_size = nI n) (hw : m r_wrong = -1) (hop : m r_opened = 0) (hs : s ≤ 12) (hsc : m r_scopes = nI s)
    (h1 : r_ch a n (r_nx a n p) = -1 → r_nx a n p = n → P none (rs (upd (upd m r_at (nI (r_nx a n p))) r_thereAtEnd (thr (a r_scope) s)) a))
    (h2 : ¬ (r_ch a n (r_nx a n p) = -1 ∧ r_nx a n p = n) → pv_call rq_mt (d + 2) rq_m_R_readStmt [.ref 0, .int 1, .int 0] (rs (upd m r_at (nI (r_nx a n p))) a) (HdP (d + 2) P n)) : Hd (d + 2) P n m a := by
  obtain ⟨l1, l2⟩ := r_nx_le (a := a) hp
  refine pv_run [31, 80] 40 ?_
  refine And.intro (fun q => absurd q (by decide)) (fun _ => ?_)
  refine rc_isRight (d + 1) m a _ ?_
  rw [if_pos hw]
  refine And.intro (fun q => absurd q (by decide)) (fun _ => ?_)
  refine And.intro (fun _ => ?_) (fun q => ?_)
  · refine rc_here d m a hn hp hat hsz _ ?_
    generalize r_nx a n p = q0 at *
    have st : ¬ (r_ch a n q0 = -1 ∧ q0 = n) → pv_go rq_T39 3 (pv_call rq_mt (d + 2)) P (80, [(0, .ref 0), (1, .int (nI n)), (2, .int 1)], [], rs (upd m r_at (nI q0)) a) := by
      intro hq
      refine pv_run [31] 40 ?_
      refine pv_call_cm rq_mt (d + 2) _ _ _ _ _ ?_ (h2 hq)
      intro o S hS
      obtain ⟨rfl, m', a', rfl, hS⟩ := hS
      exact hS
    refine And.intro (fun q => ?_) (fun q => ?_)
    · refine And.intro (fun q2 => ?_) (fun q2 => ?_)
      · have q2 : nI q0 = m 27 := q2
        rw [show m 27 = nI n from hsz, nI_eq (by omega) (by omega)] at q2
        show pv_go rq_T39 3 (pv_call rq_mt (d + 2)) P (31, [(0, .ref 0), (1, .int (nI n)), (2, .int 0)], [], rs (upd m r_at (nI q0)) a)
        refine pv_run [89] 40 ?_
        refine And.intro (fun _ => ?_) (fun q => absurd rfl q)
        exact Hd_out (d + 1) P n (upd m r_at (nI q0)) a 0 hs hsc (h1 q q2)
      · have q2 : ¬ nI q0 = m 27 := q2
        rw [show m 27 = nI n from hsz, nI_eq (by omega) (by omega)] at q2
        exact st (fun r => q2 r.2)
    · exact st (fun r => q r.1)
  · exfalso
    have q : ¬ m 40 ≤ 0 := q
    rw [show m 40 = 0 from hop] at q
    exact q (Int32.le_refl _)
set_option maxRecDepth 100000 in
theorem rc_parse (d : Nat) (m : Nat → Int32) (a : Nat → Nat → Int32) (n : Nat) (P : pv_R) (h : Hd (d + 1) P n (upd (upd (upd (upd (upd (upd (upd (upd (upd m r_at 0) r_size (nI n)) r_wrong (-1)) r_opened 0) r_isCase 0) r_nodes 0) r_variables 0) r_scopes 0) r_thereAtEnd 0) (upa a r_named (nmZ (a r_named) 26))) : pv_call rq_mt (d + 2) rq_m_R_parse [.ref 0, .int (nI n)] (rs m a) P := by
  refine pv_call_of rfl rfl rfl (pv_run [31] 40 ?_)
  refine And.intro (Or.inl rfl) ?_
  refine rc_clear d (upd (upd (upd (upd (upd m r_at 0) r_size (nI n)) r_wrong (-1)) r_opened 0) r_isCase 0) a _ ?_
  exact h
