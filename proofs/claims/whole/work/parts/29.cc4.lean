abbrev kL (lv b : Nat) (g : Int32) (k : Nat) : pv_L := [(0, .ref 3), (1, .int (nI lv)), (2, .int (nI b)), (3, .int g), (4, .int (nI k))]
section CF
variable {l : Nat → Nat → Int64} {w : Int64}
/-- behind a fault: the operator's PLACE is closed all the same -/
def clF (l : Nat → Nat → Int64) (w : Int64) (b : Nat) (Q : pv_S → Prop) : pv_S → Prop := fun S => ∃ (m : Nat → Int32) (a : Nat → Nat → Int32) (B : Nat), (S = cs m a l w ∧ m c_P_size = nI B ∧ B ≤ 241) ∧ Q (cs m a l w) ∧ Q (cs m (up2 a c_P_end b (nI B)) l w)
set_option maxRecDepth 100000 in
theorem cc_closeAny (d : Nat) (m : Nat → Int32) (a : Nat → Nat → Int32) {p B : Nat} (hp : p ≤ 241) (hB : B ≤ 241) (hs : m c_P_size = nI B) (P : pv_R) (h1 : P none (cs m a l w)) (h2 : P none (cs m (up2 a c_P_end p (nI B)) l w)) : pv_call cq_mt (d + 2) cq_m_Places_close [.ref 2, .int (nI p)] (cs m a l w) P := by
  by_cases h : p < B
  · exact cc_close d m a h hB hs P h2
  · refine pv_call_of rfl rfl rfl (pv_run [] 60 ?_)
    refine cc_has d m a (p := p) (b := B) (by omega) (by omega) hs _ (fun q => absurd q h) (fun _ => ?_)
    refine And.intro (fun _ => ?_) (fun q => absurd rfl q)
    exact h1
set_option maxRecDepth 100000 in
theorem k55_ret (d : Nat) (S : pv_S) (lv b k : Nat) (P : pv_R) (h : P (some (.int 0)) S) : pv_go cq_T55 1 (pv_call cq_mt d) P (17, kL lv b 0 k, [], S) := by
  refine pv_run [76] 60 ?_
  have g : pv_go cq_T55 1 (pv_call cq_mt d) P (76, kL lv b 0 k, [], S) := by
    refine pv_run [] 20 ?_
    exact And.intro (Or.inl rfl) h
  refine And.intro (fun _ => g) (fun _ => ?_)
  refine And.intro (fun _ => g) (fun q => absurd rfl q)
set_option maxRecDepth 100000 in
theorem k55_in (d : Nat) (m : Nat → Int32) (a : Nat → Nat → Int32) {lv b : Nat} (hs : m c_P_size = nI b) (P : pv_R) (h : pv_call cq_mt d cq_m_Reader_unary [.ref 3, .int (nI lv)] (cs m a l w) (bq l w (fun S => P (some (.int 0)) S) (fun m' a' => pv_go cq_T55 1 (pv_call cq_mt d) P (17, kL lv b 1 0, [], cs m' a' l w)))) : pv_call cq_mt (d + 1) cq_m_Reader_conjunction [.ref 3, .int (nI lv)] (cs m a l w) P := by
  refine pv_call_of rfl rfl rfl (pv_run [17] 60 ?_)
  refine pv_call_cm cq_mt d _ _ _ _ _ ?_ h
  intro o S hS
  rcases hS with ⟨rfl, hS⟩ | ⟨rfl, m', a', rfl, hS⟩
  · show pv_go cq_T55 1 (pv_call cq_mt d) P (17, [(0, .ref 3), (1, .int (nI lv)), (2, .int (m 4)), (3, .int 0), (4, .int 0)], [], S)
    rw [show m 4 = nI b from hs]
    exact k55_ret d S lv b 0 P hS
  · show pv_go cq_T55 1 (pv_call cq_mt d) P (17, [(0, .ref 3), (1, .int (nI lv)), (2, .int (m 4)), (3, .int 1), (4, .int 0)], [], cs m' a' l w)
    rw [show m 4 = nI b from hs]
    exact hS
set_option maxRecDepth 100000 in
theorem k55_62 (d : Nat) (m : Nat → Int32) (a : Nat → Nat → Int32) {lv b k B : Nat} (hb : b < B) (hB : B ≤ 241) (hs : m c_P_size = nI B) (P : pv_R) (h : pv_go cq_T55 1 (pv_call cq_mt (d + 2)) P (17, kL lv b 1 (k + 1), [], cs m (up2 a c_P_end b (nI B)) l w)) : pv_go cq_T55 1 (pv_call cq_mt (d + 2)) P (62, kL lv b 1 k, [], cs m a l w) := by
  refine pv_run [17] 60 ?_
  refine cc_close d m a hb hB hs _ ?_
  show pv_go cq_T55 1 (pv_call cq_mt (d + 2)) P (17, [(0, .ref 3), (1, .int (nI lv)), (2, .int (nI b)), (3, .int 1), (4, .int (nI k + 1))], [], cs m (up2 a c_P_end b (nI B)) l w)
  rw [nI_1]
  exact h
set_option maxRecDepth 100000 in
theorem k55_62f (d : Nat) (S : pv_S) {lv b k : Nat} (hb : b ≤ 241) (P : pv_R) (h : clF l w b (fun S => P (some (.int 0)) S) S) : pv_go cq_T55 1 (pv_call cq_mt (d + 2)) P (62, kL lv b 0 k, [], S) := by
  obtain ⟨m, a, B, ⟨rfl, hs, hB⟩, h1, h2⟩ := h
  refine pv_run [17] 60 ?_
  refine cc_closeAny d m a hb hB hs _ ?_ ?_
  · show pv_go cq_T55 1 (pv_call cq_mt (d + 2)) P (17, [(0, .ref 3), (1, .int (nI lv)), (2, .int (nI b)), (3, .int 0), (4, .int (nI k + 1))], [], cs m a l w)
    rw [nI_1]
    exact k55_ret (d + 2) _ lv b (k + 1) P h1
  · show pv_go cq_T55 1 (pv_call cq_mt (d + 2)) P (17, [(0, .ref 3), (1, .int (nI lv)), (2, .int (nI b)), (3, .int 0), (4, .int (nI k + 1))], [], cs m (up2 a c_P_end b (nI B)) l w)
    rw [nI_1]
    exact k55_ret (d + 2) _ lv b (k + 1) P h2
set_option maxRecDepth 100000 in
/-- a round of the loop -/
theorem k55_17 (d : Nat) (m : Nat → Int32) (a : Nat → Nat → Int32) {n p lv b B k : Nat} (hn : n ≤ 240) (hp : p ≤ n) (hat : m c_R_at = nI p) (hsz : m c_R_length = nI n) (hk : k < 240) (hb : b < B) (hB : sp_c (a c_A_collected) n (sp_x (a c_A_collected) n p) = 38 → B < 241) (hB2 : B ≤ 241) (hs : m c_P_size = nI B) (P : pv_R)
    (h0 : ¬ sp_c (a c_A_collected) n (sp_x (a c_A_collected) n p) = 38 → P (some (.int 1)) (cs (upd m c_R_at (nI (sp_x (a c_A_collected) n p))) a l w))
    (h1 : sp_c (a c_A_collected) n (sp_x (a c_A_collected) n p) = 38 → pv_call cq_mt (d + 3) cq_m_Reader_unary [.ref 3, .int (nI lv)] (cs (upd (upd (upd m c_R_at (nI (sp_x (a c_A_collected) n p))) c_P_size (nI (B + 1))) c_R_at (nI (sp_x (a c_A_collected) n p + 1))) (wrA a B b 38) l w) (bq l w (clF l w b (fun S => P (some (.int 0)) S)) (fun m' a' => ∃ B', (b < B' ∧ B' ≤ 241 ∧ m' c_P_size = nI B') ∧ pv_go cq_T55 1 (pv_call cq_mt (d + 3)) P (17, kL lv b 1 (k + 1), [], cs m' (up2 a' c_P_end b (nI B')) l w)))) : pv_go cq_T55 1 (pv_call cq_mt (d + 3)) P (17, kL lv b 1 k, [], cs m a l w) := by
  refine pv_run [38, 76] 60 ?_
  refine And.intro (fun q => ?_) (fun _ => ?_)
  · exfalso
    have q : (240 : Int32) ≤ nI k := q
    rw [show (240 : Int32) = nI 240 from rfl, nI_leI (by omega) (by omega)] at q
    omega
  refine And.intro (fun q => absurd q (by decide)) (fun _ => ?_)
  refine cc_sign (d + 2) m a hn hp hat hsz _ ?_
  generalize sp_x (a c_A_collected) n p = q at *
  refine And.intro (fun e => ?_) (fun e => ?_)
  · have h1 := h1 e
    have hB := hB e
    show pv_go cq_T55 1 (pv_call cq_mt (d + 3)) P (38, kL lv b 1 k, [], cs (upd m c_R_at (nI q)) a l w)
    have hs1 : (upd m c_R_at (nI q)) c_P_size = nI B := hs
    have hat1 : (upd m c_R_at (nI q)) c_R_at = nI q := rfl
    generalize upd m c_R_at (nI q) = m1 at *
    refine pv_run [62] 60 ?_
    refine cc_operator d m1 a hb hB hs1 hat1 38 _ ?_
    refine And.intro (fun q => absurd q (by decide)) (fun _ => ?_)
    refine pv_call_cm cq_mt (d + 3) _ _ _ _ _ ?_ h1
    intro o S hS
    rcases hS with ⟨rfl, hS⟩ | ⟨rfl, m', a', rfl, B', ⟨b1, b2, b3⟩, hS⟩
    · refine And.intro (fun _ => ?_) (fun q => absurd rfl q)
      exact k55_62f (d + 1) S (by omega) P hS
    · refine And.intro (fun q => absurd q (by decide)) (fun _ => ?_)
      exact k55_62 (d + 1) m' a' b1 b2 b3 P hS
  · have h0 := h0 e
    show pv_go cq_T55 1 (pv_call cq_mt (d + 3)) P (76, kL lv b 1 k, [], cs (upd m c_R_at (nI q)) a l w)
    refine pv_run [] 20 ?_
    exact And.intro (Or.inr rfl) h0
set_option maxRecDepth 100000 in
theorem k54_ret (d : Nat) (S : pv_S) (lv b k : Nat) (P : pv_R) (h : P (some (.int 0)) S) : pv_go cq_T54 1 (pv_call cq_mt d) P (17, kL lv b 0 k, [], S) := by
  refine pv_run [76] 60 ?_
  have g : pv_go cq_T54 1 (pv_call cq_mt d) P (76, kL lv b 0 k, [], S) := by
    refine pv_run [] 20 ?_
    exact And.intro (Or.inl rfl) h
  refine And.intro (fun _ => g) (fun _ => ?_)
  refine And.intro (fun _ => g) (fun q => absurd rfl q)
set_option maxRecDepth 100000 in
theorem k54_in (d : Nat) (m : Nat → Int32) (a : Nat → Nat → Int32) {lv b : Nat} (hs : m c_P_size = nI b) (P : pv_R) (h : pv_call cq_mt d cq_m_Reader_conjunction [.ref 3, .int (nI lv)] (cs m a l w) (bq l w (fun S => P (some (.int 0)) S) (fun m' a' => pv_go cq_T54 1 (pv_call cq_mt d) P (17, kL lv b 1 0, [], cs m' a' l w)))) : pv_call cq_mt (d + 1) cq_m_Reader_alternatives [.ref 3, .int (nI lv)] (cs m a l w) P := by
  refine pv_call_of rfl rfl rfl (pv_run [17] 60 ?_)
  refine pv_call_cm cq_mt d _ _ _ _ _ ?_ h
  intro o S hS
  rcases hS with ⟨rfl, hS⟩ | ⟨rfl, m', a', rfl, hS⟩
  · show pv_go cq_T54 1 (pv_call cq_mt d) P (17, [(0, .ref 3), (1, .int (nI lv)), (2, .int (m 4)), (3, .int 0), (4, .int 0)], [], S)
    rw [show m 4 = nI b from hs]
    exact k54_ret d S lv b 0 P hS
  · show pv_go cq_T54 1 (pv_call cq_mt d) P (17, [(0, .ref 3), (1, .int (nI lv)), (2, .int (m 4)), (3, .int 1), (4, .int 0)], [], cs m' a' l w)
    rw [show m 4 = nI b from hs]
    exact hS
set_option maxRecDepth 100000 in
theorem k54_62 (d : Nat) (m : Nat → Int32) (a : Nat → Nat → Int32) {lv b k B : Nat} (hb : b < B) (hB : B ≤ 241) (hs : m c_P_size = nI B) (P : pv_R) (h : pv_go cq_T54 1 (pv_call cq_mt (d + 2)) P (17, kL lv b 1 (k + 1), [], cs m (up2 a c_P_end b (nI B)) l w)) : pv_go cq_T54 1 (pv_call cq_mt (d + 2)) P (62, kL lv b 1 k, [], cs m a l w) := by
  refine pv_run [17] 60 ?_
  refine cc_close d m a hb hB hs _ ?_
  show pv_go cq_T54 1 (pv_call cq_mt (d + 2)) P (17, [(0, .ref 3), (1, .int (nI lv)), (2, .int (nI b)), (3, .int 1), (4, .int (nI k + 1))], [], cs m (up2 a c_P_end b (nI B)) l w)
  rw [nI_1]
  exact h
set_option maxRecDepth 100000 in
theorem k54_62f (d : Nat) (S : pv_S) {lv b k : Nat} (hb : b ≤ 241) (P : pv_R) (h : clF l w b (fun S => P (some (.int 0)) S) S) : pv_go cq_T54 1 (pv_call cq_mt (d + 2)) P (62, kL lv b 0 k, [], S) := by
  obtain ⟨m, a, B, ⟨rfl, hs, hB⟩, h1, h2⟩ := h
  refine pv_run [17] 60 ?_
  refine cc_closeAny d m a hb hB hs _ ?_ ?_
  · show pv_go cq_T54 1 (pv_call cq_mt (d + 2)) P (17, [(0, .ref 3), (1, .int (nI lv)), (2, .int (nI b)), (3, .int 0), (4, .int (nI k + 1))], [], cs m a l w)
    rw [nI_1]
    exact k54_ret (d + 2) _ lv b (k + 1) P h1
  · show pv_go cq_T54 1 (pv_call cq_mt (d + 2)) P (17, [(0, .ref 3), (1, .int (nI lv)), (2, .int (nI b)), (3, .int 0), (4, .int (nI k + 1))], [], cs m (up2 a c_P_end b (nI B)) l w)
    rw [nI_1]
    exact k54_ret (d + 2) _ lv b (k + 1) P h2
set_option maxRecDepth 100000 in
/-- a round of the loop -/
theorem k54_17 (d : Nat) (m : Nat → Int32) (a : Nat → Nat → Int32) {n p lv b B k : Nat} (hn : n ≤ 240) (hp : p ≤ n) (hat : m c_R_at = nI p) (hsz : m c_R_length = nI n) (hk : k < 240) (hb : b < B) (hB : sp_c (a c_A_collected) n (sp_x (a c_A_collected) n p) = 124 → B < 241) (hB2 : B ≤ 241) (hs : m c_P_size = nI B) (P : pv_R)
    (h0 : ¬ sp_c (a c_A_collected) n (sp_x (a c_A_collected) n p) = 124 → P (some (.int 1)) (cs (upd m c_R_at (nI (sp_x (a c_A_collected) n p))) a l w))
    (h1 : sp_c (a c_A_collected) n (sp_x (a c_A_collected) n p) = 124 → pv_call cq_mt (d + 3) cq_m_Reader_conjunction [.ref 3, .int (nI lv)] (cs (upd (upd (upd m c_R_at (nI (sp_x (a c_A_collected) n p))) c_P_size (nI (B + 1))) c_R_at (nI (sp_x (a c_A_collected) n p + 1))) (wrA a B b 124) l w) (bq l w (clF l w b (fun S => P (some (.int 0)) S)) (fun m' a' => ∃ B', (b < B' ∧ B' ≤ 241 ∧ m' c_P_size = nI B') ∧ pv_go cq_T54 1 (pv_call cq_mt (d + 3)) P (17, kL lv b 1 (k + 1), [], cs m' (up2 a' c_P_end b (nI B')) l w)))) : pv_go cq_T54 1 (pv_call cq_mt (d + 3)) P (17, kL lv b 1 k, [], cs m a l w) := by
  refine pv_run [38, 76] 60 ?_
  refine And.intro (fun q => ?_) (fun _ => ?_)
  · exfalso
    have q : (240 : Int32) ≤ nI k := q
    rw [show (240 : Int32) = nI 240 from rfl, nI_leI (by omega) (by omega)] at q
    omega
  refine And.intro (fun q => absurd q (by decide)) (fun _ => ?_)
  refine cc_sign (d + 2) m a hn hp hat hsz _ ?_
  generalize sp_x (a c_A_collected) n p = q at *
  refine And.intro (fun e => ?_) (fun e => ?_)
  · have h1 := h1 e
    have hB := hB e
    show pv_go cq_T54 1 (pv_call cq_mt (d + 3)) P (38, kL lv b 1 k, [], cs (upd m c_R_at (nI q)) a l w)
    have hs1 : (upd m c_R_at (nI q)) c_P_size = nI B := hs
    have hat1 : (upd m c_R_at (nI q)) c_R_at = nI q := rfl
    generalize upd m c_R_at (nI q) = m1 at *
    refine pv_run [62] 60 ?_
    refine cc_operator d m1 a hb hB hs1 hat1 124 _ ?_
    refine And.intro (fun q => absurd q (by decide)) (fun _ => ?_)
    refine pv_call_cm cq_mt (d + 3) _ _ _ _ _ ?_ h1
    intro o S hS
    rcases hS with ⟨rfl, hS⟩ | ⟨rfl, m', a', rfl, B', ⟨b1, b2, b3⟩, hS⟩
    · refine And.intro (fun _ => ?_) (fun q => absurd rfl q)
      exact k54_62f (d + 1) S (by omega) P hS
    · refine And.intro (fun q => absurd q (by decide)) (fun _ => ?_)
      exact k54_62 (d + 1) m' a' b1 b2 b3 P hS
  · have h0 := h0 e
    show pv_go cq_T54 1 (pv_call cq_mt (d + 3)) P (76, kL lv b 1 k, [], cs (upd m c_R_at (nI q)) a l w)
    refine pv_run [] 20 ?_
    exact And.intro (Or.inr rfl) h0
set_option maxRecDepth 100000 in
/-- conditional: its first side, then ? -/
theorem cc_cond (d : Nat) (m : Nat → Int32) (a : Nat → Nat → Int32) {n p lv b : Nat} (hn : n ≤ 240) (hp : p ≤ n) (hat : m c_R_at = nI p) (hsz : m c_R_length = nI n) (hlv : lv < 2 ^ 30) (hs : m c_P_size = nI b) (P : pv_R)
    (h0 : 30 ≤ lv → P (some (.int 0)) (cs (upd (upd m c_R_at (nI (sp_x (a c_A_collected) n p))) c_R_faultAt (nI (sp_x (a c_A_collected) n p))) a l w))
    (h1 : lv < 30 → pv_call cq_mt (d + 3) cq_m_Reader_alternatives [.ref 3, .int (nI lv)] (cs (upd m c_R_at (nI (sp_x (a c_A_collected) n p))) a l w) (bq l w (fun S => P (some (.int 0)) S) (fun m' a' => pv_go cq_T53 1 (pv_call cq_mt (d + 3)) P (34, [(0, .ref 3), (1, .int (nI lv)), (2, .int (nI b))], [], cs m' a' l w)))) : pv_call cq_mt (d + 4) cq_m_Reader_conditional [.ref 3, .int (nI lv)] (cs m a l w) P := by
  refine pv_call_of rfl rfl rfl (pv_run [24] 60 ?_)
  refine cc_sign (d + 2) m a hn hp hat hsz _ ?_
  generalize sp_x (a c_A_collected) n p = q at *
  refine And.intro (fun c => ?_) (fun c => ?_)
  · have c : nI lv < 30 := c
    rw [show (30 : Int32) = nI 30 from rfl, nI_ltI (by omega) (by omega)] at c
    have h1 := h1 c
    show pv_go cq_T53 1 (pv_call cq_mt (d + 3)) P (24, [(0, .ref 3), (1, .int (nI lv)), (2, .int (m 4))], [], cs (upd m c_R_at (nI q)) a l w)
    rw [show m 4 = nI b from hs]
    refine pv_run [34] 60 ?_
    refine pv_call_cm cq_mt (d + 3) _ _ _ _ _ ?_ h1
    intro o S hS
    rcases hS with ⟨rfl, hS⟩ | ⟨rfl, m', a', rfl, hS⟩
    · refine And.intro (fun _ => ?_) (fun q => absurd rfl q)
      exact And.intro (Or.inl rfl) hS
    · refine And.intro (fun q => absurd q (by decide)) (fun _ => ?_)
      exact hS
  · have c : ¬ nI lv < 30 := c
    rw [show (30 : Int32) = nI 30 from rfl, nI_ltI (by omega) (by omega)] at c
    refine cc_fail (d + 2) (upd m c_R_at (nI q)) a _ ?_
    exact And.intro (Or.inl rfl) (h0 (by omega))
set_option maxRecDepth 100000 in
theorem cd_34 (d : Nat) (m : Nat → Int32) (a : Nat → Nat → Int32) {n p lv b B : Nat} (hn : n ≤ 240) (hp : p ≤ n) (hat : m c_R_at = nI p) (hsz : m c_R_length = nI n) (hb : b < B) (hB : sp_c (a c_A_collected) n (sp_x (a c_A_collected) n p) = 63 → B < 241) (hs : m c_P_size = nI B) (P : pv_R)
    (h0 : ¬ sp_c (a c_A_collected) n (sp_x (a c_A_collected) n p) = 63 → P (some (.int 1)) (cs (upd m c_R_at (nI (sp_x (a c_A_collected) n p))) a l w))
    (h1 : sp_c (a c_A_collected) n (sp_x (a c_A_collected) n p) = 63 → pv_call cq_mt (d + 3) cq_m_Reader_expression [.ref 3, .int (nI (lv + 1))] (cs (upd (upd (upd m c_R_at (nI (sp_x (a c_A_collected) n p))) c_P_size (nI (B + 1))) c_R_at (nI (sp_x (a c_A_collected) n p + 1))) (wrA a B b 63) l w) (bq l w (fun S => P (some (.int 0)) S) (fun m' a' => pv_call cq_mt (d + 3) cq_m_Reader_expect [.ref 3, .int 58] (cs m' a' l w) (bq l w (fun S => P (some (.int 0)) S) (fun m' a' => pv_call cq_mt (d + 3) cq_m_Reader_conditional [.ref 3, .int (nI (lv + 1))] (cs m' a' l w) (bq l w (fun S => P (some (.int 0)) S) (fun m' a' => pv_call cq_mt (d + 3) cq_m_Places_close [.ref 2, .int (nI b)] (cs m' a' l w) (fun o S => o = none ∧ P (some (.int 1)) S)))))))) : pv_go cq_T53 1 (pv_call cq_mt (d + 3)) P (34, [(0, .ref 3), (1, .int (nI lv)), (2, .int (nI b))], [], cs m a l w) := by
  refine pv_run [45] 60 ?_
  refine cc_sign (d + 2) m a hn hp hat hsz _ ?_
  generalize sp_x (a c_A_collected) n p = q at *
  refine And.intro (fun e => ?_) (fun e => ?_)
  · have h1 := h1 e
    have hB := hB e
    show pv_go cq_T53 1 (pv_call cq_mt (d + 3)) P (45, [(0, .ref 3), (1, .int (nI lv)), (2, .int (nI b))], [], cs (upd m c_R_at (nI q)) a l w)
    have hs1 : (upd m c_R_at (nI q)) c_P_size = nI B := hs
    have hat1 : (upd m c_R_at (nI q)) c_R_at = nI q := rfl
    generalize upd m c_R_at (nI q) = m1 at *
    have bad : ∀ S, P (some (.int 0)) S → pv_go cq_T53 1 (pv_call cq_mt (d + 3)) P (84, [(0, .ref 3), (1, .int (nI lv)), (2, .int (nI b))], [], S) := by
      intro S hS
      refine pv_run [] 20 ?_
      exact And.intro (Or.inl rfl) hS
    have e1 : nI lv + 1 = nI (lv + 1) := nI_1 lv
    refine pv_run [84] 60 ?_
    refine cc_operator d m1 a hb hB hs1 hat1 63 _ ?_
    refine And.intro (fun q => absurd q (by decide)) (fun _ => ?_)
    show pv_call cq_mt (d + 3) 52 [.ref 3, .int (nI lv + 1)] _ _
    rw [e1]
    refine pv_call_cm cq_mt (d + 3) _ _ _ _ _ ?_ h1
    intro o S hS
    rcases hS with ⟨rfl, hS⟩ | ⟨rfl, m', a', rfl, hS⟩
    · exact And.intro (fun _ => bad S hS) (fun q => absurd rfl q)
    · refine And.intro (fun q => absurd q (by decide)) (fun _ => ?_)
      refine pv_call_cm cq_mt (d + 3) _ _ _ _ _ ?_ hS
      intro o S hS
      rcases hS with ⟨rfl, hS⟩ | ⟨rfl, m', a', rfl, hS⟩
      · exact And.intro (fun _ => bad S hS) (fun q => absurd rfl q)
      · refine And.intro (fun q => absurd q (by decide)) (fun _ => ?_)
        show pv_call cq_mt (d + 3) 53 [.ref 3, .int (nI lv + 1)] _ _
        rw [e1]
        refine pv_call_cm cq_mt (d + 3) _ _ _ _ _ ?_ hS
        intro o S hS
        rcases hS with ⟨rfl, hS⟩ | ⟨rfl, m', a', rfl, hS⟩
        · refine And.intro (fun _ => ?_) (fun q => absurd rfl q)
          exact bad S hS
        · refine And.intro (fun q => absurd q (by decide)) (fun _ => ?_)
          refine pv_call_cm cq_mt (d + 3) _ _ _ _ _ ?_ hS
          intro o S hS
          obtain ⟨rfl, hS⟩ := hS
          exact And.intro (Or.inr rfl) hS
  · have h0 := h0 e
    exact And.intro (Or.inr rfl) h0
abbrev xL (lv c : Int32) : pv_L := [(0, .ref 3), (1, .int lv), (2, .int c)]
set_option maxRecDepth 100000 in
/-- expression: NAME = e, or a cond -/
theorem cc_expr (d : Nat) (m : Nat → Int32) (a : Nat → Nat → Int32) {n p lv : Nat} (hn : n ≤ 240) (hp : p ≤ n) (hat : m c_R_at = nI p) (hsz : m c_R_length = nI n) (hlv : lv < 2 ^ 30) (P : pv_R)
    (h0 : 30 ≤ lv → P (some (.int 0)) (cs (upd (upd m c_R_at (nI (sp_x (a c_A_collected) n p))) c_R_faultAt (nI (sp_x (a c_A_collected) n p))) a l w))
    (h1 : lv < 30 → ¬ (sp_nm (sp_c (a c_A_collected) n (sp_x (a c_A_collected) n p)) ∧ sp_c (a c_A_collected) n (sp_x (a c_A_collected) n (sp_x (a c_A_collected) n p + 1)) = 61) → pv_call cq_mt (d + 2) cq_m_Reader_conditional [.ref 3, .int (nI lv)] (cs (upd m c_R_at (nI (sp_x (a c_A_collected) n p))) a l w) (bz P))
    (h2 : lv < 30 → sp_nm (sp_c (a c_A_collected) n (sp_x (a c_A_collected) n p)) → sp_c (a c_A_collected) n (sp_x (a c_A_collected) n (sp_x (a c_A_collected) n p + 1)) = 61 → pv_go cq_T52 1 (pv_call cq_mt (d + 2)) P (38, xL (nI lv) (sp_c (a c_A_collected) n (sp_x (a c_A_collected) n p)), [], cs (upd m c_R_at (nI (sp_x (a c_A_collected) n p))) a l w)) : pv_call cq_mt (d + 3) cq_m_Reader_expression [.ref 3, .int (nI lv)] (cs m a l w) P := by
  have hq := sp_x_le (tx := a c_A_collected) hp
  have hnl : sp_nm (sp_c (a c_A_collected) n (sp_x (a c_A_collected) n p)) → sp_x (a c_A_collected) n p < n := sp_nm_lt
  refine pv_call_of rfl rfl rfl (pv_run [16] 60 ?_)
  refine cc_sign (d + 1) m a hn hp hat hsz _ ?_
  generalize sp_x (a c_A_collected) n p = q at *
  generalize sp_c (a c_A_collected) n q = c at *
  refine And.intro (fun e => ?_) (fun e => ?_)
  · have e : nI lv < 30 := e
    rw [show (30 : Int32) = nI 30 from rfl, nI_ltI (by omega) (by omega)] at e
    have h1 := h1 e
    have h2 := h2 e
    show pv_go cq_T52 1 (pv_call cq_mt (d + 2)) P (16, xL (nI lv) c, [], cs (upd m c_R_at (nI q)) a l w)
    have cd : ¬ (sp_nm c ∧ sp_c (a c_A_collected) n (sp_x (a c_A_collected) n (q + 1)) = 61) → pv_go cq_T52 1 (pv_call cq_mt (d + 2)) P (32, xL (nI lv) c, [], cs (upd m c_R_at (nI q)) a l w) := by
      intro hq
      refine pv_run [] 60 ?_
      refine pv_call_cm cq_mt (d + 2) _ _ _ _ _ ?_ (h1 hq)
      intro o S hS
      rcases hS with ⟨rfl, hS⟩ | ⟨rfl, hS⟩
      · exact And.intro (Or.inl rfl) hS
      · exact And.intro (Or.inr rfl) hS
    refine pv_run [32, 38] 60 ?_
    refine cc_isName (d + 1) _ c _ ?_
    by_cases hc : 97 ≤ c ∧ c ≤ 122
    · rw [if_pos hc]
      refine And.intro (fun q => absurd q (by decide)) (fun _ => ?_)
      refine cc_signBehind d (upd m c_R_at (nI q)) a hn (hnl hc) rfl hsz _ ?_
      refine And.intro (fun e2 => h2 hc e2) (fun e2 => cd (fun r => e2 r.2))
    · rw [if_neg hc]
      refine And.intro (fun _ => cd (fun r => hc r.1)) (fun q => absurd rfl q)
  · have e : ¬ nI lv < 30 := e
    rw [show (30 : Int32) = nI 30 from rfl, nI_ltI (by omega) (by omega)] at e
    refine cc_fail (d + 1) (upd m c_R_at (nI q)) a _ ?_
    exact And.intro (Or.inl rfl) (h0 (by omega))
set_option maxRecDepth 100000 in
theorem cx_bad (d : Nat) (m : Nat → Int32) (a : Nat → Nat → Int32) {V : Nat} (hV : V ≤ 12) (hvs : m c_V_size = nI V) (lv c : Int32) (hv : fnd a c (m c_R_there) V 0 = -1) (P : pv_R) (h : P (some (.int 0)) (cs (upd m c_R_faultAt (m c_R_at)) a l w)) : pv_go cq_T52 1 (pv_call cq_mt (d + 1)) P (38, xL lv c, [], cs m a l w) := by
  refine pv_run [] 60 ?_
  refine cc_find d m a hV hvs c (m 9) _ ?_
  rw [show fnd a c (m 9) V 0 = -1 from hv]
  refine And.intro (fun _ => ?_) (fun q => absurd rfl q)
  refine cc_fail d m a _ ?_
  exact And.intro (Or.inl rfl) h
set_option maxRecDepth 100000 in
theorem cx_set (d : Nat) (m : Nat → Int32) (a : Nat → Nat → Int32) {b q V v lv : Nat} (hV : V ≤ 12) (hvs : m c_V_size = nI V) (hb : b < 241) (hs : m c_P_size = nI b) (hat : m c_R_at = nI q) (c : Int32) (hv : fnd a c (m c_R_there) V 0 = nI v) (hv12 : v < 12) (P : pv_R) (h : pv_call cq_mt (d + 2) cq_m_Reader_expect [.ref 3, .int 61] (cs (upd (upd m c_P_size (nI (b + 1))) c_R_at (nI (q + 1))) (up2 (apA a b 61 (nI q) (nI v) (m c_R_there)) c_V_assigns v (a c_V_assigns v + 1)) l w) (bq l w (fun S => P (some (.int 0)) S) (fun m' a' => pv_call cq_mt (d + 2) cq_m_Reader_expression [.ref 3, .int (nI (lv + 1))] (cs m' a' l w) (bq l w (fun S => P (some (.int 0)) S) (fun m' a' => pv_call cq_mt (d + 2) cq_m_Places_close [.ref 2, .int (nI b)] (cs m' a' l w) (fun o S => o = none ∧ P (some (.int 1)) S)))))) : pv_go cq_T52 1 (pv_call cq_mt (d + 2)) P (38, xL (nI lv) c, [], cs m a l w) := by
  have iv : vp_in (nI v) 12 := vp_in_nI hv12 (by decide)
  have cv : (nI v).toNatClampNeg = v := nI_clamp (by omega)
  have nv : ¬ nI v = -1 := nI_m1 (by omega)
  refine pv_run [82] 60 ?_
  refine cc_find (d + 1) m a hV hvs c (m 9) _ ?_
  rw [show fnd a c (m 9) V 0 = nI v from hv]
  refine And.intro (fun q => absurd q nv) (fun _ => ?_)
  refine cc_rappend d m a hb hs 61 (nI v) _ ?_
  rw [hat]
  refine And.intro (fun q => absurd q (by decide)) (fun _ => ?_)
  have eu : (apA a b 61 (nI q) (nI v) (m c_R_there)) c_V_assigns v = a c_V_assigns v := rfl
  generalize apA a b 61 (nI q) (nI v) (m c_R_there) = a1 at *
  show pv_go cq_T52 1 (pv_call cq_mt (d + 2)) P (82, xL (nI lv) c ++ [(3, .int (nI v)), (4, .int (m 4))], [], cs (upd m c_P_size (nI (b + 1))) a1 l w)
  rw [show m 4 = nI b from hs]
  have hat1 : (upd m c_P_size (nI (b + 1))) c_R_at = nI q := hat
  generalize upd m c_P_size (nI (b + 1)) = m1 at *
  have bad : ∀ S, P (some (.int 0)) S → pv_go cq_T52 1 (pv_call cq_mt (d + 2)) P (124, xL (nI lv) c ++ [(3, .int (nI v)), (4, .int (nI b))], [], S) := by
    intro S hS
    refine pv_run [] 20 ?_
    exact And.intro (Or.inl rfl) hS
  refine pv_run [95] 60 ?_
  refine And.intro iv ?_
  refine And.intro iv ?_
  show pv_go cq_T52 1 (pv_call cq_mt (d + 2)) P (95, xL (nI lv) c ++ [(3, .int (nI v)), (4, .int (nI b))], [], cs m1 (up2 a1 c_V_assigns (nI v).toNatClampNeg (a1 24 (nI v).toNatClampNeg + 1)) l w)
  rw [cv, show a1 24 v = a c_V_assigns v from eu]
  generalize up2 a1 c_V_assigns v (a c_V_assigns v + 1) = a2 at *
  refine pv_run [124] 60 ?_
  show pv_call cq_mt (d + 2) 34 [.ref 3, .int 61] (cs (upd m1 c_R_at (m1 7 + 1)) a2 l w) _
  rw [show m1 7 = nI q from hat1, nI_1]
  refine pv_call_cm cq_mt (d + 2) _ _ _ _ _ ?_ h
  intro o S hS
  rcases hS with ⟨rfl, hS⟩ | ⟨rfl, m', a', rfl, hS⟩
  · exact And.intro (fun _ => bad S hS) (fun q => absurd rfl q)
  · refine And.intro (fun q => absurd q (by decide)) (fun _ => ?_)
    show pv_call cq_mt (d + 2) 52 [.ref 3, .int (nI lv + 1)] _ _
    rw [nI_1]
    refine pv_call_cm cq_mt (d + 2) _ _ _ _ _ ?_ hS
    intro o S hS
    rcases hS with ⟨rfl, hS⟩ | ⟨rfl, m', a', rfl, hS⟩
    · refine And.intro (fun _ => ?_) (fun q => absurd rfl q)
      exact bad S hS
    · refine And.intro (fun q => absurd q (by decide)) (fun _ => ?_)
      refine pv_call_cm cq_mt (d + 2) _ _ _ _ _ ?_ hS
      intro o S hS
      obtain ⟨rfl, hS⟩ := hS
      exact And.intro (Or.inr rfl) hS
end CF
