section CH
variable {l : Nat → Nat → Int64} {w : Int64}
abbrev rL (b : Nat) (s : Int32) (k : Nat) : pv_L := [(0, .ref 3), (1, .int (nI b)), (2, .int s), (3, .int (nI k)), (4, .int (nI (k + 1)))]
set_option maxRecDepth 100000 in
theorem r128 (d : Nat) (m : Nat → Int32) (a : Nat → Nat → Int32) (b : Nat) (s : Int32) (k : Nat) (P : pv_R) (h : pv_call cq_mt d cq_m_Reader_given [.ref 3, .int (nI b), .int s] (cs m a l w) (bz P)) : pv_go cq_T39 1 (pv_call cq_mt d) P (128, rL b s k, [], cs m a l w) := by
  refine pv_run [] 40 ?_
  refine pv_call_cm cq_mt d _ _ _ _ _ ?_ h
  intro o S h
  rcases h with ⟨rfl, h⟩ | ⟨rfl, h⟩
  · exact And.intro (Or.inl rfl) h
  · exact And.intro (Or.inr rfl) h
set_option maxRecDepth 100000 in
theorem r135 (d : Nat) (m : Nat → Int32) (a : Nat → Nat → Int32) (b : Nat) (s : Int32) (k : Nat) (P : pv_R) (h : pv_call cq_mt d cq_m_Reader_block [.ref 3, .int (nI (k + 1))] (cs m a l w) (bz P)) : pv_go cq_T39 1 (pv_call cq_mt d) P (135, rL b s k, [], cs m a l w) := by
  refine pv_run [] 40 ?_
  refine pv_call_cm cq_mt d _ _ _ _ _ ?_ h
  intro o S h
  rcases h with ⟨rfl, h⟩ | ⟨rfl, h⟩
  · exact And.intro (Or.inl rfl) h
  · exact And.intro (Or.inr rfl) h
set_option maxRecDepth 100000 in
theorem r142 (d : Nat) (m : Nat → Int32) (a : Nat → Nat → Int32) (b : Nat) (s : Int32) (k : Nat) (P : pv_R) (h : pv_call cq_mt d cq_m_Reader_expect [.ref 3, .int 58] (cs m a l w) (bq l w (fun S => P (some (.int 0)) S) (fun m a => pv_call cq_mt d cq_m_Reader_body [.ref 3, .int (nI (k + 1))] (cs m a l w) (bz P)))) : pv_go cq_T39 1 (pv_call cq_mt d) P (142, rL b s k, [], cs m a l w) := by
  have bad : ∀ S, P (some (.int 0)) S → pv_go cq_T39 1 (pv_call cq_mt d) P (164, rL b s k, [], S) := by
    intro S hS
    refine pv_run [] 20 ?_
    exact And.intro (Or.inl rfl) hS
  refine pv_run [164] 60 ?_
  refine pv_call_cm cq_mt d _ _ _ _ _ ?_ h
  intro o S h
  rcases h with ⟨rfl, h⟩ | ⟨rfl, m, a, rfl, h⟩
  · exact And.intro (fun _ => bad S h) (fun q => absurd rfl q)
  · refine And.intro (fun q => absurd q (by decide)) (fun _ => ?_)
    refine pv_call_cm cq_mt d _ _ _ _ _ ?_ h
    intro o S h
    rcases h with ⟨rfl, h⟩ | ⟨rfl, h⟩
    · exact And.intro (fun _ => bad S h) (fun q => absurd rfl q)
    · refine And.intro (fun q => absurd q (by decide)) (fun _ => ?_)
      exact And.intro (Or.inr rfl) h
set_option maxRecDepth 100000 in
theorem r215 (d : Nat) (m : Nat → Int32) (a : Nat → Nat → Int32) (b : Nat) (s : Int32) (k : Nat) (P : pv_R) (h : pv_call cq_mt d cq_m_Reader_condition [.ref 3] (cs m a l w) (bq l w (fun S => P (some (.int 0)) S) (fun m a => pv_call cq_mt d cq_m_Reader_body [.ref 3, .int (nI (k + 1))] (cs m a l w) (bz P)))) : pv_go cq_T39 1 (pv_call cq_mt d) P (215, rL b s k, [], cs m a l w) := by
  have bad : ∀ S, P (some (.int 0)) S → pv_go cq_T39 1 (pv_call cq_mt d) P (235, rL b s k, [], S) := by
    intro S hS
    refine pv_run [] 20 ?_
    exact And.intro (Or.inl rfl) hS
  refine pv_run [235] 60 ?_
  refine pv_call_cm cq_mt d _ _ _ _ _ ?_ h
  intro o S h
  rcases h with ⟨rfl, h⟩ | ⟨rfl, m, a, rfl, h⟩
  · exact And.intro (fun _ => bad S h) (fun q => absurd rfl q)
  · refine And.intro (fun q => absurd q (by decide)) (fun _ => ?_)
    refine pv_call_cm cq_mt d _ _ _ _ _ ?_ h
    intro o S h
    rcases h with ⟨rfl, h⟩ | ⟨rfl, h⟩
    · exact And.intro (fun _ => bad S h) (fun q => absurd rfl q)
    · refine And.intro (fun q => absurd q (by decide)) (fun _ => ?_)
      exact And.intro (Or.inr rfl) h
set_option maxRecDepth 100000 in
theorem r237 (d : Nat) (m : Nat → Int32) (a : Nat → Nat → Int32) (b : Nat) (s : Int32) (k : Nat) (P : pv_R) (h : pv_call cq_mt d cq_m_Reader_body [.ref 3, .int (nI (k + 1))] (cs m a l w) (bq l w (fun S => P (some (.int 0)) S) (fun m a => pv_call cq_mt d cq_m_Reader_condition [.ref 3] (cs m a l w) (bq l w (fun S => P (some (.int 0)) S) (fun m a => pv_call cq_mt d cq_m_Reader_expect [.ref 3, .int 59] (cs m a l w) (bz P)))))) : pv_go cq_T39 1 (pv_call cq_mt d) P (237, rL b s k, [], cs m a l w) := by
  have bad : ∀ S, P (some (.int 0)) S → pv_go cq_T39 1 (pv_call cq_mt d) P (266, rL b s k, [], S) := by
    intro S hS
    refine pv_run [] 20 ?_
    exact And.intro (Or.inl rfl) hS
  refine pv_run [266] 60 ?_
  refine pv_call_cm cq_mt d _ _ _ _ _ ?_ h
  intro o S h
  rcases h with ⟨rfl, h⟩ | ⟨rfl, m, a, rfl, h⟩
  · exact And.intro (fun _ => bad S h) (fun q => absurd rfl q)
  · refine And.intro (fun q => absurd q (by decide)) (fun _ => ?_)
    refine pv_call_cm cq_mt d _ _ _ _ _ ?_ h
    intro o S h
    rcases h with ⟨rfl, h⟩ | ⟨rfl, m, a, rfl, h⟩
    · exact And.intro (fun _ => bad S h) (fun q => absurd rfl q)
    · refine And.intro (fun q => absurd q (by decide)) (fun _ => ?_)
      refine pv_call_cm cq_mt d _ _ _ _ _ ?_ h
      intro o S h
      rcases h with ⟨rfl, h⟩ | ⟨rfl, h⟩
      · exact And.intro (fun _ => bad S h) (fun q => absurd rfl q)
      · refine And.intro (fun q => absurd q (by decide)) (fun _ => ?_)
        exact And.intro (Or.inr rfl) h
set_option maxRecDepth 100000 in
theorem r268 (d : Nat) (m : Nat → Int32) (a : Nat → Nat → Int32) (b : Nat) (s : Int32) (k : Nat) (P : pv_R) (h : pv_call cq_mt d cq_m_Reader_expect [.ref 3, .int 40] (cs m a l w) (bq l w (fun S => P (some (.int 0)) S) (fun m a => pv_call cq_mt d cq_m_Reader_expression [.ref 3, .int 0] (cs m a l w) (bq l w (fun S => P (some (.int 0)) S) (fun m a => pv_call cq_mt d cq_m_Reader_expect [.ref 3, .int 59] (cs m a l w) (bq l w (fun S => P (some (.int 0)) S) (fun m a => pv_call cq_mt d cq_m_Reader_expression [.ref 3, .int 0] (cs m a l w) (bq l w (fun S => P (some (.int 0)) S) (fun m a => pv_call cq_mt d cq_m_Reader_expect [.ref 3, .int 41] (cs m a l w) (bq l w (fun S => P (some (.int 0)) S) (fun m a => pv_call cq_mt d cq_m_Reader_body [.ref 3, .int (nI (k + 1))] (cs m a l w) (bz P)))))))))))) : pv_go cq_T39 1 (pv_call cq_mt d) P (268, rL b s k, [], cs m a l w) := by
  have bad : ∀ S, P (some (.int 0)) S → pv_go cq_T39 1 (pv_call cq_mt d) P (324, rL b s k, [], S) := by
    intro S hS
    refine pv_run [] 20 ?_
    exact And.intro (Or.inl rfl) hS
  refine pv_run [324] 60 ?_
  refine pv_call_cm cq_mt d _ _ _ _ _ ?_ h
  intro o S h
  rcases h with ⟨rfl, h⟩ | ⟨rfl, m, a, rfl, h⟩
  · exact And.intro (fun _ => bad S h) (fun q => absurd rfl q)
  · refine And.intro (fun q => absurd q (by decide)) (fun _ => ?_)
    refine pv_call_cm cq_mt d _ _ _ _ _ ?_ h
    intro o S h
    rcases h with ⟨rfl, h⟩ | ⟨rfl, m, a, rfl, h⟩
    · exact And.intro (fun _ => bad S h) (fun q => absurd rfl q)
    · refine And.intro (fun q => absurd q (by decide)) (fun _ => ?_)
      refine pv_call_cm cq_mt d _ _ _ _ _ ?_ h
      intro o S h
      rcases h with ⟨rfl, h⟩ | ⟨rfl, m, a, rfl, h⟩
      · exact And.intro (fun _ => bad S h) (fun q => absurd rfl q)
      · refine And.intro (fun q => absurd q (by decide)) (fun _ => ?_)
        refine pv_call_cm cq_mt d _ _ _ _ _ ?_ h
        intro o S h
        rcases h with ⟨rfl, h⟩ | ⟨rfl, m, a, rfl, h⟩
        · exact And.intro (fun _ => bad S h) (fun q => absurd rfl q)
        · refine And.intro (fun q => absurd q (by decide)) (fun _ => ?_)
          refine pv_call_cm cq_mt d _ _ _ _ _ ?_ h
          intro o S h
          rcases h with ⟨rfl, h⟩ | ⟨rfl, m, a, rfl, h⟩
          · exact And.intro (fun _ => bad S h) (fun q => absurd rfl q)
          · refine And.intro (fun q => absurd q (by decide)) (fun _ => ?_)
            refine pv_call_cm cq_mt d _ _ _ _ _ ?_ h
            intro o S h
            rcases h with ⟨rfl, h⟩ | ⟨rfl, h⟩
            · exact And.intro (fun _ => bad S h) (fun q => absurd rfl q)
            · refine And.intro (fun q => absurd q (by decide)) (fun _ => ?_)
              exact And.intro (Or.inr rfl) h
set_option maxRecDepth 100000 in
theorem r326 (d : Nat) (m : Nat → Int32) (a : Nat → Nat → Int32) (b : Nat) (s : Int32) (k : Nat) (P : pv_R) (h : pv_call cq_mt d cq_m_Reader_condition [.ref 3] (cs m a l w) (bq l w (fun S => P (some (.int 0)) S) (fun m a => pv_call cq_mt d cq_m_Reader_expect [.ref 3, .int 123] (cs m a l w) (bq l w (fun S => P (some (.int 0)) S) (fun m a => pv_call cq_mt d cq_m_Reader_items [.ref 3, .int (nI b), .int (nI (k + 1))] (cs m a l w) (bz P)))))) : pv_go cq_T39 1 (pv_call cq_mt d) P (326, rL b s k, [], cs m a l w) := by
  have bad : ∀ S, P (some (.int 0)) S → pv_go cq_T39 1 (pv_call cq_mt d) P (356, rL b s k, [], S) := by
    intro S hS
    refine pv_run [] 20 ?_
    exact And.intro (Or.inl rfl) hS
  refine pv_run [356] 60 ?_
  refine pv_call_cm cq_mt d _ _ _ _ _ ?_ h
  intro o S h
  rcases h with ⟨rfl, h⟩ | ⟨rfl, m, a, rfl, h⟩
  · exact And.intro (fun _ => bad S h) (fun q => absurd rfl q)
  · refine And.intro (fun q => absurd q (by decide)) (fun _ => ?_)
    refine pv_call_cm cq_mt d _ _ _ _ _ ?_ h
    intro o S h
    rcases h with ⟨rfl, h⟩ | ⟨rfl, m, a, rfl, h⟩
    · exact And.intro (fun _ => bad S h) (fun q => absurd rfl q)
    · refine And.intro (fun q => absurd q (by decide)) (fun _ => ?_)
      refine pv_call_cm cq_mt d _ _ _ _ _ ?_ h
      intro o S h
      rcases h with ⟨rfl, h⟩ | ⟨rfl, h⟩
      · exact And.intro (fun _ => bad S h) (fun q => absurd rfl q)
      · refine And.intro (fun q => absurd q (by decide)) (fun _ => ?_)
        exact And.intro (Or.inr rfl) h
set_option maxRecDepth 100000 in
theorem r358 (d : Nat) (m : Nat → Int32) (a : Nat → Nat → Int32) (b : Nat) (s : Int32) (k : Nat) (P : pv_R) (h : pv_call cq_mt d cq_m_Reader_tryParts [.ref 3, .int (nI b), .int (nI (k + 1))] (cs m a l w) (bz P)) : pv_go cq_T39 1 (pv_call cq_mt d) P (358, rL b s k, [], cs m a l w) := by
  refine pv_run [] 40 ?_
  refine pv_call_cm cq_mt d _ _ _ _ _ ?_ h
  intro o S h
  rcases h with ⟨rfl, h⟩ | ⟨rfl, h⟩
  · exact And.intro (Or.inl rfl) h
  · exact And.intro (Or.inr rfl) h
set_option maxRecDepth 100000 in
theorem r366 (d : Nat) (m : Nat → Int32) (a : Nat → Nat → Int32) (b : Nat) (s : Int32) (k : Nat) (P : pv_R) (h : pv_call cq_mt d cq_m_Reader_jump [.ref 3, .int (nI b), .int s, .int (nI k)] (cs m a l w) (bz P)) : pv_go cq_T39 1 (pv_call cq_mt d) P (366, rL b s k, [], cs m a l w) := by
  refine pv_run [] 40 ?_
  refine pv_call_cm cq_mt d _ _ _ _ _ ?_ h
  intro o S h
  rcases h with ⟨rfl, h⟩ | ⟨rfl, h⟩
  · exact And.intro (Or.inl rfl) h
  · exact And.intro (Or.inr rfl) h
set_option maxRecDepth 100000 in
theorem r391 (d : Nat) (m : Nat → Int32) (a : Nat → Nat → Int32) (b : Nat) (s : Int32) (k : Nat) (P : pv_R) (h : pv_call cq_mt d cq_m_Reader_expect [.ref 3, .int 59] (cs m a l w) (bz P)) : pv_go cq_T39 1 (pv_call cq_mt d) P (391, rL b s k, [], cs m a l w) := by
  have bad : ∀ S, P (some (.int 0)) S → pv_go cq_T39 1 (pv_call cq_mt d) P (404, rL b s k, [], S) := by
    intro S hS
    refine pv_run [] 20 ?_
    exact And.intro (Or.inl rfl) hS
  refine pv_run [404] 60 ?_
  refine pv_call_cm cq_mt d _ _ _ _ _ ?_ h
  intro o S h
  rcases h with ⟨rfl, h⟩ | ⟨rfl, h⟩
  · exact And.intro (fun _ => bad S h) (fun q => absurd rfl q)
  · refine And.intro (fun q => absurd q (by decide)) (fun _ => ?_)
    exact And.intro (Or.inr rfl) h
set_option maxRecDepth 100000 in
theorem r406 (d : Nat) (m : Nat → Int32) (a : Nat → Nat → Int32) (b : Nat) (s : Int32) (k : Nat) (P : pv_R) (h : pv_call cq_mt d cq_m_Reader_expression [.ref 3, .int 0] (cs m a l w) (bq l w (fun S => P (some (.int 0)) S) (fun m a => pv_call cq_mt d cq_m_Reader_expect [.ref 3, .int 59] (cs m a l w) (bz P)))) : pv_go cq_T39 1 (pv_call cq_mt d) P (406, rL b s k, [], cs m a l w) := by
  have bad : ∀ S, P (some (.int 0)) S → pv_go cq_T39 1 (pv_call cq_mt d) P (427, rL b s k, [], S) := by
    intro S hS
    refine pv_run [] 20 ?_
    exact And.intro (Or.inl rfl) hS
  refine pv_run [427] 60 ?_
  refine pv_call_cm cq_mt d _ _ _ _ _ ?_ h
  intro o S h
  rcases h with ⟨rfl, h⟩ | ⟨rfl, m, a, rfl, h⟩
  · exact And.intro (fun _ => bad S h) (fun q => absurd rfl q)
  · refine And.intro (fun q => absurd q (by decide)) (fun _ => ?_)
    refine pv_call_cm cq_mt d _ _ _ _ _ ?_ h
    intro o S h
    rcases h with ⟨rfl, h⟩ | ⟨rfl, h⟩
    · exact And.intro (fun _ => bad S h) (fun q => absurd rfl q)
    · refine And.intro (fun q => absurd q (by decide)) (fun _ => ?_)
      exact And.intro (Or.inr rfl) h
set_option maxRecDepth 100000 in
theorem r191 (d : Nat) (m : Nat → Int32) (a : Nat → Nat → Int32) (b : Nat) (s : Int32) (k : Nat) (P : pv_R) (h : pv_call cq_mt d cq_m_Reader_expect [.ref 3, .int 69] (cs m a l w) (bq l w (fun S => P (some (.int 0)) S) (fun m a => pv_call cq_mt d cq_m_Reader_body [.ref 3, .int (nI (k + 1))] (cs m a l w) (bz P)))) : pv_go cq_T39 1 (pv_call cq_mt d) P (191, rL b s k, [], cs m a l w) := by
  have bad : ∀ S, P (some (.int 0)) S → pv_go cq_T39 1 (pv_call cq_mt d) P (213, rL b s k, [], S) := by
    intro S hS
    refine pv_run [] 20 ?_
    exact And.intro (Or.inl rfl) hS
  refine pv_run [213] 60 ?_
  refine pv_call_cm cq_mt d _ _ _ _ _ ?_ h
  intro o S h
  rcases h with ⟨rfl, h⟩ | ⟨rfl, m, a, rfl, h⟩
  · exact And.intro (fun _ => bad S h) (fun q => absurd rfl q)
  · refine And.intro (fun q => absurd q (by decide)) (fun _ => ?_)
    refine pv_call_cm cq_mt d _ _ _ _ _ ?_ h
    intro o S h
    rcases h with ⟨rfl, h⟩ | ⟨rfl, h⟩
    · exact And.intro (fun _ => bad S h) (fun q => absurd rfl q)
    · refine And.intro (fun q => absurd q (by decide)) (fun _ => ?_)
      exact And.intro (Or.inr rfl) h
set_option maxRecDepth 100000 in
theorem c42_0 (d : Nat) (m : Nat → Int32) (a : Nat → Nat → Int32)  (P : pv_R) (h : pv_call cq_mt d cq_m_Reader_expect [.ref 3, .int 40] (cs m a l w) (bq l w (fun S => P (some (.int 0)) S) (fun m a => pv_call cq_mt d cq_m_Reader_expression [.ref 3, .int 0] (cs m a l w) (bq l w (fun S => P (some (.int 0)) S) (fun m a => pv_call cq_mt d cq_m_Reader_expect [.ref 3, .int 41] (cs m a l w) (bz P)))))) : pv_go cq_T42 1 (pv_call cq_mt d) P (0, [(0, .ref 3)], [], cs m a l w) := by
  have bad : ∀ S, P (some (.int 0)) S → pv_go cq_T42 1 (pv_call cq_mt d) P (30, [(0, .ref 3)], [], S) := by
    intro S hS
    refine pv_run [] 20 ?_
    exact And.intro (Or.inl rfl) hS
  refine pv_run [30] 60 ?_
  refine pv_call_cm cq_mt d _ _ _ _ _ ?_ h
  intro o S h
  rcases h with ⟨rfl, h⟩ | ⟨rfl, m, a, rfl, h⟩
  · exact And.intro (fun _ => bad S h) (fun q => absurd rfl q)
  · refine And.intro (fun q => absurd q (by decide)) (fun _ => ?_)
    refine pv_call_cm cq_mt d _ _ _ _ _ ?_ h
    intro o S h
    rcases h with ⟨rfl, h⟩ | ⟨rfl, m, a, rfl, h⟩
    · exact And.intro (fun _ => bad S h) (fun q => absurd rfl q)
    · refine And.intro (fun q => absurd q (by decide)) (fun _ => ?_)
      refine pv_call_cm cq_mt d _ _ _ _ _ ?_ h
      intro o S h
      rcases h with ⟨rfl, h⟩ | ⟨rfl, h⟩
      · exact And.intro (fun _ => bad S h) (fun q => absurd rfl q)
      · refine And.intro (fun q => absurd q (by decide)) (fun _ => ?_)
        exact And.intro (Or.inr rfl) h
theorem cc_condition (d : Nat) (m : Nat → Int32) (a : Nat → Nat → Int32) (P : pv_R) (h : pv_call cq_mt d cq_m_Reader_expect [.ref 3, .int 40] (cs m a l w) (bq l w (fun S => P (some (.int 0)) S) (fun m a => pv_call cq_mt d cq_m_Reader_expression [.ref 3, .int 0] (cs m a l w) (bq l w (fun S => P (some (.int 0)) S) (fun m a => pv_call cq_mt d cq_m_Reader_expect [.ref 3, .int 41] (cs m a l w) (bz P)))))) : pv_call cq_mt (d + 1) cq_m_Reader_condition [.ref 3] (cs m a l w) P :=
  pv_call_of rfl rfl rfl (c42_0 d m a P h)
set_option maxRecDepth 100000 in
theorem r374 (d : Nat) (m : Nat → Int32) (a : Nat → Nat → Int32) {n p : Nat} (hn : n ≤ 240) (hp : p ≤ n) (hat : m c_R_at = nI p) (hsz : m c_R_length = nI n) (b : Nat) (s : Int32) (k : Nat) (P : pv_R)
    (h1 : sp_c (a c_A_collected) n (sp_x (a c_A_collected) n p) = 59 → pv_call cq_mt (d + 1) cq_m_Reader_expect [.ref 3, .int 59] (cs (upd m c_R_at (nI (sp_x (a c_A_collected) n p))) a l w) (bz P))
    (h2 : ¬ sp_c (a c_A_collected) n (sp_x (a c_A_collected) n p) = 59 → pv_call cq_mt (d + 1) cq_m_Reader_expression [.ref 3, .int 0] (cs (upd m c_R_at (nI (sp_x (a c_A_collected) n p))) a l w) (bq l w (fun S => P (some (.int 0)) S) (fun m a => pv_call cq_mt (d + 1) cq_m_Reader_expect [.ref 3, .int 59] (cs m a l w) (bz P)))) : pv_go cq_T39 1 (pv_call cq_mt (d + 1)) P (374, rL b s k, [], cs m a l w) := by
  refine pv_run [391] 60 ?_
  refine cc_sign d m a hn hp hat hsz _ ?_
  refine And.intro (fun q => ?_) (fun q => ?_)
  · exact r391 (d + 1) _ a b s k P (h1 q)
  · refine pv_call_cm cq_mt (d + 1) _ _ _ _ _ ?_ (h2 q)
    intro o S h
    rcases h with ⟨rfl, h⟩ | ⟨rfl, m, a, rfl, h⟩
    · refine And.intro (fun _ => ?_) (fun q => absurd rfl q)
      exact And.intro (Or.inl rfl) h
    · refine And.intro (fun q => absurd q (by decide)) (fun _ => ?_)
      exact r391 (d + 1) m a b s k P h
set_option maxRecDepth 100000 in
theorem r182 (d : Nat) (m : Nat → Int32) (a : Nat → Nat → Int32) {n p : Nat} (hn : n ≤ 240) (hp : p ≤ n) (hat : m c_R_at = nI p) (hsz : m c_R_length = nI n) (b : Nat) (s : Int32) (k : Nat) (P : pv_R)
    (h1 : sp_c (a c_A_collected) n (sp_x (a c_A_collected) n p) = 69 → pv_call cq_mt (d + 1) cq_m_Reader_expect [.ref 3, .int 69] (cs (upd m c_R_at (nI (sp_x (a c_A_collected) n p))) a l w) (bq l w (fun S => P (some (.int 0)) S) (fun m a => pv_call cq_mt (d + 1) cq_m_Reader_body [.ref 3, .int (nI (k + 1))] (cs m a l w) (bz P))))
    (h2 : ¬ sp_c (a c_A_collected) n (sp_x (a c_A_collected) n p) = 69 → P (some (.int 1)) (cs (upd m c_R_at (nI (sp_x (a c_A_collected) n p))) a l w)) : pv_go cq_T39 1 (pv_call cq_mt (d + 1)) P (182, rL b s k, [], cs m a l w) := by
  refine pv_run [191] 60 ?_
  refine cc_sign d m a hn hp hat hsz _ ?_
  refine And.intro (fun q => ?_) (fun q => ?_)
  · exact r191 (d + 1) _ a b s k P (h1 q)
  · exact And.intro (Or.inr rfl) (h2 q)
set_option maxRecDepth 100000 in
theorem r166 (d : Nat) (m : Nat → Int32) (a : Nat → Nat → Int32) (b : Nat) (s : Int32) (k : Nat) (P : pv_R) (h : pv_call cq_mt d cq_m_Reader_condition [.ref 3] (cs m a l w) (bq l w (fun S => P (some (.int 0)) S) (fun m a => pv_call cq_mt d cq_m_Reader_body [.ref 3, .int (nI (k + 1))] (cs m a l w) (bq l w (fun S => P (some (.int 0)) S) (fun m a => pv_go cq_T39 1 (pv_call cq_mt d) P (182, rL b s k, [], cs m a l w)))))) : pv_go cq_T39 1 (pv_call cq_mt d) P (166, rL b s k, [], cs m a l w) := by
  have bad : ∀ S, P (some (.int 0)) S → pv_go cq_T39 1 (pv_call cq_mt d) P (213, rL b s k, [], S) := by
    intro S hS
    refine pv_run [] 20 ?_
    exact And.intro (Or.inl rfl) hS
  refine pv_run [182, 213] 60 ?_
  refine pv_call_cm cq_mt d _ _ _ _ _ ?_ h
  intro o S h
  rcases h with ⟨rfl, h⟩ | ⟨rfl, m, a, rfl, h⟩
  · exact And.intro (fun _ => bad S h) (fun q => absurd rfl q)
  · refine And.intro (fun q => absurd q (by decide)) (fun _ => ?_)
    refine pv_call_cm cq_mt d _ _ _ _ _ ?_ h
    intro o S h
    rcases h with ⟨rfl, h⟩ | ⟨rfl, m, a, rfl, h⟩
    · exact And.intro (fun _ => bad S h) (fun q => absurd rfl q)
    · refine And.intro (fun q => absurd q (by decide)) (fun _ => ?_)
      exact h
set_option maxRecDepth 100000 in
theorem cc_rest (d : Nat) (S : pv_S) (b k s : Nat) (hs : s < 256) (P : pv_R) (h : ∀ pc, pc = (if s = 36 then 128 else if s = 37 then 128 else if s = 58 then 142 else if s = 66 then 366 else if s = 67 then 366 else if s = 68 then 237 else if s = 70 then 268 else if s = 73 then 166 else if s = 82 then 374 else if s = 83 then 326 else if s = 84 then 358 else if s = 87 then 215 else if s = 88 then 374 else if s = 123 then 135 else 406) → pv_go cq_T39 1 (pv_call cq_mt d) P (pc, rL b (nI s) k, [], S)) : pv_call cq_mt (d + 1) cq_m_Reader_statementRest [.ref 3, .int (nI b), .int (nI s), .int (nI k)] S P := by
  have nI_of : ∀ x : Nat, x < 256 → (nI s = nI x ↔ s = x) := fun x hx => nI_eq (by omega) (by omega)
  have go : ∀ pc, pc = (if s = 36 then 128 else if s = 37 then 128 else if s = 58 then 142 else if s = 66 then 366 else if s = 67 then 366 else if s = 68 then 237 else if s = 70 then 268 else if s = 73 then 166 else if s = 82 then 374 else if s = 83 then 326 else if s = 84 then 358 else if s = 87 then 215 else if s = 88 then 374 else if s = 123 then 135 else 406) → pv_go cq_T39 1 (pv_call cq_mt d) P (pc, [(0, .ref 3), (1, .int (nI b)), (2, .int (nI s)), (3, .int (nI k)), (4, .int (nI k + 1))], [], S) := by
    intro pc hpc
    rw [nI_1]
    exact h pc hpc
  refine pv_call_of rfl rfl rfl (pv_run [128, 142, 366, 237, 268, 166, 374, 326, 358, 215, 135, 406] 40 ?_)
  refine And.intro (fun q => go 128 ?_) (fun q36 => ?_)
  · have q := (nI_of 36 (by decide)).mp q
    rw [q]; rfl
  have q36 : ¬ s = 36 := fun e => q36 ((nI_of 36 (by decide)).mpr e)
  refine And.intro (fun q => go 128 ?_) (fun q37 => ?_)
  · have q := (nI_of 37 (by decide)).mp q
    rw [q]; rfl
  have q37 : ¬ s = 37 := fun e => q37 ((nI_of 37 (by decide)).mpr e)
  refine And.intro (fun q => go 142 ?_) (fun q58 => ?_)
  · have q := (nI_of 58 (by decide)).mp q
    rw [q]; rfl
  have q58 : ¬ s = 58 := fun e => q58 ((nI_of 58 (by decide)).mpr e)
  refine And.intro (fun q => go 366 ?_) (fun q66 => ?_)
  · have q := (nI_of 66 (by decide)).mp q
    rw [q]; rfl
  have q66 : ¬ s = 66 := fun e => q66 ((nI_of 66 (by decide)).mpr e)
  refine And.intro (fun q => go 366 ?_) (fun q67 => ?_)
  · have q := (nI_of 67 (by decide)).mp q
    rw [q]; rfl
  have q67 : ¬ s = 67 := fun e => q67 ((nI_of 67 (by decide)).mpr e)
  refine And.intro (fun q => go 237 ?_) (fun q68 => ?_)
  · have q := (nI_of 68 (by decide)).mp q
    rw [q]; rfl
  have q68 : ¬ s = 68 := fun e => q68 ((nI_of 68 (by decide)).mpr e)
  refine And.intro (fun q => go 268 ?_) (fun q70 => ?_)
  · have q := (nI_of 70 (by decide)).mp q
    rw [q]; rfl
  have q70 : ¬ s = 70 := fun e => q70 ((nI_of 70 (by decide)).mpr e)
  refine And.intro (fun q => go 166 ?_) (fun q73 => ?_)
  · have q := (nI_of 73 (by decide)).mp q
    rw [q]; rfl
  have q73 : ¬ s = 73 := fun e => q73 ((nI_of 73 (by decide)).mpr e)
  refine And.intro (fun q => go 374 ?_) (fun q82 => ?_)
  · have q := (nI_of 82 (by decide)).mp q
    rw [q]; rfl
  have q82 : ¬ s = 82 := fun e => q82 ((nI_of 82 (by decide)).mpr e)
  refine And.intro (fun q => go 326 ?_) (fun q83 => ?_)
  · have q := (nI_of 83 (by decide)).mp q
    rw [q]; rfl
  have q83 : ¬ s = 83 := fun e => q83 ((nI_of 83 (by decide)).mpr e)
  refine And.intro (fun q => go 358 ?_) (fun q84 => ?_)
  · have q := (nI_of 84 (by decide)).mp q
    rw [q]; rfl
  have q84 : ¬ s = 84 := fun e => q84 ((nI_of 84 (by decide)).mpr e)
  refine And.intro (fun q => go 215 ?_) (fun q87 => ?_)
  · have q := (nI_of 87 (by decide)).mp q
    rw [q]; rfl
  have q87 : ¬ s = 87 := fun e => q87 ((nI_of 87 (by decide)).mpr e)
  refine And.intro (fun q => go 374 ?_) (fun q88 => ?_)
  · have q := (nI_of 88 (by decide)).mp q
    rw [q]; rfl
  have q88 : ¬ s = 88 := fun e => q88 ((nI_of 88 (by decide)).mpr e)
  refine And.intro (fun q => go 135 ?_) (fun q123 => ?_)
  · have q := (nI_of 123 (by decide)).mp q
    rw [q]; rfl
  have q123 : ¬ s = 123 := fun e => q123 ((nI_of 123 (by decide)).mpr e)
  refine go 406 ?_
  rw [if_neg q36, if_neg q37, if_neg q58, if_neg q66, if_neg q67, if_neg q68, if_neg q70, if_neg q73, if_neg q82, if_neg q83, if_neg q84, if_neg q87, if_neg q88, if_neg q123]
set_option maxRecDepth 100000 in
theorem cc_body (d : Nat) (m : Nat → Int32) (a : Nat → Nat → Int32) {n p : Nat} (hn : n ≤ 240) (hp : p ≤ n) (hat : m c_R_at = nI p) (hsz : m c_R_length = nI n) (k : Int32) (P : pv_R)
    (h1 : (sp_c (a c_A_collected) n (sp_x (a c_A_collected) n p) = 36 ∨ sp_c (a c_A_collected) n (sp_x (a c_A_collected) n p) = 37) → P (some (.int 0)) (cs (upd (upd m c_R_at (nI (sp_x (a c_A_collected) n p))) c_R_faultAt (nI (sp_x (a c_A_collected) n p))) a l w))
    (h2 : ¬ (sp_c (a c_A_collected) n (sp_x (a c_A_collected) n p) = 36 ∨ sp_c (a c_A_collected) n (sp_x (a c_A_collected) n p) = 37) → pv_call cq_mt (d + 1) cq_m_Reader_statement [.ref 3, .int k] (cs (upd m c_R_at (nI (sp_x (a c_A_collected) n p))) a l w) (bz P)) : pv_call cq_mt (d + 2) cq_m_Reader_body [.ref 3, .int k] (cs m a l w) P := by
  refine pv_call_of rfl rfl rfl (pv_run [17] 60 ?_)
  refine cc_sign d m a hn hp hat hsz _ ?_
  generalize sp_x (a c_A_collected) n p = q at *
  generalize hcc : sp_c (a c_A_collected) n q = c at *
  have g : (c = 36 ∨ c = 37) → pv_go cq_T41 1 (pv_call cq_mt (d + 1)) P (17, [(0, .ref 3), (1, .int k), (2, .int c)], [], cs (upd m c_R_at (nI q)) a l w) := by
    intro hc
    refine pv_run [] 40 ?_
    refine cc_fail d (upd m c_R_at (nI q)) a _ ?_
    exact And.intro (Or.inl rfl) (h1 hc)
  refine And.intro (fun e => g (Or.inl e)) (fun e1 => ?_)
  refine And.intro (fun e => g (Or.inr e)) (fun e2 => ?_)
  refine pv_call_cm cq_mt (d + 1) _ _ _ _ _ ?_ (h2 (fun r => r.elim e1 e2))
  intro o S h
  rcases h with ⟨rfl, h⟩ | ⟨rfl, h⟩
  · exact And.intro (Or.inl rfl) h
  · exact And.intro (Or.inr rfl) h
abbrev bL (k : Nat) (o : Int32) (i : Nat) : pv_L := [(0, .ref 3), (1, .int (nI k)), (2, .int o), (3, .int (nI i))]
set_option maxRecDepth 100000 in
theorem cc_block (d : Nat) (m : Nat → Int32) (a : Nat → Nat → Int32) (k : Nat) (P : pv_R) (h : pv_call cq_mt d cq_m_Reader_expect [.ref 3, .int 123] (cs m a l w) (bq l w (fun S => P (some (.int 0)) S) (fun m' a' => pv_go cq_T43 1 (pv_call cq_mt d) P (18, bL k (m c_R_there) 0, [], cs m' a' l w)))) : pv_call cq_mt (d + 1) cq_m_Reader_block [.ref 3, .int (nI k)] (cs m a l w) P := by
  refine pv_call_of rfl rfl rfl (pv_run [18] 60 ?_)
  refine pv_call_cm cq_mt d _ _ _ _ _ ?_ h
  intro o S h
  rcases h with ⟨rfl, h⟩ | ⟨rfl, m', a', rfl, h⟩
  · refine And.intro (fun _ => ?_) (fun q => absurd rfl q)
    exact And.intro (Or.inl rfl) h
  · refine And.intro (fun q => absurd q (by decide)) (fun _ => ?_)
    exact h
set_option maxRecDepth 100000 in
theorem bk_18 (d : Nat) (m : Nat → Int32) (a : Nat → Nat → Int32) {n p i : Nat} (hn : n ≤ 240) (hp : p ≤ n) (hat : m c_R_at = nI p) (hsz : m c_R_length = nI n) (hi : i < 240) (k : Nat) (o : Int32) (P : pv_R)
    (h1 : sp_c (a c_A_collected) n (sp_x (a c_A_collected) n p) = 125 → pv_call cq_mt (d + 1) cq_m_Reader_expect [.ref 3, .int 125] (cs (upd (upd m c_R_at (nI (sp_x (a c_A_collected) n p))) c_R_there o) a l w) (bz P))
    (h2 : ¬ sp_c (a c_A_collected) n (sp_x (a c_A_collected) n p) = 125 → pv_call cq_mt (d + 1) cq_m_Reader_statement [.ref 3, .int (nI k)] (cs (upd m c_R_at (nI (sp_x (a c_A_collected) n p))) a l w) (bq l w (fun S => P (some (.int 0)) S) (fun m' a' => pv_go cq_T43 1 (pv_call cq_mt (d + 1)) P (18, bL k o (i + 1), [], cs m' a' l w)))) : pv_go cq_T43 1 (pv_call cq_mt (d + 1)) P (18, bL k o i, [], cs m a l w) := by
  refine pv_run [18, 50] 60 ?_
  refine And.intro (fun q => ?_) (fun _ => ?_)
  · exfalso
    have q : (240 : Int32) ≤ nI i := q
    rw [show (240 : Int32) = nI 240 from rfl, nI_leI (by omega) (by omega)] at q
    omega
  refine cc_sign d m a hn hp hat hsz _ ?_
  generalize sp_x (a c_A_collected) n p = q at *
  refine And.intro (fun e => ?_) (fun e => ?_)
  · have h1 := h1 e
    show pv_go cq_T43 1 (pv_call cq_mt (d + 1)) P (50, bL k o i, [], cs (upd m c_R_at (nI q)) a l w)
    refine pv_run [] 40 ?_
    refine pv_call_cm cq_mt (d + 1) _ _ _ _ _ ?_ h1
    intro o S h
    rcases h with ⟨rfl, h⟩ | ⟨rfl, h⟩
    · exact And.intro (Or.inl rfl) h
    · exact And.intro (Or.inr rfl) h
  · refine pv_call_cm cq_mt (d + 1) _ _ _ _ _ ?_ (h2 e)
    intro o' S h
    rcases h with ⟨rfl, h⟩ | ⟨rfl, m', a', rfl, h⟩
    · refine And.intro (fun _ => ?_) (fun q => absurd rfl q)
      exact And.intro (Or.inl rfl) h
    · refine And.intro (fun q => absurd q (by decide)) (fun _ => ?_)
      show pv_go cq_T43 1 (pv_call cq_mt (d + 1)) P (18, [(0, .ref 3), (1, .int (nI k)), (2, .int o), (3, .int (nI i + 1))], [], cs m' a' l w)
      rw [nI_1]
      exact h
end CH
