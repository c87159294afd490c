section CK
variable {l : Nat → Nat → Int64} {w : Int64}
abbrev vq (l : Nat → Nat → Int64) (w : Int64) (T : (Nat → Int32) → (Nat → Nat → Int32) → Prop) : pv_R := fun o S => o = none ∧ ∃ m a, S = cs m a l w ∧ T m a
abbrev iL (s k : Nat) (o ho fi en : Int32) (i : Nat) : pv_L := [(0, .ref 3), (1, .int (nI s)), (2, .int (nI k)), (3, .int o), (4, .int ho), (5, .int fi), (6, .int en), (7, .int (nI i))]
set_option maxRecDepth 100000 in
theorem cc_items (d : Nat) (m : Nat → Int32) (a : Nat → Nat → Int32) (s k : Nat) (P : pv_R) (h : pv_go cq_T44 1 (pv_call cq_mt d) P (17, iL s k (m c_R_there) 0 1 0 0 ++ [], [], cs m a l w)) : pv_call cq_mt (d + 1) cq_m_Reader_items [.ref 3, .int (nI s), .int (nI k)] (cs m a l w) P := by
  refine pv_call_of rfl rfl rfl (pv_run [17] 40 ?_)
  exact h
set_option maxRecDepth 100000 in
theorem it_17 (d : Nat) (m : Nat → Int32) (a : Nat → Nat → Int32) {n p i B : Nat} (hn : n ≤ 240) (hp : p ≤ n) (hat : m c_R_at = nI p) (hsz : m c_R_length = nI n) (hi : i < 240) (hs : m c_P_size = nI B) (s k : Nat) (o ho fi en : Int32) (L : pv_L) (hL : L = [] ∨ ∃ c x, L = [(8, .int c), (9, .int x)]) (P : pv_R)
    (h1 : sp_c (a c_A_collected) n (sp_x (a c_A_collected) n p) = 125 → pv_go cq_T44 1 (pv_call cq_mt (d + 1)) P (152, iL s k o ho fi en i ++ L, [], cs (upd m c_R_at (nI (sp_x (a c_A_collected) n p))) a l w))
    (h2 : ¬ sp_c (a c_A_collected) n (sp_x (a c_A_collected) n p) = 125 → pv_go cq_T44 1 (pv_call cq_mt (d + 1)) P (49, iL s k o ho fi en i ++ [(8, .int (sp_c (a c_A_collected) n (sp_x (a c_A_collected) n p))), (9, .int (nI B))], [], cs (upd m c_R_at (nI (sp_x (a c_A_collected) n p))) a l w)) : pv_go cq_T44 1 (pv_call cq_mt (d + 1)) P (17, iL s k o ho fi en i ++ L, [], cs m a l w) := by
  have lt : ¬ (240 : Int32) ≤ nI i := by
    rw [show (240 : Int32) = nI 240 from rfl, nI_leI (by omega) (by omega)]
    omega
  have hxx := sp_x_x (tx := a c_A_collected) hp
  have hq := (sp_x_le (tx := a c_A_collected) hp).2
  have hs1 : (upd m c_R_at (nI (sp_x (a c_A_collected) n p))) c_P_size = nI B := hs
  rcases hL with rfl | ⟨c0, x0, rfl⟩
  · refine pv_run [49, 152] 60 ?_
    refine And.intro (fun q => absurd q lt) (fun _ => ?_)
    refine cc_sign d m a hn hp hat hsz _ ?_
    refine And.intro (fun e => h1 e) (fun e => ?_)
    have h2 := h2 e
    refine cc_sign d (upd m c_R_at (nI (sp_x (a c_A_collected) n p))) a (p := sp_x (a c_A_collected) n p) hn hq rfl hsz _ ?_
    rw [hxx, upd_upd]
    generalize sp_x (a c_A_collected) n p = q at *
    generalize sp_c (a c_A_collected) n q = c at *
    generalize upd m c_R_at (nI q) = m1 at *
    rw [← hs1] at h2
    exact h2
  · refine pv_run [49, 152] 60 ?_
    refine And.intro (fun q => absurd q lt) (fun _ => ?_)
    refine cc_sign d m a hn hp hat hsz _ ?_
    refine And.intro (fun e => h1 e) (fun e => ?_)
    have h2 := h2 e
    refine cc_sign d (upd m c_R_at (nI (sp_x (a c_A_collected) n p))) a (p := sp_x (a c_A_collected) n p) hn hq rfl hsz _ ?_
    rw [hxx, upd_upd]
    generalize sp_x (a c_A_collected) n p = q at *
    generalize sp_c (a c_A_collected) n q = c at *
    generalize upd m c_R_at (nI q) = m1 at *
    rw [← hs1] at h2
    exact h2
set_option maxRecDepth 100000 in
theorem it_49 (d : Nat) (m : Nat → Int32) (a : Nat → Nat → Int32) {q i B : Nat} (hat : m c_R_at = nI q) (s k : Nat) (o ho fi en c : Int32) (hho : ho = 0 ∨ ho = 1) (hfi : fi = 0 ∨ fi = 1) (P : pv_R)
    (h1 : (c = 76 ∨ (c = 79 ∧ ho = 0)) → pv_call cq_mt (d + 1) cq_m_Reader_expect [.ref 3, .int 58] (cs (upd m c_R_at (nI (q + 1))) a l w) (bq l w (fun S => P (some (.int 0)) S) (fun m' a' => pv_go cq_T44 1 (pv_call cq_mt (d + 1)) P (17, iL s k o (if c = 79 then 1 else ho) 0 1 (i + 1) ++ [(8, .int c), (9, .int (nI B))], [], cs m' a' l w))))
    (h2 : ¬ (c = 76 ∨ (c = 79 ∧ ho = 0)) → fi = 1 → P (some (.int 0)) (cs (upd m c_R_faultAt (nI q)) a l w))
    (h3 : ¬ (c = 76 ∨ (c = 79 ∧ ho = 0)) → fi = 0 → pv_call cq_mt (d + 1) cq_m_Reader_statement [.ref 3, .int (nI k)] (cs m a l w) (bq l w (fun S => P (some (.int 0)) S) (fun m' a' => pv_call cq_mt (d + 1) cq_m_Reader_enter [.ref 3, .int (nI B), .int en] (cs m' a' l w) (vq l w (fun m' a' => pv_go cq_T44 1 (pv_call cq_mt (d + 1)) P (17, iL s k o ho 0 0 (i + 1) ++ [(8, .int c), (9, .int (nI B))], [], cs m' a' l w)))))) :
    pv_go cq_T44 1 (pv_call cq_mt (d + 1)) P (49, iL s k o ho fi en i ++ [(8, .int c), (9, .int (nI B))], [], cs m a l w) := by
  have g1 : (c = 76 ∨ (c = 79 ∧ ho = 0)) → pv_go cq_T44 1 (pv_call cq_mt (d + 1)) P (68, iL s k o ho fi en i ++ [(8, .int c), (9, .int (nI B))], [], cs m a l w) := by
    intro hc
    have h1 := h1 hc
    refine pv_run [17] 60 ?_
    show pv_call cq_mt (d + 1) 34 [.ref 3, .int 58] (cs (upd m c_R_at (m 7 + 1)) a l w) _
    rw [show m 7 = nI q from hat, nI_1]
    refine pv_call_cm cq_mt (d + 1) _ _ _ _ _ ?_ h1
    intro o' S h
    rcases h with ⟨rfl, h⟩ | ⟨rfl, m', a', rfl, h⟩
    · refine And.intro (fun _ => ?_) (fun q => absurd rfl q)
      exact And.intro (Or.inl rfl) h
    · refine And.intro (fun q => absurd q (by decide)) (fun _ => ?_)
      refine And.intro (fun e => ?_) (fun e => ?_)
      rotate_left
      · rw [if_neg e] at h
        show pv_go cq_T44 1 (pv_call cq_mt (d + 1)) P (17, [(0, .ref 3), (1, .int (nI s)), (2, .int (nI k)), (3, .int o), (4, .int (ho ||| 0)), (5, .int 0), (6, .int 1), (7, .int (nI i + 1)), (8, .int c), (9, .int (nI B))], [], cs m' a' l w)
        rw [nI_1]
        rcases hho with rfl | rfl
        · exact h
        · exact h
      · rw [if_pos e] at h
        show pv_go cq_T44 1 (pv_call cq_mt (d + 1)) P (17, [(0, .ref 3), (1, .int (nI s)), (2, .int (nI k)), (3, .int o), (4, .int (ho ||| 1)), (5, .int 0), (6, .int 1), (7, .int (nI i + 1)), (8, .int c), (9, .int (nI B))], [], cs m' a' l w)
        rw [nI_1]
        rcases hho with rfl | rfl
        · exact h
        · exact h
  have g2 : ¬ (c = 76 ∨ (c = 79 ∧ ho = 0)) → pv_go cq_T44 1 (pv_call cq_mt (d + 1)) P (112, iL s k o ho fi en i ++ [(8, .int c), (9, .int (nI B))], [], cs m a l w) := by
    intro hc
    rcases hfi with rfl | rfl
    · have h3 := h3 hc rfl
      refine pv_run [17] 60 ?_
      refine And.intro (fun _ => ?_) (fun q => absurd rfl q)
      refine pv_call_cm cq_mt (d + 1) _ _ _ _ _ ?_ h3
      intro o' S h
      rcases h with ⟨rfl, h⟩ | ⟨rfl, m', a', rfl, h⟩
      · refine And.intro (fun _ => ?_) (fun q => absurd rfl q)
        exact And.intro (Or.inl rfl) h
      · refine And.intro (fun q => absurd q (by decide)) (fun _ => ?_)
        refine pv_call_cm cq_mt (d + 1) _ _ _ _ _ ?_ h
        intro o' S h
        obtain ⟨rfl, m'', a'', rfl, h⟩ := h
        show pv_go cq_T44 1 (pv_call cq_mt (d + 1)) P (17, [(0, .ref 3), (1, .int (nI s)), (2, .int (nI k)), (3, .int o), (4, .int ho), (5, .int 0), (6, .int 0), (7, .int (nI i + 1)), (8, .int c), (9, .int (nI B))], [], cs m'' a'' l w)
        rw [nI_1]
        exact h
    · have h2 := h2 hc rfl
      refine pv_run [] 60 ?_
      refine And.intro (fun q => absurd q (by decide)) (fun _ => ?_)
      refine cc_fail d m a _ ?_
      rw [hat]
      exact And.intro (Or.inl rfl) h2
  refine pv_run [68, 112] 20 ?_
  refine And.intro (fun e => g1 (Or.inl e)) (fun e => ?_)
  refine And.intro (fun e2 => ?_) (fun e2 => g2 (fun r => r.elim e (fun r => e2 r.1)))
  refine And.intro (fun e3 => ?_) (fun e3 => g2 (fun r => r.elim e (fun r => e3 r.2)))
  exact g1 (Or.inr ⟨e2, e3⟩)
set_option maxRecDepth 100000 in
theorem it_152 (d : Nat) (m : Nat → Int32) (a : Nat → Nat → Int32) {i : Nat} (s k : Nat) (o ho fi en : Int32) (hho : ho = 0 ∨ ho = 1) (hen : en = 0 ∨ en = 1) (L : pv_L) (P : pv_R)
    (h : pv_call cq_mt d cq_m_Reader_skip [.ref 3, .int (nI s), .int (if en = 1 ∨ ho = 0 then 1 else 0)] (cs (upd m c_R_there o) a l w) (vq l w (fun m' a' => pv_call cq_mt d cq_m_Reader_expect [.ref 3, .int 125] (cs m' a' l w) (bz P)))) : pv_go cq_T44 1 (pv_call cq_mt d) P (152, iL s k o ho fi en i ++ L, [], cs m a l w) := by
  have g : ∀ x : Int32, x = (if en = 1 ∨ ho = 0 then 1 else 0) → pv_go cq_T44 1 (pv_call cq_mt d) P (174, iL s k o ho fi en i ++ L, [.int x, .int (nI s), .ref 3], cs (upd m c_R_there o) a l w) := by
    intro x hx
    rw [← hx] at h
    refine pv_run [] 40 ?_
    refine pv_call_cm cq_mt d _ _ _ _ _ ?_ h
    intro o' S h
    obtain ⟨rfl, m'', a'', rfl, h⟩ := h
    refine pv_call_cm cq_mt d _ _ _ _ _ ?_ h
    intro o S h
    rcases h with ⟨rfl, h⟩ | ⟨rfl, h⟩
    · exact And.intro (Or.inl rfl) h
    · exact And.intro (Or.inr rfl) h
  refine pv_run [174] 40 ?_
  refine And.intro (fun e => ?_) (fun e => ?_)
  · have e : en = 0 := e
    refine And.intro (fun e2 => ?_) (fun e2 => ?_)
    · exact g 1 (by rw [if_pos (Or.inr e2)])
    · exact g 0 (by rw [if_neg (fun r => r.elim (fun r => absurd (e.symm.trans r) (by decide)) e2)])
  · rcases hen with rfl | rfl
    · exact absurd rfl e
    · exact g 1 (by rw [if_pos (Or.inl rfl)])
abbrev tpL (t k : Nat) : pv_L := [(0, .ref 3), (1, .int (nI t)), (2, .int (nI k))]
set_option maxRecDepth 100000 in
theorem tp_96 (d : Nat) (m : Nat → Int32) (a : Nat → Nat → Int32) {q t B : Nat} (ht : t < 241) (hat : m c_R_at = nI q) (hs : m c_P_size = nI B) (k : Nat) (c : Int32) (P : pv_R) (h : pv_call cq_mt d cq_m_Reader_block [.ref 3, .int (nI k)] (cs (upd m c_R_at (nI (q + 1))) (up2 a c_P_finallyFrom t (nI B)) l w) (bz P)) : pv_go cq_T47 1 (pv_call cq_mt d) P (96, tpL t k ++ [(3, .int c)], [], cs m a l w) := by
  have it : vp_in (nI t) 241 := vp_in_nI (by omega) (by decide)
  have ct : (nI t).toNatClampNeg = t := nI_clamp (by omega)
  refine pv_run [] 40 ?_
  refine And.intro it ?_
  rw [← nI_1, ← show m 7 = nI q from hat, ← show m 4 = nI B from hs] at h
  have h : pv_call cq_mt d cq_m_Reader_block [.ref 3, .int (nI k)] (cs (upd m c_R_at (m 7 + 1)) (up2 a c_P_finallyFrom (nI t).toNatClampNeg (m 4)) l w) (bz P) := by rw [ct]; exact h
  refine pv_call_cm cq_mt d _ _ _ _ _ ?_ h
  intro o S h
  rcases h with ⟨rfl, h⟩ | ⟨rfl, h⟩
  · exact And.intro (Or.inl rfl) h
  · exact And.intro (Or.inr rfl) h
set_option maxRecDepth 100000 in
theorem tp_85 (d : Nat) (m : Nat → Int32) (a : Nat → Nat → Int32) {n p t B : Nat} (hn : n ≤ 240) (hp : p ≤ n) (hat : m c_R_at = nI p) (hsz : m c_R_length = nI n) (ht : t < 241) (hs : m c_P_size = nI B) (k : Nat) (c : Int32) (P : pv_R)
    (h0 : ¬ sp_c (a c_A_collected) n (sp_x (a c_A_collected) n p) = 78 → P (some (.int 1)) (cs (upd m c_R_at (nI (sp_x (a c_A_collected) n p))) a l w))
    (h1 : sp_c (a c_A_collected) n (sp_x (a c_A_collected) n p) = 78 → pv_call cq_mt (d + 1) cq_m_Reader_block [.ref 3, .int (nI k)] (cs (upd m c_R_at (nI (sp_x (a c_A_collected) n p + 1))) (up2 a c_P_finallyFrom t (nI B)) l w) (bz P)) : pv_go cq_T47 1 (pv_call cq_mt (d + 1)) P (85, tpL t k ++ [(3, .int c)], [], cs m a l w) := by
  refine pv_run [96] 40 ?_
  refine cc_sign d m a hn hp hat hsz _ ?_
  generalize sp_x (a c_A_collected) n p = q at *
  refine And.intro (fun e => ?_) (fun e => ?_)
  · have h1 := h1 e
    rw [← upd_upd m c_R_at (nI q)] at h1
    exact tp_96 (d + 1) (upd m c_R_at (nI q)) a ht rfl hs k c P h1
  · exact And.intro (Or.inr rfl) (h0 e)
set_option maxRecDepth 100000 in
theorem tp_43 (d : Nat) (m : Nat → Int32) (a : Nat → Nat → Int32) {q t B : Nat} (ht : t < 241) (hat : m c_R_at = nI q) (hs : m c_P_size = nI B) (k : Nat) (c : Int32) (P : pv_R)
    (h0 : ¬ c = 75 → pv_go cq_T47 1 (pv_call cq_mt d) P (85, tpL t k ++ [(3, .int c)], [], cs m a l w))
    (h1 : c = 75 → pv_call cq_mt d cq_m_Reader_block [.ref 3, .int (nI k)] (cs (upd m c_R_at (nI (q + 1))) (up2 a c_P_catchFrom t (nI B)) l w) (bq l w (fun S => P (some (.int 0)) S) (fun m' a' => pv_go cq_T47 1 (pv_call cq_mt d) P (85, tpL t k ++ [(3, .int c)], [], cs m' a' l w)))) : pv_go cq_T47 1 (pv_call cq_mt d) P (43, tpL t k ++ [(3, .int c)], [], cs m a l w) := by
  have it : vp_in (nI t) 241 := vp_in_nI (by omega) (by decide)
  have ct : (nI t).toNatClampNeg = t := nI_clamp (by omega)
  refine pv_run [85] 40 ?_
  refine And.intro (fun e => ?_) (fun e => h0 e)
  have h := h1 e
  refine And.intro it ?_
  rw [← nI_1, ← show m 7 = nI q from hat, ← show m 4 = nI B from hs] at h
  have h : pv_call cq_mt d cq_m_Reader_block [.ref 3, .int (nI k)] (cs (upd m c_R_at (m 7 + 1)) (up2 a c_P_catchFrom (nI t).toNatClampNeg (m 4)) l w) (bq l w (fun S => P (some (.int 0)) S) (fun m' a' => pv_go cq_T47 1 (pv_call cq_mt d) P (85, tpL t k ++ [(3, .int c)], [], cs m' a' l w))) := by rw [ct]; exact h
  refine pv_call_cm cq_mt d _ _ _ _ _ ?_ h
  intro o S h
  rcases h with ⟨rfl, h⟩ | ⟨rfl, m', a', rfl, h⟩
  · refine And.intro (fun _ => ?_) (fun q => absurd rfl q)
    exact And.intro (Or.inl rfl) h
  · exact And.intro (fun q => absurd q (by decide)) (fun _ => h)
set_option maxRecDepth 100000 in
theorem cc_tryParts (d : Nat) (m : Nat → Int32) (a : Nat → Nat → Int32) {t B : Nat} (ht : t < B) (hB : B ≤ 241) (hs : m c_P_size = nI B) (k : Nat) (P : pv_R)
    (h : pv_call cq_mt (d + 1) cq_m_Reader_block [.ref 3, .int (nI k)] (cs m a l w) (bq l w (fun S => P (some (.int 0)) S) (fun m' a' => pv_go cq_T47 1 (pv_call cq_mt (d + 1)) P (21, tpL t k, [], cs m' a' l w)))) : pv_call cq_mt (d + 2) cq_m_Reader_tryParts [.ref 3, .int (nI t), .int (nI k)] (cs m a l w) P := by
  refine pv_call_of rfl rfl rfl (pv_run [21] 40 ?_)
  refine cc_has d m a (p := t) (b := B) (by omega) (by omega) hs _ (fun _ => ?_) (fun e => absurd ht e)
  refine And.intro (fun e => absurd e (by decide)) (fun _ => ?_)
  refine pv_call_cm cq_mt (d + 1) _ _ _ _ _ ?_ h
  intro o S h
  rcases h with ⟨rfl, h⟩ | ⟨rfl, m', a', rfl, h⟩
  · refine And.intro (fun _ => ?_) (fun q => absurd rfl q)
    exact And.intro (Or.inl rfl) h
  · exact And.intro (fun q => absurd q (by decide)) (fun _ => h)
set_option maxRecDepth 100000 in
theorem tp_21 (d : Nat) (m : Nat → Int32) (a : Nat → Nat → Int32) {n p t : Nat} (hn : n ≤ 240) (hp : p ≤ n) (hat : m c_R_at = nI p) (hsz : m c_R_length = nI n) (k : Nat) (P : pv_R)
    (h0 : ¬ (sp_c (a c_A_collected) n (sp_x (a c_A_collected) n p) = 75 ∨ sp_c (a c_A_collected) n (sp_x (a c_A_collected) n p) = 78) → P (some (.int 0)) (cs (upd (upd m c_R_at (nI (sp_x (a c_A_collected) n p))) c_R_faultAt (nI (sp_x (a c_A_collected) n p))) a l w))
    (h1 : (sp_c (a c_A_collected) n (sp_x (a c_A_collected) n p) = 75 ∨ sp_c (a c_A_collected) n (sp_x (a c_A_collected) n p) = 78) → pv_go cq_T47 1 (pv_call cq_mt (d + 1)) P (43, tpL t k ++ [(3, .int (sp_c (a c_A_collected) n (sp_x (a c_A_collected) n p)))], [], cs (upd m c_R_at (nI (sp_x (a c_A_collected) n p))) a l w)) : pv_go cq_T47 1 (pv_call cq_mt (d + 1)) P (21, tpL t k, [], cs m a l w) := by
  refine pv_run [43] 40 ?_
  refine cc_sign d m a hn hp hat hsz _ ?_
  generalize sp_x (a c_A_collected) n p = q at *
  generalize sp_c (a c_A_collected) n q = c at *
  refine And.intro (fun e => h1 (Or.inl e)) (fun e => ?_)
  refine And.intro (fun e2 => h1 (Or.inr e2)) (fun e2 => ?_)
  refine cc_fail d (upd m c_R_at (nI q)) a _ ?_
  exact And.intro (Or.inl rfl) (h0 (fun r => r.elim e e2))
set_option maxRecDepth 100000 in
theorem cc_pclear (d : Nat) (m : Nat → Int32) (a : Nat → Nat → Int32) (P : pv_R) (h : P none (cs (upd (upd m c_P_size 0) c_P_thereAtEnd 0) a l w)) : pv_call cq_mt (d + 1) cq_m_Places_clear [.ref 2] (cs m a l w) P := by
  refine pv_call_of rfl rfl rfl (pv_run [] 20 ?_)
  exact h
set_option maxRecDepth 100000 in
theorem cc_vclear (d : Nat) (m : Nat → Int32) (a : Nat → Nat → Int32) (P : pv_R) (h : P none (cs (upd m c_V_size 0) a l w)) : pv_call cq_mt (d + 1) cq_m_Variables_clear [.ref 1] (cs m a l w) P := by
  refine pv_call_of rfl rfl rfl (pv_run [] 20 ?_)
  exact h
def cm0 (m : Nat → Int32) (n : Nat) : Nat → Int32 := upd (upd (upd (upd (upd (upd (upd m c_R_length (nI n)) c_R_at 0) c_R_faultAt (-1)) c_R_there 0) c_P_size 0) c_P_thereAtEnd 0) c_V_size 0
theorem min240 {k : Nat} (hk : k ≤ 240) : (if (240 : Int32) < nI k then 240 else nI k) = nI k := by
  rw [if_neg]
  intro q
  rw [show (240 : Int32) = nI 240 from rfl, nI_ltI (by omega) (by omega)] at q
  omega
abbrev uL1 (n : Nat) (i : Nat) : pv_L := [(0, .ref 3), (1, .int (nI n)), (2, .int (nI i))]
set_option maxRecDepth 100000 in
theorem cc_readUnit (d : Nat) (m : Nat → Int32) (a : Nat → Nat → Int32) {n : Nat} (hn : n ≤ 240) (P : pv_R) (h : pv_go cq_T30 1 (pv_call cq_mt (d + 1)) P (44, uL1 n 0, [], cs (cm0 m n) a l w)) : pv_call cq_mt (d + 2) cq_m_Reader_readUnit [.ref 3, .int (nI n)] (cs m a l w) P := by
  have g : pv_go cq_T30 1 (pv_call cq_mt (d + 1)) P (13, [(0, .ref 3), (1, .int (nI n))], [], cs (upd m c_R_length (nI n)) a l w) := by
    unfold cm0 at h
    generalize upd m c_R_length (nI n) = m1 at *
    refine pv_run [44] 40 ?_
    refine cc_pclear d (upd (upd (upd m1 c_R_at 0) c_R_faultAt (-1)) c_R_there 0) a _ ?_
    refine cc_vclear d (upd (upd (upd (upd (upd m1 c_R_at 0) c_R_faultAt (-1)) c_R_there 0) c_P_size 0) c_P_thereAtEnd 0) a _ ?_
    exact h
  refine pv_call_of rfl rfl rfl (pv_run [13] 40 ?_)
  have g : pv_go cq_T30 1 (pv_call cq_mt (d + 1)) P (13, [(0, .ref 3), (1, .int (nI n))], [], cs (upd m c_R_length (if (240 : Int32) < nI n then 240 else nI n)) a l w) := by rw [min240 hn]; exact g
  exact g
set_option maxRecDepth 100000 in
theorem ru_44 (d : Nat) (m : Nat → Int32) (a : Nat → Nat → Int32) {n p i : Nat} (hn : n ≤ 240) (hp : p ≤ n) (hat : m c_R_at = nI p) (hsz : m c_R_length = nI n) (hi : i < 240) (P : pv_R)
    (h1 : sp_c (a c_A_collected) n (sp_x (a c_A_collected) n p) = -1 → P (some (.int 1)) (cs (upd (upd m c_R_at (nI (sp_x (a c_A_collected) n p))) c_P_thereAtEnd (m c_R_there)) a l w))
    (h2 : ¬ sp_c (a c_A_collected) n (sp_x (a c_A_collected) n p) = -1 → pv_call cq_mt (d + 1) cq_m_Reader_statement [.ref 3, .int (nI 0)] (cs (upd m c_R_at (nI (sp_x (a c_A_collected) n p))) a l w) (bq l w (fun S => P (some (.int 0)) S) (fun m' a' => pv_go cq_T30 1 (pv_call cq_mt (d + 1)) P (44, uL1 n (i + 1), [], cs m' a' l w)))) : pv_go cq_T30 1 (pv_call cq_mt (d + 1)) P (44, uL1 n i, [], cs m a l w) := by
  refine pv_run [44, 75] 60 ?_
  refine And.intro (fun q => ?_) (fun _ => ?_)
  · exfalso
    have q : (240 : Int32) ≤ nI i := q
    rw [show (240 : Int32) = nI 240 from rfl, nI_leI (by omega) (by omega)] at q
    omega
  refine cc_sign d m a hn hp hat hsz _ ?_
  generalize sp_x (a c_A_collected) n p = q at *
  refine And.intro (fun e => ?_) (fun e => ?_)
  · have h1 := h1 e
    show pv_go cq_T30 1 (pv_call cq_mt (d + 1)) P (75, uL1 n i, [], cs (upd m c_R_at (nI q)) a l w)
    refine pv_run [] 40 ?_
    exact And.intro (Or.inr rfl) h1
  · refine pv_call_cm cq_mt (d + 1) _ _ _ _ _ ?_ (h2 e)
    intro o' S h
    rcases h with ⟨rfl, h⟩ | ⟨rfl, m', a', rfl, h⟩
    · refine And.intro (fun _ => ?_) (fun q => absurd rfl q)
      exact And.intro (Or.inl rfl) h
    · refine And.intro (fun q => absurd q (by decide)) (fun _ => ?_)
      show pv_go cq_T30 1 (pv_call cq_mt (d + 1)) P (44, [(0, .ref 3), (1, .int (nI n)), (2, .int (nI i + 1))], [], cs m' a' l w)
      rw [nI_1]
      exact h
end CK
