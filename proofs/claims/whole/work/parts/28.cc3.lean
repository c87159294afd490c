/-- a call that answers yes or no -/
abbrev bz (P : pv_R) : pv_R := fun o S => (o = some (.int 0) ∧ P (some (.int 0)) S) ∨ (o = some (.int 1) ∧ P (some (.int 1)) S)
section CE
variable {l : Nat → Nat → Int64} {w : Int64}
/-- a call that answers yes or no, and goes on at yes -/
abbrev bq (l : Nat → Nat → Int64) (w : Int64) (F : pv_S → Prop) (T : (Nat → Int32) → (Nat → Nat → Int32) → Prop) : pv_R := fun o S => (o = some (.int 0) ∧ F S) ∨ (o = some (.int 1) ∧ ∃ m a, S = cs m a l w ∧ T m a)
set_option maxRecDepth 100000 in
theorem cc_leaf_bad (d : Nat) (m : Nat → Int32) (a : Nat → Nat → Int32) {V : Nat} (hV : V ≤ 12) (hs : m c_V_size = nI V) (c : Int32) (hnl : ¬ c = 48 ∧ ¬ c = 49 ∧ ¬ c = 35) (hv : (97 ≤ c ∧ c ≤ 122) → fnd a c (m c_R_there) V 0 = -1) (P : pv_R) (h : P (some (.int 0)) (cs (upd m c_R_faultAt (m c_R_at)) a l w)) : pv_call cq_mt (d + 2) cq_m_Reader_leaf [.ref 3, .int c] (cs m a l w) P := by
  have g : pv_go cq_T58 1 (pv_call cq_mt (d + 1)) P (23, [(0, .ref 3), (1, .int c)], [.int (-1)], cs m a l w) := by
    refine pv_run [] 60 ?_
    refine And.intro (fun _ => ?_) (fun q => absurd rfl q)
    refine And.intro (fun q => absurd q hnl.1) (fun _ => ?_)
    refine And.intro (fun q => absurd q hnl.2.1) (fun _ => ?_)
    refine And.intro (fun q => absurd q hnl.2.2) (fun _ => ?_)
    refine cc_fail d m a _ ?_
    exact And.intro (Or.inl rfl) h
  refine pv_call_of rfl rfl rfl (pv_run [23] 60 ?_)
  refine cc_isName d _ c _ ?_
  by_cases hc : 97 ≤ c ∧ c ≤ 122
  · rw [if_pos hc]
    refine And.intro (fun q => absurd q (by decide)) (fun _ => ?_)
    refine cc_find d m a hV hs c (m 9) _ ?_
    rw [show fnd a c (m 9) V 0 = -1 from hv hc]
    exact g
  · rw [if_neg hc]
    refine And.intro (fun _ => ?_) (fun q => absurd rfl q)
    exact g
set_option maxRecDepth 100000 in
theorem cc_leaf_81 (d : Nat) (m : Nat → Int32) (a : Nat → Nat → Int32) {q : Nat} (hat : m c_R_at = nI q) (c v : Int32) (P : pv_R) (h : P (some (.int 1)) (cs (upd m c_R_at (nI (q + 1))) a l w)) : pv_go cq_T58 1 (pv_call cq_mt d) P (81, [(0, .ref 3), (1, .int c), (2, .int v)], [], cs m a l w) := by
  refine pv_run [] 60 ?_
  rw [← nI_1, ← show m 7 = nI q from hat] at h
  exact And.intro (Or.inr rfl) h
set_option maxRecDepth 100000 in
theorem cc_leaf_lit (d : Nat) (m : Nat → Int32) (a : Nat → Nat → Int32) {b q : Nat} (hb : b < 241) (hs : m c_P_size = nI b) (hat : m c_R_at = nI q) (c : Int32) (hc : c = 48 ∨ c = 49 ∨ c = 35) (P : pv_R) (h : P (some (.int 1)) (cs (upd (upd m c_P_size (nI (b + 1))) c_R_at (nI (q + 1))) (apA a b c (nI q) (-1) (m c_R_there)) l w)) : pv_call cq_mt (d + 3) cq_m_Reader_leaf [.ref 3, .int c] (cs m a l w) P := by
  have nn : ¬ (97 ≤ c ∧ c ≤ 122) := by rcases hc with rfl | rfl | rfl <;> decide
  have g : pv_go cq_T58 1 (pv_call cq_mt (d + 2)) P (52, [(0, .ref 3), (1, .int c), (2, .int (-1))], [], cs m a l w) := by
    refine pv_run [81] 60 ?_
    refine cc_rappend d m a hb hs c (-1) _ ?_
    rw [hat]
    refine And.intro (fun q => absurd q (by decide)) (fun _ => ?_)
    refine And.intro (fun _ => ?_) (fun q => absurd rfl q)
    exact cc_leaf_81 (d + 2) (upd m c_P_size (nI (b + 1))) _ hat c (-1) P h
  refine pv_call_of rfl rfl rfl (pv_run [52] 60 ?_)
  refine cc_isName (d + 1) _ c _ ?_
  rw [if_neg nn]
  refine And.intro (fun _ => ?_) (fun q => absurd rfl q)
  refine And.intro (fun _ => ?_) (fun q => absurd rfl q)
  refine And.intro (fun _ => g) (fun q1 => ?_)
  refine And.intro (fun _ => g) (fun q2 => ?_)
  refine And.intro (fun _ => g) (fun q3 => ?_)
  exact absurd hc (fun r => r.elim q1 (fun r => r.elim q2 q3))
set_option maxRecDepth 100000 in
theorem cc_leaf_var (d : Nat) (m : Nat → Int32) (a : Nat → Nat → Int32) {b q V v : Nat} (hV : V ≤ 12) (hvs : m c_V_size = nI V) (hb : b < 241) (hs : m c_P_size = nI b) (hat : m c_R_at = nI q) (c : Int32) (hc : 97 ≤ c ∧ c ≤ 122) (hv : fnd a c (m c_R_there) V 0 = nI v) (hv12 : v < 12) (P : pv_R) (h : P (some (.int 1)) (cs (upd (upd m c_P_size (nI (b + 1))) c_R_at (nI (q + 1))) (up2 (apA a b c (nI q) (nI v) (m c_R_there)) c_V_uses v (a c_V_uses v + 1)) l w)) : pv_call cq_mt (d + 3) cq_m_Reader_leaf [.ref 3, .int c] (cs m a l w) P := by
  have iv : vp_in (nI v) 12 := vp_in_nI hv12 (by decide)
  have cv : (nI v).toNatClampNeg = v := nI_clamp (by omega)
  have nv : ¬ nI v = -1 := nI_m1 (by omega)
  have g : pv_go cq_T58 1 (pv_call cq_mt (d + 2)) P (52, [(0, .ref 3), (1, .int c), (2, .int (nI v))], [], cs m a l w) := by
    refine pv_run [63] 60 ?_
    refine cc_rappend d m a hb hs c (nI v) _ ?_
    rw [hat]
    refine And.intro (fun q => absurd q (by decide)) (fun _ => ?_)
    have eu : (apA a b c (nI q) (nI v) (m c_R_there)) c_V_uses v = a c_V_uses v := rfl
    generalize apA a b c (nI q) (nI v) (m c_R_there) = a1 at *
    show pv_go cq_T58 1 (pv_call cq_mt (d + 2)) P (63, [(0, .ref 3), (1, .int c), (2, .int (nI v))], [], cs (upd m c_P_size (nI (b + 1))) a1 l w)
    have hat1 : (upd m c_P_size (nI (b + 1))) c_R_at = nI q := hat
    generalize upd m c_P_size (nI (b + 1)) = m1 at *
    refine pv_run [81] 60 ?_
    refine And.intro (fun q => absurd q nv) (fun _ => ?_)
    refine And.intro iv ?_
    refine And.intro iv ?_
    show pv_go cq_T58 1 (pv_call cq_mt (d + 2)) P (81, [(0, .ref 3), (1, .int c), (2, .int (nI v))], [], cs m1 (up2 a1 c_V_uses (nI v).toNatClampNeg (a1 23 (nI v).toNatClampNeg + 1)) l w)
    rw [cv, show a1 23 v = a c_V_uses v from eu]
    exact cc_leaf_81 (d + 2) m1 _ hat1 c (nI v) P h
  refine pv_call_of rfl rfl rfl (pv_run [52] 60 ?_)
  refine cc_isName (d + 1) _ c _ ?_
  rw [if_pos hc]
  refine And.intro (fun q => absurd q (by decide)) (fun _ => ?_)
  refine cc_find (d + 1) m a hV hvs c (m 9) _ ?_
  rw [show fnd a c (m 9) V 0 = nI v from hv]
  refine And.intro (fun q => absurd q nv) (fun _ => ?_)
  exact g
abbrev uL (lv c : Int32) : pv_L := [(0, .ref 3), (1, .int lv), (2, .int c)]
set_option maxRecDepth 100000 in
/-- unary: its sign -/
theorem cc_unary (d : Nat) (m : Nat → Int32) (a : Nat → Nat → Int32) {n p lv : Nat} (hn : n ≤ 240) (hp : p ≤ n) (hat : m c_R_at = nI p) (hsz : m c_R_length = nI n) (hlv : lv < 2 ^ 30) (P : pv_R)
    (h0 : 30 ≤ lv → P (some (.int 0)) (cs (upd (upd m c_R_at (nI (sp_x (a c_A_collected) n p))) c_R_faultAt (nI (sp_x (a c_A_collected) n p))) a l w))
    (h1 : lv < 30 → pv_go cq_T57 1 (pv_call cq_mt (d + 1)) P (16, uL (nI lv) (sp_c (a c_A_collected) n (sp_x (a c_A_collected) n p)), [], cs (upd m c_R_at (nI (sp_x (a c_A_collected) n p))) a l w)) : pv_call cq_mt (d + 2) cq_m_Reader_unary [.ref 3, .int (nI lv)] (cs m a l w) P := by
  refine pv_call_of rfl rfl rfl (pv_run [16] 60 ?_)
  refine cc_sign d m a hn hp hat hsz _ ?_
  generalize sp_x (a c_A_collected) n p = q at *
  refine And.intro (fun c => ?_) (fun c => ?_)
  · have c : nI lv < 30 := c
    rw [show (30 : Int32) = nI 30 from rfl, nI_ltI (by omega) (by omega)] at c
    exact h1 c
  · have c : ¬ nI lv < 30 := c
    rw [show (30 : Int32) = nI 30 from rfl, nI_ltI (by omega) (by omega)] at c
    refine cc_fail d (upd m c_R_at (nI q)) a _ ?_
    exact And.intro (Or.inl rfl) (h0 (by omega))
set_option maxRecDepth 100000 in
theorem cu_open (d : Nat) (m : Nat → Int32) (a : Nat → Nat → Int32) {q lv : Nat} (hat : m c_R_at = nI q) (P : pv_R) (h : pv_call cq_mt d cq_m_Reader_expression [.ref 3, .int (nI (lv + 1))] (cs (upd m c_R_at (nI (q + 1))) a l w) (bq l w (fun S => P (some (.int 0)) S) (fun m' a' => pv_call cq_mt d cq_m_Reader_expect [.ref 3, .int 41] (cs m' a' l w) (bz P)))) : pv_go cq_T57 1 (pv_call cq_mt d) P (16, uL (nI lv) 40, [], cs m a l w) := by
  refine pv_run [] 60 ?_
  refine And.intro (fun _ => ?_) (fun q => absurd rfl q)
  show pv_call cq_mt d 52 [.ref 3, .int (nI lv + 1)] (cs (upd m c_R_at (m 7 + 1)) a l w) _
  rw [show m 7 = nI q from hat, nI_1, nI_1]
  refine pv_call_cm cq_mt d _ _ _ _ _ ?_ h
  intro o S hS
  rcases hS with ⟨rfl, hS⟩ | ⟨rfl, m', a', rfl, hS⟩
  · refine And.intro (fun _ => ?_) (fun q => absurd rfl q)
    exact And.intro (Or.inl rfl) hS
  · refine And.intro (fun q => absurd q (by decide)) (fun _ => ?_)
    refine pv_call_cm cq_mt d _ _ _ _ _ ?_ hS
    intro o S hS
    rcases hS with ⟨rfl, hS⟩ | ⟨rfl, hS⟩
    · refine And.intro (fun _ => ?_) (fun q => absurd rfl q)
      exact And.intro (Or.inl rfl) hS
    · refine And.intro (fun q => absurd q (by decide)) (fun _ => ?_)
      exact And.intro (Or.inr rfl) hS
set_option maxRecDepth 100000 in
theorem cu_leaf (d : Nat) (S : pv_S) (lv c : Int32) (m : Nat → Int32) (a : Nat → Nat → Int32) (h40 : ¬ c = 40) (h33 : ¬ c = 33) (P : pv_R) (h : pv_call cq_mt d cq_m_Reader_leaf [.ref 3, .int c] (cs m a l w) (bz P)) : pv_go cq_T57 1 (pv_call cq_mt d) P (16, uL lv c, [], cs m a l w) := by
  refine pv_run [] 60 ?_
  refine And.intro (fun q => absurd q h40) (fun _ => ?_)
  refine And.intro (fun q => absurd q h33) (fun _ => ?_)
  refine pv_call_cm cq_mt d _ _ _ _ _ ?_ h
  intro o S hS
  rcases hS with ⟨rfl, hS⟩ | ⟨rfl, hS⟩
  · exact And.intro (Or.inl rfl) hS
  · exact And.intro (Or.inr rfl) hS
set_option maxRecDepth 100000 in
theorem cu_not (d : Nat) (m : Nat → Int32) (a : Nat → Nat → Int32) {b q lv : Nat} (hb : b < 241) (hs : m c_P_size = nI b) (hat : m c_R_at = nI q) (P : pv_R) (h : pv_call cq_mt (d + 2) cq_m_Reader_unary [.ref 3, .int (nI (lv + 1))] (cs (upd (upd m c_P_size (nI (b + 1))) c_R_at (nI (q + 1))) (apA a b 33 (nI q) (-1) (m c_R_there)) l w) (bq l w (fun S => P (some (.int 0)) S) (fun m' a' => pv_call cq_mt (d + 2) cq_m_Places_close [.ref 2, .int (nI b)] (cs m' a' l w) (fun o S => o = none ∧ P (some (.int 1)) S)))) : pv_go cq_T57 1 (pv_call cq_mt (d + 2)) P (16, uL (nI lv) 33, [], cs m a l w) := by
  refine pv_run [89] 60 ?_
  refine And.intro (fun q => absurd q (by decide)) (fun _ => ?_)
  refine And.intro (fun _ => ?_) (fun q => absurd rfl q)
  refine cc_rappend d m a hb hs 33 (-1) _ ?_
  rw [hat]
  refine And.intro (fun q => absurd q (by decide)) (fun _ => ?_)
  generalize apA a b 33 (nI q) (-1) (m c_R_there) = a1 at *
  show pv_go cq_T57 1 (pv_call cq_mt (d + 2)) P (89, uL (nI lv) 33 ++ [(3, .int (m 4))], [], cs (upd m c_P_size (nI (b + 1))) a1 l w)
  rw [show m 4 = nI b from hs]
  have hat1 : (upd m c_P_size (nI (b + 1))) c_R_at = nI q := hat
  generalize upd m c_P_size (nI (b + 1)) = m1 at *
  refine pv_run [] 60 ?_
  show pv_call cq_mt (d + 2) 57 [.ref 3, .int (nI lv + 1)] (cs (upd m1 c_R_at (m1 7 + 1)) a1 l w) _
  rw [show m1 7 = nI q from hat1, nI_1, nI_1]
  refine pv_call_cm cq_mt (d + 2) _ _ _ _ _ ?_ h
  intro o S hS
  rcases hS with ⟨rfl, hS⟩ | ⟨rfl, m', a', rfl, hS⟩
  · refine And.intro (fun _ => ?_) (fun q => absurd rfl q)
    exact And.intro (Or.inl rfl) hS
  · refine And.intro (fun q => absurd q (by decide)) (fun _ => ?_)
    refine pv_call_cm cq_mt (d + 2) _ _ _ _ _ ?_ hS
    intro o S hS
    obtain ⟨rfl, hS⟩ := hS
    exact And.intro (Or.inr rfl) hS
end CE
