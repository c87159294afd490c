/-! the class's places: small methods, link -/
section CL
variable {l : Nat → Nat → Int64} {w : Int64}
theorem cc_hasO (d : Nat) (m : Nat → Int32) (a : Nat → Nat → Int32) {k b : Nat} (hk : k < 2 ^ 20) (hb : b < 2 ^ 20) (hs : m c_P_size = nI b) (P : pv_R) (h1 : 1 ≤ k → k ≤ b → P (some (.int 1)) (cs m a l w)) (h0 : ¬ (1 ≤ k ∧ k ≤ b) → P (some (.int 0)) (cs m a l w)) : pv_call cq_mt (d + 1) cq_m_Places_has [.ref 2, .int (oI k)] (cs m a l w) P := by
  cases k with
  | zero => exact cc_hasNo d m a P (h0 (by omega))
  | succ k =>
    rw [oI_s]
    exact cc_has d m a (p := k) (b := b) (by omega) (by omega) hs P (fun q => h1 (by omega) (by omega)) (fun q => h0 (by omega))
set_option maxRecDepth 100000 in
theorem cc_hasCatch (d : Nat) (m : Nat → Int32) (a : Nat → Nat → Int32) {t b : Nat} (ht : t < b) (hb : b ≤ 241) (hs : m c_P_size = nI b) (P : pv_R) (h1 : ¬ a c_P_catchFrom t = -1 → P (some (.int 1)) (cs m a l w)) (h0 : a c_P_catchFrom t = -1 → P (some (.int 0)) (cs m a l w)) : pv_call cq_mt (d + 2) cq_m_Places_hasCatch [.ref 2, .int (nI t)] (cs m a l w) P := by
  have i1 : vp_in (nI t) 241 := vp_in_nI (by omega) (by decide)
  have c1 : (nI t).toNatClampNeg = t := nI_clamp (by omega)
  refine pv_call_of rfl rfl rfl (pv_run [] 60 ?_)
  refine cc_has d m a (p := t) (b := b) (by omega) (by omega) hs _ (fun _ => ?_) (fun q => absurd ht q)
  refine And.intro (fun q => absurd q (by decide)) (fun _ => ?_)
  refine And.intro i1 ?_
  refine And.intro (fun q => ?_) (fun q => ?_)
  · have q : a c_P_catchFrom (nI t).toNatClampNeg = -1 := q
    rw [c1] at q
    exact And.intro (Or.inl rfl) (h0 q)
  · have q : ¬ a c_P_catchFrom (nI t).toNatClampNeg = -1 := q
    rw [c1] at q
    exact And.intro (Or.inr rfl) (h1 q)
set_option maxRecDepth 100000 in
theorem cc_hasFinally (d : Nat) (m : Nat → Int32) (a : Nat → Nat → Int32) {t b : Nat} (ht : t < b) (hb : b ≤ 241) (hs : m c_P_size = nI b) (P : pv_R) (h1 : ¬ a c_P_finallyFrom t = -1 → P (some (.int 1)) (cs m a l w)) (h0 : a c_P_finallyFrom t = -1 → P (some (.int 0)) (cs m a l w)) : pv_call cq_mt (d + 2) cq_m_Places_hasFinally [.ref 2, .int (nI t)] (cs m a l w) P := by
  have i1 : vp_in (nI t) 241 := vp_in_nI (by omega) (by decide)
  have c1 : (nI t).toNatClampNeg = t := nI_clamp (by omega)
  refine pv_call_of rfl rfl rfl (pv_run [] 60 ?_)
  refine cc_has d m a (p := t) (b := b) (by omega) (by omega) hs _ (fun _ => ?_) (fun q => absurd ht q)
  refine And.intro (fun q => absurd q (by decide)) (fun _ => ?_)
  refine And.intro i1 ?_
  refine And.intro (fun q => ?_) (fun q => ?_)
  · have q : a c_P_finallyFrom (nI t).toNatClampNeg = -1 := q
    rw [c1] at q
    exact And.intro (Or.inl rfl) (h0 q)
  · have q : ¬ a c_P_finallyFrom (nI t).toNatClampNeg = -1 := q
    rw [c1] at q
    exact And.intro (Or.inr rfl) (h1 q)
/-- in which part of the T at t place p lies -/
def ltK (a : Nat → Nat → Int32) (p t : Nat) : Int32 := if ¬ a c_P_finallyFrom t = -1 ∧ a c_P_finallyFrom t ≤ nI p then 2 else if ¬ a c_P_catchFrom t = -1 ∧ a c_P_catchFrom t ≤ nI p then 1 else 0
def ltA (a : Nat → Nat → Int32) (p t : Nat) (k : Int32) : Nat → Nat → Int32 := up2 (up2 (up2 a c_P_part p k) c_P_tryAround p (nI t)) c_P_tryPart p k
abbrev ltL (p t : Nat) : pv_L := [(0, .ref 2), (1, .int (nI p)), (2, .int (nI t))]
set_option maxRecDepth 100000 in
theorem lt_60 (d : Nat) (m : Nat → Int32) (a : Nat → Nat → Int32) {p : Nat} (t : Nat) (hp : p < 241) (k : Int32) (hk : a c_P_part p = k) (P : pv_R) (h : P none (cs m (up2 (up2 a c_P_tryAround p (nI t)) c_P_tryPart p k) l w)) : pv_go cq_T23 3 (pv_call cq_mt d) P (60, ltL p t, [], cs m a l w) := by
  have i1 : vp_in (nI p) 241 := vp_in_nI (by omega) (by decide)
  have c1 : (nI p).toNatClampNeg = p := nI_clamp (by omega)
  refine pv_run [] 60 ?_
  refine And.intro i1 ?_
  refine And.intro i1 ?_
  refine And.intro i1 ?_
  have h2 : P none (cs m (up2 (up2 a c_P_tryAround (nI p).toNatClampNeg (nI t)) c_P_tryPart (nI p).toNatClampNeg (a c_P_part (nI p).toNatClampNeg)) l w) := by rw [c1, hk]; exact h
  exact h2
set_option maxRecDepth 100000 in
theorem lt_35 (d : Nat) (m : Nat → Int32) (a : Nat → Nat → Int32) {p t b : Nat} (ht : t < b) (hb : b ≤ 241) (hs : m c_P_size = nI b) (hp : p < 241) (hk : a c_P_part p = 0) (P : pv_R)
    (h : P none (cs m (ltA a p t (if ¬ a c_P_catchFrom t = -1 ∧ a c_P_catchFrom t ≤ nI p then 1 else 0)) l w)) : pv_go cq_T23 3 (pv_call cq_mt (d + 2)) P (35, ltL p t, [], cs m a l w) := by
  have i1 : vp_in (nI p) 241 := vp_in_nI (by omega) (by decide)
  have c1 : (nI p).toNatClampNeg = p := nI_clamp (by omega)
  have i2 : vp_in (nI t) 241 := vp_in_nI (by omega) (by decide)
  have c2 : (nI t).toNatClampNeg = t := nI_clamp (by omega)
  have no : ¬ (¬ a c_P_catchFrom t = -1 ∧ a c_P_catchFrom t ≤ nI p) → pv_go cq_T23 3 (pv_call cq_mt (d + 2)) P (60, ltL p t, [], cs m a l w) := by
    intro q
    rw [if_neg q] at h
    refine lt_60 (d + 2) m a t hp 0 hk P ?_
    unfold ltA at h
    rw [up2_same hk] at h
    exact h
  refine pv_run [60] 60 ?_
  refine cc_hasCatch d m a ht hb hs _ (fun q => ?_) (fun q => ?_)
  · refine And.intro (fun e => absurd e (by decide)) (fun _ => ?_)
    refine And.intro i2 ?_
    refine And.intro (fun e => ?_) (fun e => ?_)
    · have e : nI p < a c_P_catchFrom (nI t).toNatClampNeg := e
      rw [c2] at e
      exact no (fun r => absurd e (Int32.not_lt.mpr r.2))
    · have e : ¬ nI p < a c_P_catchFrom (nI t).toNatClampNeg := e
      rw [c2] at e
      rw [if_pos ⟨q, Int32.not_lt.mp e⟩] at h
      refine And.intro i1 ?_
      show pv_go cq_T23 3 (pv_call cq_mt (d + 2)) P (60, ltL p t, [], cs m (up2 a c_P_part (nI p).toNatClampNeg 1) l w)
      rw [c1]
      exact lt_60 (d + 2) m _ t hp 1 (up2_eq _ _ _ _) P h
  · refine And.intro (fun _ => ?_) (fun e => absurd rfl e)
    exact no (fun r => r.1 q)
set_option maxRecDepth 100000 in
theorem cc_linkToTry (d : Nat) (m : Nat → Int32) (a : Nat → Nat → Int32) {p t b : Nat} (ht : t < b) (hb : b ≤ 241) (hs : m c_P_size = nI b) (hp : p < 241) (P : pv_R) (h : P none (cs m (ltA a p t (ltK a p t)) l w)) : pv_call cq_mt (d + 3) cq_m_Places_linkToTry [.ref 2, .int (nI p), .int (nI t)] (cs m a l w) P := by
  have i1 : vp_in (nI p) 241 := vp_in_nI (by omega) (by decide)
  have c1 : (nI p).toNatClampNeg = p := nI_clamp (by omega)
  have i2 : vp_in (nI t) 241 := vp_in_nI (by omega) (by decide)
  have c2 : (nI t).toNatClampNeg = t := nI_clamp (by omega)
  have r13 : up2 a c_P_part p 0 c_P_finallyFrom = a c_P_finallyFrom := up2_row (by decide)
  have r12 : up2 a c_P_part p 0 c_P_catchFrom = a c_P_catchFrom := up2_row (by decide)
  have e8 : ∀ k, ltA (up2 a c_P_part p 0) p t k = ltA a p t k := by
    intro k; unfold ltA; rw [up2_up2]
  have go35 : ¬ (¬ a c_P_finallyFrom t = -1 ∧ a c_P_finallyFrom t ≤ nI p) → pv_go cq_T23 3 (pv_call cq_mt (d + 2)) P (35, ltL p t, [], cs m (up2 a c_P_part p 0) l w) := by
    intro q
    refine lt_35 d m (up2 a c_P_part p 0) ht hb hs hp (up2_eq _ _ _ _) P ?_
    rw [e8, r12]
    unfold ltK at h
    rw [if_neg q] at h
    exact h
  refine pv_call_of rfl rfl rfl (pv_run [7] 20 ?_)
  refine And.intro i1 ?_
  show pv_go cq_T23 3 (pv_call cq_mt (d + 2)) P (7, ltL p t, [], cs m (up2 a c_P_part (nI p).toNatClampNeg 0) l w)
  rw [c1]
  refine pv_run [35, 60] 60 ?_
  refine cc_hasFinally d m (up2 a c_P_part p 0) ht hb hs _ (fun q => ?_) (fun q => ?_)
  · rw [r13] at q
    refine And.intro (fun e => absurd e (by decide)) (fun _ => ?_)
    refine And.intro i2 ?_
    refine And.intro (fun e => ?_) (fun e => ?_)
    · have e : nI p < up2 a c_P_part p 0 c_P_finallyFrom (nI t).toNatClampNeg := e
      rw [c2, r13] at e
      exact go35 (fun r => absurd e (Int32.not_lt.mpr r.2))
    · have e : ¬ nI p < up2 a c_P_part p 0 c_P_finallyFrom (nI t).toNatClampNeg := e
      rw [c2, r13] at e
      refine And.intro i1 ?_
      show pv_go cq_T23 3 (pv_call cq_mt (d + 2)) P (60, ltL p t, [], cs m (up2 (up2 a c_P_part p 0) c_P_part (nI p).toNatClampNeg 2) l w)
      rw [c1, up2_up2]
      refine lt_60 (d + 2) m _ t hp 2 (up2_eq _ _ _ _) P ?_
      unfold ltK at h
      rw [if_pos ⟨q, Int32.not_lt.mp e⟩] at h
      exact h
  · rw [r13] at q
    refine And.intro (fun _ => ?_) (fun e => absurd rfl e)
    exact go35 (fun r => r.1 q)
end CL
