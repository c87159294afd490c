section CU3
variable {m : Nat → Int32} {a : Nat → Nat → Int32} {l : Nat → Nat → Int64} {w : Int64}
abbrev coV (v : Int64) (i : Nat) : Int32 := (shr v (8 * nI i) &&& 255).toInt32
def coR (v : Int64) (s : Nat) : Nat → (Nat → Int32) → Nat → Int32
  | 0, f => f
  | j + 1, f => upd (coR v s j f) (s + j) (coV v j)
set_option maxRecDepth 100000 in
theorem co_32 (d : Nat) {s k : Nat} (hk : k ≤ 8) (hsk : s + k ≤ 240) (hs : m c_A_collectedSize = nI s) (v : Int64) (P : pv_R) (h : P (some (.int (nI (s + k)))) (cs (upd m c_A_collectedSize (nI (s + k))) (upa a c_A_collected (coR v s k (a c_A_collected))) l w)) : ∀ (j i : Nat), i + j = k → pv_go cq_T0 0 (pv_call cq_mt d) P (32, [(0, .ref 0), (1, .long v), (3, .int (nI k)), (4, .int (nI i))], [], cs m (upa a c_A_collected (coR v s i (a c_A_collected))) l w) := by
  intro j
  induction j with
  | zero =>
    intro i hi
    have e : i = k := by omega
    subst e
    have e2 : m c_A_collectedSize + nI i = nI (s + i) := by rw [hs, nI_add]
    have h : P (some (.int (m c_A_collectedSize + nI i))) (cs (upd m c_A_collectedSize (m c_A_collectedSize + nI i)) (upa a c_A_collected (coR v s i (a c_A_collected))) l w) := by rw [e2]; exact h
    refine pv_run [] 40 ?_
    exact And.intro (fun _ => h) (fun q => absurd (Int32.le_refl _) q)
  | succ j ih =>
    intro i hi
    have nle : ¬ nI k ≤ nI i := by rw [nI_leI (by omega) (by omega)]; omega
    have e2 : m c_A_collectedSize + nI i = nI (s + i) := by rw [hs, nI_add]
    have i1 : vp_in (m c_A_collectedSize + nI i) 240 := by rw [e2]; exact vp_in_nI (by omega) (by decide)
    have c1 : (m c_A_collectedSize + nI i).toNatClampNeg = s + i := by rw [e2]; exact nI_clamp (by omega)
    have g := ih (i + 1) (by omega)
    have er : up2 (upa a c_A_collected (coR v s i (a c_A_collected))) c_A_collected (s + i) (coV v i) = upa a c_A_collected (coR v s (i + 1) (a c_A_collected)) := upa_up _ _ _ _ _
    refine pv_run [32] 40 ?_
    refine And.intro (fun q => absurd q nle) (fun _ => ?_)
    refine And.intro i1 ?_
    show pv_go cq_T0 0 (pv_call cq_mt d) P (32, [(0, .ref 0), (1, .long v), (3, .int (nI k)), (4, .int (nI i + 1))], [], cs m (up2 (upa a c_A_collected (coR v s i (a c_A_collected))) c_A_collected (m c_A_collectedSize + nI i).toNatClampNeg (coV v i)) l w)
    rw [c1, er, nI_1]
    exact g
set_option maxRecDepth 100000 in
theorem cc_Acollect (d : Nat) {s : Nat} (hs2 : s ≤ 240) (hs : m c_A_collectedSize = nI s) (v : Int64) (x : Int32) (P : pv_R)
    (hb : ¬ (1 ≤ x ∧ x ≤ 8) → P (some (.int (-2))) (cs m a l w))
    (h1 : ∀ k, x = nI k → (1 ≤ k ∧ k ≤ 8) → (¬ s + k ≤ 240 → P (some (.int (-3))) (cs m a l w)) ∧ (s + k ≤ 240 → P (some (.int (nI (s + k)))) (cs (upd m c_A_collectedSize (nI (s + k))) (upa a c_A_collected (coR v s k (a c_A_collected))) l w))) : pv_call cq_mt (d + 1) cq_m_A_collect [.ref 0, .long v, .int x] (cs m a l w) P := by
  refine pv_call_of rfl rfl rfl (pv_run [32] 60 ?_)
  refine And.intro (fun z => ?_) (fun z => ?_)
  · have z : x < 1 := z
    exact hb (fun e => absurd z (Int32.not_lt.mpr e.1))
  have z : ¬ x < 1 := z
  refine And.intro (fun y => ?_) (fun y => ?_)
  · have y : x ≤ 8 := y
    have x0 : ¬ x < 0 := fun e => z (Int32.lt_trans e (by decide))
    obtain ⟨k, hk, rfl⟩ := nI_of x0
    have k1 : 1 ≤ k := by
      rw [show (1 : Int32) = nI 1 from rfl, nI_ltI hk (by omega)] at z
      omega
    have k8 : k ≤ 8 := by
      rw [show (8 : Int32) = nI 8 from rfl, nI_leI hk (by omega)] at y
      exact y
    have h := h1 k rfl ⟨k1, k8⟩
    have e240 : (240 : Int32) - nI k = nI (240 - k) := by
      have : nI (240 - k) + nI k = nI 240 := by rw [nI_add, Nat.sub_add_cancel (by omega)]
      rw [show (240 : Int32) = nI 240 from rfl, ← this, Int32.add_sub_cancel]
    refine And.intro (fun q => ?_) (fun q => ?_)
    · have q : m c_A_collectedSize ≤ 240 - nI k := q
      rw [hs, e240, nI_leI (by omega) (by omega)] at q
      have g := co_32 (m := m) (a := a) (l := l) (w := w) d k8 (by omega) hs v P (h.2 (by omega)) k 0 (by omega)
      have e0 : upa a c_A_collected (coR v s 0 (a c_A_collected)) = a := upa_same _ _
      rw [e0] at g
      exact g
    · have q : ¬ m c_A_collectedSize ≤ 240 - nI k := q
      rw [hs, e240, nI_leI (by omega) (by omega)] at q
      exact h.1 (by omega)
  · have y : ¬ x ≤ 8 := y
    exact hb (fun e => y e.2)
end CU3
