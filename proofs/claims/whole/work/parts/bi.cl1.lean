/-! the class's rows behind read -/
theorem cRow_c {a a' : Nat → Nat → Int32} (h : ∀ j, ¬ (7 ≤ j ∧ j ≤ 10) → j < 25 → a' j = a j) {W i : Nat} {R : NR} (hr : cRow a W i R) : cRow a' W i R := by
  unfold cRow ndT skT ndC unf at hr ⊢
  simp only [h c_P_sort (by decide) (by decide), h c_P_first (by decide) (by decide), h c_P_named (by decide) (by decide), h c_P_there (by decide) (by decide), h c_P_end (by decide) (by decide), h c_P_target (by decide) (by decide), h c_P_catchFrom (by decide) (by decide), h c_P_finallyFrom (by decide) (by decide), h c_P_isEntered (by decide) (by decide), h c_P_isSkipped (by decide) (by decide), h c_V_name (by decide) (by decide), h c_V_isFinal (by decide) (by decide), h c_V_giver (by decide) (by decide), h c_V_couldBeFinal (by decide) (by decide)]
  exact hr
theorem chl_c {a a' : Nat → Nat → Int32} (h : a' c_P_tryAround = a c_P_tryAround) : ∀ (k T : Nat), chl a k T → chl a' k T
  | 0, _, q => q
  | k + 1, T, q => q.imp_right (fun q => by rw [h]; exact chl_c h k _ q)
theorem lkN_c {a a' : Nat → Nat → Int32} (h : Lo a a') {t : Std.Format} (hk : lkN a t) : lkN a' t := by
  unfold lkN at hk ⊢
  simp only [h c_P_around (by decide), h c_P_part (by decide), h c_P_tryAround (by decide), h c_P_tryPart (by decide)]
  exact hk
/-- the class's rows and points of a unit -/
def CUP (a : Nat → Nat → Int32) (V : Nat) (t : Std.Format) (f : Nat → Int64) : Prop :=
  (CU a V t ∧ ∀ i, i < sp_z t → chl a 20 (TA a i)) ∧ ∃ fm f0, fmQ a (sp_z t) 0 fm ∧ f = (wkF a (sp_z t) (-1) fm 0 (sp_z t) 8191 f0).2
theorem rd_CUP {m m' : Nat → Int32} {a a' : Nat → Nat → Int32} {l l' : Nat → Nat → Int64} {w' : Int64} {V : Nat} {t : Std.Format} (hT : TT V t) (hP : PrS a V t 0 []) (h : rdR m a l t V m' a' l' w') : ∃ a3 sz g, CUP a3 V t (l' 0) ∧ (∀ j, ¬ (7 ≤ j ∧ j ≤ 10) → j < 25 → a3 j = a j) ∧ w' = l' 0 964 ∧ m' = upd (upd (upd m c_W_root (-1)) c_W_hasGrown g) c_J_size sz ∧ jdO a3 (sp_z t) V (l' 0) (sp_z t) sz a' := by
  obtain ⟨a2, a3, fm, K, sz, ⟨⟨hFL, hLk⟩, hwy⟩, ⟨⟨efm, eK⟩, e0, e1, ew⟩, em, hj⟩ := h
  have Lo23 := hwy.1
  have r : ∀ j, ¬ (7 ≤ j ∧ j ≤ 10) → j < 25 → a3 j = a j := fun j h1 h2 => (Lo23 j h2).trans (funext fun i => hFL j i (fun u => absurd u h1))
  refine ⟨a3, sz, K.1, ⟨⟨⟨hT.1, ⟨fun i R hi => ?_, lkN_c Lo23 (lkN_all hLk)⟩, fun p hp => ?_⟩, fun i hi => ?_⟩, fm, (wuL a3 (sp_z t) (sp_z t) (l 1) (m c_W_hasGrown, l 0)).2.2, ?_, ?_⟩, r, by rw [ew, e0], em, by rw [e0]; exact hj⟩
  · have g := PrS_nL hT.1.2.2 0 0 0 0 0 [] 0 hP i R hi
    rw [Nat.zero_add] at g
    exact cRow_c r g
  · have g := hwy.2 p hp
    rw [bgV_Lo Lo23, ctV_Lo Lo23, fnV_Lo Lo23, enV_Lo Lo23]
    exact g
  · have g := chl_20 hT.1.2.2 hLk hT.1.1.1 hT.2.2.2.1 hi
    unfold TA
    rw [Lo23 c_P_tryAround (by decide)]
    exact chl_c (Lo23 c_P_tryAround (by decide)) _ _ g
  · rw [efm]
    exact wuL_fm _ _ _ (fun T h1 h2 => by omega)
  · rw [e0, eK]
/-- both sides over a unit -/
theorem CUP_eq {a : Nat → Nat → Int32} {V : Nat} {t : Std.Format} {f : Nat → Int64} {F : Nat → Int32} (hT : TT V t) (hC : CUP a V t f) (hR : RSeen V t F) {v : Nat} (hv : v < V + 1) : ∃ H : pL_T, (∀ p, p < 3600 → F (3600 * v + p) = nI (mkV H p)) ∧ (∀ j z, j < sp_z t → z < 2 → nodeEQ t (CB (lnV V v) 0 f) H j z) ∧ (∀ z, z < 2 → (CB (lnV V v) 0 f 964 z ↔ (1300, z) ∈ H)) := by
  obtain ⟨⟨h1, h2⟩, fm, f0, h3, rfl⟩ := hC
  obtain ⟨b, Wf, on, E, ⟨w1, w2, w3, w4⟩, hQ⟩ := hR
  exact unit_eq ⟨⟨h1, w1⟩, ⟨h2, hT.2.2.1⟩, w2, w3, w4⟩ hT.2.1.2 hv h3 hQ f0
