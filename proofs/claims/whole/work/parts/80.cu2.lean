section CU2
variable {m : Nat → Int32} {a : Nat → Nat → Int32} {l : Nat → Nat → Int64} {w : Int64}
def fcW (s : Int64) (th y : Int32) : Int32 := if y = 0 then (if rch s then 1 else 0) else if y = 1 then th &&& (uOn s ^^^ (-1)) else if y = 2 then th &&& (aOn s ^^^ (-1)) else -2
def fcV (a : Nat → Nat → Int32) (f : Nat → Int64) (p : Nat) (k y : Int32) : Int32 := if k < 0 ∨ 3 < k then -2 else if 2 ≤ k ∧ stI (a c_P_sort p) then -2 else fcW (stF f p k) (if k = 0 then a c_P_there p else taV a p) y
set_option maxRecDepth 100000 in
theorem fc_81 (d : Nat) (x k y th : Int32) (s : Int64) (P : pv_R) (h : P (some (.int (fcW s th y))) (cs m a l w)) : pv_go cq_T5 0 (pv_call cq_mt (d + 1)) P (83, [(0, .ref 0), (1, .int x), (2, .int k), (3, .int y), (4, .long s), (6, .int th)], [], cs m a l w) := by
  unfold fcW at h
  refine pv_run [] 40 ?_
  refine And.intro (fun z => ?_) (fun z0 => ?_)
  · rw [if_pos (show y = 0 from z)] at h
    refine cc_isReached d (cs m a l w) s _ (fun q => ?_) (fun q => ?_)
    · rw [if_pos q] at h
      exact And.intro (fun e => absurd e (by decide)) (fun _ => h)
    · rw [if_neg q] at h
      exact And.intro (fun _ => h) (fun e => absurd rfl e)
  rw [if_neg (show ¬ y = 0 from z0)] at h
  refine And.intro (fun z => ?_) (fun z1 => ?_)
  · rw [if_pos (show y = 1 from z)] at h
    exact cc_uOn d (cs m a l w) s _ h
  rw [if_neg (show ¬ y = 1 from z1)] at h
  refine And.intro (fun z => ?_) (fun z2 => ?_)
  · rw [if_pos (show y = 2 from z)] at h
    exact cc_aOn d (cs m a l w) s _ h
  rw [if_neg (show ¬ y = 2 from z2)] at h
  exact h
set_option maxRecDepth 100000 in
theorem fc_46 (d : Nat) {N p : Nat} (hN : N ≤ 241) (hp : p < N) (hs : m c_P_size = nI N) (k y : Int32) (P : pv_R) (h : P (some (.int (fcW (stF (l 0) p k) (if k = 0 then a c_P_there p else taV a p) y))) (cs m a l w)) : pv_go cq_T5 0 (pv_call cq_mt (d + 2)) P (46, [(0, .ref 0), (1, .int (nI p)), (2, .int k), (3, .int y)], [], cs m a l w) := by
  have i1 : vp_in (nI p) 241 := vp_in_nI (by omega) (by decide)
  have c1 : (nI p).toNatClampNeg = p := nI_clamp (by omega)
  refine pv_run [83] 40 ?_
  refine cc_stateAt d hN hp hs k _ ?_
  refine And.intro (fun z => ?_) (fun z => ?_)
  · have z : k = 0 := z
    rw [if_pos z] at h
    refine And.intro i1 ?_
    have g := fc_81 (m := m) (a := a) (l := l) (w := w) (d + 1) (nI p) k y _ _ P h
    show pv_go cq_T5 0 (pv_call cq_mt (d + 2)) P (83, [(0, .ref 0), (1, .int (nI p)), (2, .int k), (3, .int y), (4, .long (stF (l 0) p k)), (6, .int (a c_P_there (nI p).toNatClampNeg))], [], cs m a l w)
    rw [c1]
    exact g
  · have z : ¬ k = 0 := z
    rw [if_neg z] at h
    refine cc_thereAfter d hN hp hs _ ?_
    exact fc_81 (d + 1) (nI p) k y _ _ P h
set_option maxRecDepth 100000 in
theorem cc_Afact (d : Nat) {N : Nat} (hN : N ≤ 241) (hs : m c_P_size = nI N) (x k y : Int32) (P : pv_R) (h1 : ∀ p, x = nI p → p < N → P (some (.int (fcV a (l 0) p k y))) (cs m a l w)) (h0 : (∀ p, p < N → ¬ x = nI p) → P (some (.int (-2))) (cs m a l w)) : pv_call cq_mt (d + 3) cq_m_A_fact [.ref 0, .int x, .int k, .int y] (cs m a l w) P := by
  refine pv_call_of rfl rfl rfl (pv_run [46] 60 ?_)
  refine cc_hasX (d + 1) (by omega) hs x _ (fun p e hp => ?_) (fun q => ?_)
  · have h := h1 p e hp
    subst e
    have i1 : vp_in (nI p) 241 := vp_in_nI (by omega) (by decide)
    have c1 : (nI p).toNatClampNeg = p := nI_clamp (by omega)
    unfold fcV at h
    refine And.intro (fun z => absurd z (by decide)) (fun _ => ?_)
    refine And.intro (fun z => ?_) (fun zl => ?_)
    · rw [if_pos (Or.inl (show k < 0 from z))] at h; exact h
    have zl : ¬ k < 0 := zl
    refine And.intro (fun z => ?_) (fun z => ?_)
    · have z : k ≤ 3 := z
      rw [if_neg (fun e => e.elim zl (fun e => absurd e (Int32.not_lt.mpr z)))] at h
      refine And.intro (fun y2 => ?_) (fun y2 => ?_)
      · have y2 : k < 2 := y2
        rw [if_neg (fun e => absurd y2 (Int32.not_lt.mpr e.1))] at h
        exact fc_46 d hN hp hs k y P h
      · have y2 : ¬ k < 2 := y2
        refine And.intro i1 ?_
        refine cc_isStatement (d + 1) (cs m a l w) (a c_P_sort (nI p).toNatClampNeg) _ ?_
        rw [c1]
        by_cases q : stI (a c_P_sort p)
        · rw [if_pos q]
          rw [if_pos ⟨Int32.not_lt.mp y2, q⟩] at h
          exact And.intro (fun e => absurd e (by decide)) (fun _ => h)
        · rw [if_neg q]
          rw [if_neg (fun e => q e.2)] at h
          exact And.intro (fun _ => fc_46 d hN hp hs k y P h) (fun e => absurd rfl e)
    · have z : ¬ k ≤ 3 := z
      rw [if_pos (Or.inr (Int32.not_le.mp z))] at h; exact h
  · refine And.intro (fun _ => ?_) (fun z => absurd rfl z)
    exact h0 q
set_option maxRecDepth 100000 in
theorem cc_Aerror (d : Nat) {N V k : Nat} (hN : N ≤ 241) (hs : m c_P_size = nI N) (hE : eRow a N) (hV : V ≤ 12) (hvs : m c_V_size = nI V) (hn : nRow a N) (hk : k ≤ 241) (hj : m c_J_size = nI k) (hw : ∀ i, i < k → ∃ p, p < N ∧ a c_J_wrong i = nI p) (x y : Int32) (P : pv_R)
    (hb : ¬ (y = 0 ∨ y = 1) → P (some (.int (-2))) (cs m a l w))
    (h0 : (y = 0 ∨ y = 1) → (∀ i, i < k → ¬ x = nI i) → P (some (.int (-1))) (cs m a l w))
    (h1 : ∀ i p, (x = nI i ∧ i < k) → (a c_J_wrong i = nI p ∧ p < N) → (y = 0 → P (some (.int (nI p))) (cs m a l w)) ∧ (y = 1 → P (some (.int (kdF a N V (l 0) p))) (cs m a l w))) : pv_call cq_mt (d + 5) cq_m_A_error [.ref 0, .int x, .int y] (cs m a l w) P := by
  have main : (y = 0 ∨ y = 1) → pv_go cq_T6 0 (pv_call cq_mt (d + 4)) P (12, [(0, .ref 0), (1, .int x), (2, .int y)], [], cs m a l w) := by
    intro hy
    refine pv_run [] 60 ?_
    refine And.intro (fun z => ?_) (fun z => ?_)
    · have z : x < 0 := z
      refine h0 hy (fun i hi e => ?_)
      rw [e] at z
      exact absurd z (nI_pos (by omega))
    · have z : ¬ x < 0 := z
      obtain ⟨i, hi, rfl⟩ := nI_of z
      refine And.intro (fun q => ?_) (fun q => ?_)
      · have q : nI i < m c_J_size := q
        rw [hj, nI_ltI hi (by omega)] at q
        obtain ⟨p, hp, ep⟩ := hw i q
        have h := h1 i p ⟨rfl, q⟩ ⟨ep, hp⟩
        have i1 : vp_in (nI i) 241 := vp_in_nI (by omega) (by decide)
        have c1 : (nI i).toNatClampNeg = i := nI_clamp (by omega)
        refine And.intro i1 ?_
        refine And.intro (fun u => ?_) (fun u => ?_)
        · have u : y = 0 := u
          have h2 : P (some (.int (a c_J_wrong (nI i).toNatClampNeg))) (cs m a l w) := by rw [c1, ep]; exact h.1 u
          exact h2
        · have u : ¬ y = 0 := u
          have g : pv_call cq_mt (d + 4) cq_m_Judge_kindAt [.ref 6, .int (nI p)] (cs m a l w) (fun o S => ∃ r, o = some (.int r) ∧ P (some (.int r)) S) := cc_kindAt d hN hp hs hE hV hvs hn _ (fun k hk => ⟨k, rfl, by rw [kd_eq hk]; exact h.2 (hy.resolve_left u)⟩)
          have g : pv_call cq_mt (d + 4) cq_m_Judge_kindAt [.ref 6, .int (a c_J_wrong (nI i).toNatClampNeg)] (cs m a l w) (fun o S => ∃ r, o = some (.int r) ∧ P (some (.int r)) S) := by rw [c1, ep]; exact g
          refine pv_call_cm _ _ _ _ _ _ _ ?_ g
          rintro o S ⟨r, rfl, hr⟩
          exact hr
      · have q : ¬ nI i < m c_J_size := q
        rw [hj, nI_ltI hi (by omega)] at q
        refine h0 hy (fun j hjk e => ?_)
        rw [nI_eq hi (by omega)] at e
        omega
  refine pv_call_of rfl rfl rfl (pv_run [12] 30 ?_)
  refine And.intro (fun z => main (Or.inl z)) (fun z => ?_)
  have z : ¬ y = 0 := z
  refine And.intro (fun q => main (Or.inr q)) (fun q => ?_)
  have q : ¬ y = 1 := q
  exact hb (fun e => e.elim z q)
end CU2
