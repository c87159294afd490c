/-! the class's judge -/
abbrev rch (s : Int64) : Prop := shr s 12 &&& 1 = 1
abbrev uOn (s : Int64) : Int32 := s.toInt32 &&& 4095
abbrev aOn (s : Int64) : Int32 := (shr s 16).toInt32 &&& 4095
def stF (f : Nat → Int64) (p : Nat) (w : Int32) : Int64 := if w = 0 then f p else if w = 1 then f (241 + p) ||| f (482 + p) else if w = 2 then f (241 + p) else f (482 + p)
def stO (f : Nat → Int64) (k : Nat) (w : Int32) : Int64 := if k = 0 then 0 else stF f (k - 1) w
section CJ1
variable {m : Nat → Int32} {a : Nat → Nat → Int32} {l : Nat → Nat → Int64} {w : Int64}
set_option maxRecDepth 100000 in
theorem cc_isReached (d : Nat) (S : pv_S) (s : Int64) (P : pv_R) (h1 : rch s → P (some (.int 1)) S) (h0 : ¬ rch s → P (some (.int 0)) S) : pv_call cq_mt (d + 1) cq_m_State_isReached [.long s] S P := by
  refine pv_call_of rfl rfl rfl (pv_run [] 30 ?_)
  refine And.intro (fun q => ?_) (fun q => ?_)
  · have q : lg_cmp (shr s 12 &&& 1) 1 = 0 := q
    exact And.intro (Or.inr rfl) (h1 ((lg_0 _ _).mp q))
  · have q : ¬ lg_cmp (shr s 12 &&& 1) 1 = 0 := q
    exact And.intro (Or.inl rfl) (h0 (fun e => q ((lg_0 _ _).mpr e)))
set_option maxRecDepth 100000 in
theorem cc_uOn (d : Nat) (S : pv_S) (s : Int64) (P : pv_R) (h : P (some (.int (uOn s))) S) : pv_call cq_mt (d + 1) cq_m_State_unassignedOnSome [.long s] S P := by
  refine pv_call_of rfl rfl rfl (pv_run [] 30 ?_)
  exact h
set_option maxRecDepth 100000 in
theorem cc_aOn (d : Nat) (S : pv_S) (s : Int64) (P : pv_R) (h : P (some (.int (aOn s))) S) : pv_call cq_mt (d + 1) cq_m_State_assignedOnSome [.long s] S P := by
  refine pv_call_of rfl rfl rfl (pv_run [] 30 ?_)
  exact h
set_option maxRecDepth 100000 in
theorem cc_stateAt (d : Nat) {N p : Nat} (hN : N ≤ 241) (hp : p < N) (hs : m c_P_size = nI N) (k : Int32) (P : pv_R) (h : P (some (.long (stF (l 0) p k))) (cs m a l w)) : pv_call cq_mt (d + 2) cq_m_Walks_stateAt [.ref 5, .int (nI p), .int k] (cs m a l w) P := by
  have j0 := in_0 (p := p) (by omega)
  have jT := in_T (p := p) (by omega)
  have jF := in_F (p := p) (by omega)
  unfold stF at h
  refine pv_call_of rfl rfl rfl (pv_run [] 60 ?_)
  refine cc_has d m a (p := p) (b := N) (by omega) (by omega) hs _ (fun _ => ?_) (fun y => absurd hp y)
  refine And.intro (fun y => absurd y (by decide)) (fun _ => ?_)
  refine And.intro (fun q => ?_) (fun q0 => ?_)
  · have q : k = 0 := q
    rw [if_pos q] at h
    refine And.intro j0.1 ?_
    have h2 : P (some (.long (l 0 ((0 : Int32) + nI p).toNatClampNeg))) (cs m a l w) := by rw [j0.2]; exact h
    exact h2
  have q0 : ¬ k = 0 := q0
  rw [if_neg q0] at h
  refine And.intro (fun q => ?_) (fun q1 => ?_)
  · have q : k = 1 := q
    rw [if_pos q] at h
    refine And.intro jT.1 ?_
    refine And.intro jF.1 ?_
    have h2 : P (some (.long (l 0 ((241 : Int32) + nI p).toNatClampNeg ||| l 0 ((482 : Int32) + nI p).toNatClampNeg))) (cs m a l w) := by rw [jT.2, jF.2]; exact h
    exact h2
  have q1 : ¬ k = 1 := q1
  rw [if_neg q1] at h
  refine And.intro (fun q => ?_) (fun q2 => ?_)
  · have q : k = 2 := q
    rw [if_pos q] at h
    refine And.intro jT.1 ?_
    have h2 : P (some (.long (l 0 ((241 : Int32) + nI p).toNatClampNeg))) (cs m a l w) := by rw [jT.2]; exact h
    exact h2
  have q2 : ¬ k = 2 := q2
  rw [if_neg q2] at h
  refine And.intro jF.1 ?_
  have h2 : P (some (.long (l 0 ((482 : Int32) + nI p).toNatClampNeg))) (cs m a l w) := by rw [jF.2]; exact h
  exact h2
set_option maxRecDepth 100000 in
theorem cc_stateAtO (d : Nat) {N q : Nat} (hN : N ≤ 241) (hq : q ≤ N) (hs : m c_P_size = nI N) (k : Int32) (P : pv_R) (h : P (some (.long (stO (l 0) q k))) (cs m a l w)) : pv_call cq_mt (d + 2) cq_m_Walks_stateAt [.ref 5, .int (oI q), .int k] (cs m a l w) P := by
  cases q with
  | zero =>
    refine pv_call_of rfl rfl rfl (pv_run [] 60 ?_)
    refine cc_hasNo d m a _ ?_
    exact And.intro (fun _ => h) (fun y => absurd rfl y)
  | succ q =>
    rw [oI_s]
    exact cc_stateAt d hN (by omega) hs k P h
set_option maxRecDepth 100000 in
theorem cc_vhas (d : Nat) {V k : Nat} (hV : V ≤ 12) (hk : k < 2 ^ 20) (hs : m c_V_size = nI V) (P : pv_R) (h1 : 1 ≤ k → k ≤ V → P (some (.int 1)) (cs m a l w)) (h0 : ¬ (1 ≤ k ∧ k ≤ V) → P (some (.int 0)) (cs m a l w)) : pv_call cq_mt (d + 1) cq_m_Variables_has [.ref 1, .int (oI k)] (cs m a l w) P := by
  cases k with
  | zero =>
    refine pv_call_of rfl rfl rfl (pv_run [] 30 ?_)
    exact And.intro (fun _ => And.intro (Or.inl rfl) (h0 (by omega))) (fun q => absurd (show oI 0 < 0 by decide) q)
  | succ k =>
    rw [oI_s]
    refine pv_call_of rfl rfl rfl (pv_run [] 30 ?_)
    refine And.intro (fun q => absurd q (nI_pos (by omega))) (fun _ => ?_)
    refine And.intro (fun q => ?_) (fun q => ?_)
    · have q : m 10 ≤ nI k := q
      rw [show m 10 = nI V from hs, nI_leI (by omega) (by omega)] at q
      exact And.intro (Or.inl rfl) (h0 (by omega))
    · have q : ¬ m 10 ≤ nI k := q
      rw [show m 10 = nI V from hs, nI_leI (by omega) (by omega)] at q
      exact And.intro (Or.inr rfl) (h1 (by omega) (by omega))
abbrev bitI (x v : Int32) : Prop := (x >>> (v &&& 31)) &&& 1 = 1
set_option maxRecDepth 100000 in
theorem cc_usedEarly (d : Nat) {N p : Nat} (hN : N ≤ 241) (hp : p < N) (hs : m c_P_size = nI N) (v : Int32) (P : pv_R) (h1 : bitI (uOn (l 0 p)) v → P (some (.int 1)) (cs m a l w)) (h0 : ¬ bitI (uOn (l 0 p)) v → P (some (.int 0)) (cs m a l w)) : pv_call cq_mt (d + 3) cq_m_Judge_isUsedTooEarly [.ref 6, .int (nI p), .int v] (cs m a l w) P := by
  refine pv_call_of rfl rfl rfl (pv_run [] 40 ?_)
  refine cc_stateAt d hN hp hs 0 _ ?_
  refine cc_uOn (d + 1) (cs m a l w) (l 0 p) _ ?_
  refine And.intro (fun q => ?_) (fun q => ?_)
  · exact And.intro (Or.inr rfl) (h1 q)
  · exact And.intro (Or.inl rfl) (h0 q)
def twF (a : Nat → Nat → Int32) (N : Nat) (f : Nat → Int64) (p : Nat) (v : Int32) : Prop := bitI (aOn (stO f (chF a N p 0) 1)) v
set_option maxRecDepth 100000 in
theorem cc_twice (d : Nat) {N p : Nat} (hN : N ≤ 241) (hp : p < N) (hs : m c_P_size = nI N) (hE : eRow a N) (v : Int32) (P : pv_R) (h1 : twF a N (l 0) p v → P (some (.int 1)) (cs m a l w)) (h0 : ¬ twF a N (l 0) p v → P (some (.int 0)) (cs m a l w)) : pv_call cq_mt (d + 3) cq_m_Judge_isAssignedTwice [.ref 6, .int (nI p), .int v] (cs m a l w) P := by
  have hf := chF_le (a := a) (N := N) (p := p) (k := 0)
  refine pv_call_of rfl rfl rfl (pv_run [] 40 ?_)
  refine cc_child d m a (k := 0) hN hp (by omega) hs hE _ ?_
  refine cc_stateAtO d hN hf hs 1 _ ?_
  refine cc_aOn (d + 1) (cs m a l w) (stO (l 0) (chF a N p 0) 1) _ ?_
  refine And.intro (fun q => ?_) (fun q => ?_)
  · exact And.intro (Or.inr rfl) (h1 q)
  · exact And.intro (Or.inl rfl) (h0 q)
def nRow (a : Nat → Nat → Int32) (N : Nat) : Prop := ∀ p, p < N → a c_P_named p = oI (dO (a c_P_named p)) ∧ dO (a c_P_named p) ≤ 12
def kdC (a : Nat → Nat → Int32) (N V : Nat) (f : Nat → Int64) (p : Nat) : Prop := a c_P_sort p = 61 ∧ (1 ≤ dO (a c_P_named p) ∧ dO (a c_P_named p) ≤ V) ∧ ¬ a c_V_isFinal (dO (a c_P_named p) - 1) = 0 ∧ twF a N f p (a c_P_named p)
/-- the kind of the error at p, in the four cases -/
def kdP (a : Nat → Nat → Int32) (N V : Nat) (f : Nat → Int64) (p : Nat) (k : Int32) : Prop :=
  (stI (a c_P_sort p) → (rch (f p) → k = -1) ∧ (¬ rch (f p) → k = 3)) ∧
  (¬ stI (a c_P_sort p) → (97 ≤ a c_P_sort p ∧ a c_P_sort p ≤ 122) → (bitI (uOn (f p)) (a c_P_named p) → k = 1) ∧ (¬ bitI (uOn (f p)) (a c_P_named p) → k = -1)) ∧
  (¬ stI (a c_P_sort p) → ¬ (97 ≤ a c_P_sort p ∧ a c_P_sort p ≤ 122) → (kdC a N V f p → k = 2) ∧ (¬ kdC a N V f p → k = -1))
set_option maxRecDepth 100000 in
theorem kd_83 (d : Nat) {N V p : Nat} (hN : N ≤ 241) (hp : p < N) (hs : m c_P_size = nI N) (hE : eRow a N) (hV : V ≤ 12) (hvs : m c_V_size = nI V) (hn : nRow a N) (P : pv_R) (h1 : kdC a N V (l 0) p → P (some (.int 2)) (cs m a l w)) (h0 : ¬ kdC a N V (l 0) p → P (some (.int (-1))) (cs m a l w)) : pv_go cq_T14 0 (pv_call cq_mt (d + 3)) P (83, [(0, .ref 6), (1, .int (nI p)), (2, .int (a c_P_sort p)), (3, .int (a c_P_named p))], [], cs m a l w) := by
  have hnp := hn p hp
  unfold kdC at h1 h0
  have no : ¬ (a c_P_sort p = 61 ∧ (1 ≤ dO (a c_P_named p) ∧ dO (a c_P_named p) ≤ V) ∧ ¬ a c_V_isFinal (dO (a c_P_named p) - 1) = 0 ∧ twF a N (l 0) p (a c_P_named p)) → pv_go cq_T14 0 (pv_call cq_mt (d + 3)) P (125, [(0, .ref 6), (1, .int (nI p)), (2, .int (a c_P_sort p)), (3, .int (a c_P_named p))], [], cs m a l w) := by
    intro q
    refine pv_run [] 30 ?_
    exact And.intro (fun _ => h0 q) (fun y => absurd rfl y)
  refine pv_run [125] 60 ?_
  refine And.intro (fun z => ?_) (fun z => ?_)
  · have z : a c_P_sort p = 61 := z
    generalize hk : dO (a c_P_named p) = k at *
    rw [hnp.1] at h1 h0 no ⊢
    refine cc_vhas (d + 2) hV (k := k) (by omega) hvs _ (fun k1 k2 => ?_) (fun k0 => ?_)
    · refine And.intro (fun y => absurd y (by decide)) (fun _ => ?_)
      obtain ⟨v, rfl⟩ := Nat.exists_eq_add_of_le' k1
      rw [oI_s v] at h1 h0 no ⊢
      rw [show v + 1 - 1 = v from rfl] at h1 h0 no
      have i1 : vp_in (nI v) 12 := vp_in_nI (by omega) (by decide)
      have c1 : (nI v).toNatClampNeg = v := nI_clamp (by omega)
      refine And.intro i1 ?_
      refine And.intro (fun y => ?_) (fun y => ?_)
      · have y : a c_V_isFinal (nI v).toNatClampNeg = 0 := y
        rw [c1] at y
        exact no (fun x => x.2.2.1 y)
      · have y : ¬ a c_V_isFinal (nI v).toNatClampNeg = 0 := y
        rw [c1] at y
        refine cc_twice d hN hp hs hE (nI v) _ (fun x => ?_) (fun x => ?_)
        · refine And.intro (fun u => absurd u (by decide)) (fun _ => ?_)
          refine And.intro (fun u => absurd u (by decide)) (fun _ => ?_)
          exact h1 ⟨z, ⟨by omega, k2⟩, y, x⟩
        · exact And.intro (fun _ => no (fun u => x u.2.2.2)) (fun u => absurd rfl u)
    · exact And.intro (fun _ => no (fun u => k0 u.2.1)) (fun u => absurd rfl u)
  · have z : ¬ a c_P_sort p = 61 := z
    exact no (fun u => z u.1)
set_option maxRecDepth 100000 in
theorem cc_kindAt (d : Nat) {N V p : Nat} (hN : N ≤ 241) (hp : p < N) (hs : m c_P_size = nI N) (hE : eRow a N) (hV : V ≤ 12) (hvs : m c_V_size = nI V) (hn : nRow a N) (P : pv_R) (h : ∀ k, kdP a N V (l 0) p k → P (some (.int k)) (cs m a l w)) : pv_call cq_mt (d + 4) cq_m_Judge_kindAt [.ref 6, .int (nI p)] (cs m a l w) P := by
  have i1 : vp_in (nI p) 241 := vp_in_nI (by omega) (by decide)
  have c1 : (nI p).toNatClampNeg = p := nI_clamp (by omega)
  have g83 : ¬ stI (a c_P_sort p) → ¬ (97 ≤ a c_P_sort p ∧ a c_P_sort p ≤ 122) → pv_go cq_T14 0 (pv_call cq_mt (d + 3)) P (83, [(0, .ref 6), (1, .int (nI p)), (2, .int (a c_P_sort p)), (3, .int (a c_P_named p))], [], cs m a l w) := by
    intro q1 q2
    exact kd_83 d hN hp hs hE hV hvs hn P (fun y => h 2 ⟨fun x => absurd x q1, fun _ x => absurd x q2, fun _ _ => ⟨fun _ => rfl, fun x => absurd y x⟩⟩) (fun y => h (-1) ⟨fun x => absurd x q1, fun _ x => absurd x q2, fun _ _ => ⟨fun x => absurd x y, fun _ => rfl⟩⟩)
  have g33 : pv_go cq_T14 0 (pv_call cq_mt (d + 3)) P (33, [(0, .ref 6), (1, .int (nI p)), (2, .int (a c_P_sort p)), (3, .int (a c_P_named p))], [], cs m a l w) := by
    refine pv_run [83] 60 ?_
    refine cc_isStatement (d + 2) (cs m a l w) (a c_P_sort p) _ ?_
    by_cases q : stI (a c_P_sort p)
    · rw [if_pos q]
      refine And.intro (fun y => absurd y (by decide)) (fun _ => ?_)
      refine cc_stateAt (d + 1) hN hp hs 0 _ ?_
      refine cc_isReached (d + 2) (cs m a l w) (l 0 p) _ (fun y => ?_) (fun y => ?_)
      · refine And.intro (fun x => absurd x (by decide)) (fun _ => ?_)
        exact h (-1) ⟨fun _ => ⟨fun _ => rfl, fun x => absurd y x⟩, fun x => absurd q x, fun x => absurd q x⟩
      · refine And.intro (fun _ => ?_) (fun x => absurd rfl x)
        exact h 3 ⟨fun _ => ⟨fun x => absurd x y, fun _ => rfl⟩, fun x => absurd q x, fun x => absurd q x⟩
    · rw [if_neg q]
      refine And.intro (fun _ => ?_) (fun y => absurd rfl y)
      refine cc_isName (d + 2) (cs m a l w) (a c_P_sort p) _ ?_
      by_cases q2 : 97 ≤ a c_P_sort p ∧ a c_P_sort p ≤ 122
      · rw [if_pos q2]
        refine And.intro (fun y => absurd y (by decide)) (fun _ => ?_)
        refine cc_usedEarly d hN hp hs (a c_P_named p) _ (fun y => ?_) (fun y => ?_)
        · refine And.intro (fun x => absurd x (by decide)) (fun _ => ?_)
          exact h 1 ⟨fun x => absurd x q, fun _ _ => ⟨fun _ => rfl, fun x => absurd y x⟩, fun _ x => absurd q2 x⟩
        · refine And.intro (fun _ => ?_) (fun x => absurd rfl x)
          exact h (-1) ⟨fun x => absurd x q, fun _ _ => ⟨fun x => absurd x y, fun _ => rfl⟩, fun _ x => absurd q2 x⟩
      · rw [if_neg q2]
        exact And.intro (fun _ => g83 q q2) (fun y => absurd rfl y)
  refine pv_call_of rfl rfl rfl (pv_run [33] 40 ?_)
  refine cc_has (d + 2) m a (p := p) (b := N) (by omega) (by omega) hs _ (fun _ => ?_) (fun y => absurd hp y)
  refine And.intro (fun y => absurd y (by decide)) (fun _ => ?_)
  refine And.intro i1 ?_
  refine And.intro i1 ?_
  show pv_go cq_T14 0 (pv_call cq_mt (d + 3)) P (33, [(0, .ref 6), (1, .int (nI p)), (2, .int (a c_P_sort (nI p).toNatClampNeg)), (3, .int (a c_P_named (nI p).toNatClampNeg))], [], cs m a l w)
  rw [c1]
  exact g33
end CJ1
