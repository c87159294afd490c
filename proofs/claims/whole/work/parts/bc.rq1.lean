/-! the reference's questions -/
section RQ1
variable {m : Nat → Int32} {a : Nat → Nat → Int32}
set_option maxRecDepth 100000 in
theorem rc_isPlace (d : Nat) {N : Nat} (hN : N < 2 ^ 20) (hs : m r_nodes = nI N) (x : Int32) (P : pv_R) (h1 : ∀ p, x = nI p → p < N → P (some (.int 1)) (rs m a)) (h0 : (∀ p, p < N → ¬ x = nI p) → P (some (.int 0)) (rs m a)) : pv_call rq_mt (d + 2) rq_m_R_isPlace [.ref 0, .int x] (rs m a) P := by
  have eN : m 2 - 1 = oI N := by
    rw [show m 2 = nI N from hs, ← oI_pred, Int32.sub_eq_add_neg]
  refine pv_call_of rfl rfl rfl (pv_run [] 30 ?_)
  refine rc_isIn d (rs m a) x 0 (m 2 - 1) _ ?_
  have key : (0 ≤ x ∧ x ≤ m 2 - 1) ↔ ∃ p, x = nI p ∧ p < N := by
    rw [eN]
    constructor
    · rintro ⟨k1, k2⟩
      obtain ⟨p, hp, rfl⟩ := nI_of (show ¬ x < 0 from Int32.not_lt.mpr k1)
      cases N with
      | zero =>
        have k3 : nI p < 0 := Int32.lt_of_le_of_lt k2 (by decide)
        exact absurd k3 (nI_pos (by omega))
      | succ N =>
        rw [oI_s, nI_leI hp (by omega)] at k2
        exact ⟨p, rfl, by omega⟩
    · rintro ⟨p, rfl, hp⟩
      obtain ⟨N', rfl⟩ : ∃ N', N = N' + 1 := ⟨N - 1, by omega⟩
      rw [oI_s, nI_leI (by omega) (by omega)]
      exact ⟨Int32.not_lt.mp (nI_pos (by omega)), by omega⟩
  by_cases c : 0 ≤ x ∧ x ≤ m 2 - 1
  · rw [if_pos c]
    obtain ⟨p, e, hp⟩ := key.mp c
    exact And.intro (Or.inr rfl) (h1 p e hp)
  · rw [if_neg c]
    exact And.intro (Or.inl rfl) (h0 (fun p hp e => c (key.mpr ⟨p, e, hp⟩)))
theorem ix36 {v p k : Nat} : (3600 : Int32) * nI v + nI (5 * p + k) = nI (3600 * v + (5 * p + k)) := by rw [mul36, nI_add]
/-- the states that the reference has for VARIABLE v at a node -/
def svR (a : Nat → Nat → Int32) (v p : Nat) (k : Int32) : Int32 :=
  if k = 1 ∧ a r_isStmt p = 0 then a r_seen (3600 * v + (5 * p + 1)) ||| a r_seen (3600 * v + (5 * p + 2)) else a r_seen (3600 * v + (5 * p + (if k = 0 then 0 else if k = 1 then 3 else if k = 2 then 1 else 2)))
set_option maxRecDepth 100000 in
theorem rs_49 (d : Nat) {v p : Nat} (hv : v ≤ 12) (hp : p < 260) (k : Int32) (P : pv_R) (h : P (some (.int (a r_seen (3600 * v + (5 * p + (if k = 0 then 0 else if k = 1 then 3 else if k = 2 then 1 else 2)))))) (rs m a)) : pv_go rq_T62 0 (pv_call rq_mt (d + 1)) P (49, [(0, .ref 0), (1, .int (nI v)), (2, .int (nI p)), (3, .int k), (4, .int (3600 * nI v))], [], rs m a) := by
  have i1 : ∀ j, j < 5 → vp_in ((3600 : Int32) * nI v + nI (5 * p + j)) 46800 := fun j hj => by rw [ix36]; exact vp_in_nI (by omega) (by decide)
  have c1 : ∀ j, j < 5 → ((3600 : Int32) * nI v + nI (5 * p + j)).toNatClampNeg = 3600 * v + (5 * p + j) := fun j hj => by rw [ix36]; exact nI_clamp (by omega)
  have g : ∀ j, j < 5 → P (some (.int (a r_seen (3600 * v + (5 * p + j))))) (rs m a) → P (some (.int (a 56 ((3600 : Int32) * nI v + nI (5 * p + j)).toNatClampNeg))) (rs m a) := fun j hj h => by rw [c1 j hj]; exact h
  refine pv_run [] 60 ?_
  refine And.intro (fun z => ?_) (fun z => ?_)
  · have z : k = 0 := z
    rw [if_pos z] at h
    refine rc_pnt d (rs m a) p 0 _ ?_
    refine And.intro (i1 0 (by omega)) ?_
    exact g 0 (by omega) h
  · have z : ¬ k = 0 := z
    rw [if_neg z] at h
    refine And.intro (fun z => ?_) (fun z => ?_)
    · have z : k = 1 := z
      rw [if_pos z] at h
      refine rc_pnt d (rs m a) p 3 _ ?_
      refine And.intro (i1 3 (by omega)) ?_
      exact g 3 (by omega) h
    · have z : ¬ k = 1 := z
      rw [if_neg z] at h
      refine And.intro (fun z => ?_) (fun z => ?_)
      · have z : k = 2 := z
        rw [if_pos z] at h
        refine rc_pnt d (rs m a) p 1 _ ?_
        refine And.intro (i1 1 (by omega)) ?_
        exact g 1 (by omega) h
      · have z : ¬ k = 2 := z
        rw [if_neg z] at h
        refine rc_pnt d (rs m a) p 2 _ ?_
        refine And.intro (i1 2 (by omega)) ?_
        exact g 2 (by omega) h
set_option maxRecDepth 100000 in
theorem rc_states (d : Nat) {v p : Nat} (hv : v ≤ 12) (hp : p < 260) (k : Int32) (P : pv_R) (h : P (some (.int (svR a v p k))) (rs m a)) : pv_call rq_mt (d + 2) rq_m_R_states [.ref 0, .int (nI v), .int (nI p), .int k] (rs m a) P := by
  have i0 : vp_in (nI p) 260 := vp_in_nI (by omega) (by decide)
  have c0 : (nI p).toNatClampNeg = p := nI_clamp (by omega)
  have i1 : ∀ j, j < 5 → vp_in ((3600 : Int32) * nI v + nI (5 * p + j)) 46800 := fun j hj => by rw [ix36]; exact vp_in_nI (by omega) (by decide)
  have c1 : ∀ j, j < 5 → ((3600 : Int32) * nI v + nI (5 * p + j)).toNatClampNeg = 3600 * v + (5 * p + j) := fun j hj => by rw [ix36]; exact nI_clamp (by omega)
  unfold svR at h
  refine pv_call_of rfl rfl rfl (pv_run [49] 60 ?_)
  refine And.intro (fun z => ?_) (fun z => ?_)
  · have z : k = 1 := z
    refine And.intro i0 ?_
    refine And.intro (fun y => ?_) (fun y => ?_)
    · have y : a 8 (nI p).toNatClampNeg = 0 := y
      rw [c0] at y
      rw [if_pos ⟨z, y⟩] at h
      refine rc_pnt d (rs m a) p 1 _ ?_
      refine And.intro (i1 1 (by omega)) ?_
      refine rc_pnt d (rs m a) p 2 _ ?_
      refine And.intro (i1 2 (by omega)) ?_
      have g : P (some (.int (a 56 ((3600 : Int32) * nI v + nI (5 * p + 1)).toNatClampNeg ||| a 56 ((3600 : Int32) * nI v + nI (5 * p + 2)).toNatClampNeg))) (rs m a) := by rw [c1 1 (by omega), c1 2 (by omega)]; exact h
      exact g
    · have y : ¬ a 8 (nI p).toNatClampNeg = 0 := y
      rw [c0] at y
      rw [if_neg (fun u => y u.2)] at h
      exact rs_49 d hv hp k P h
  · have z : ¬ k = 1 := z
    rw [if_neg (fun u => z u.1)] at h
    exact rs_49 d hv hp k P h
theorem rc_statesX (d : Nat) {v p : Nat} {x : Int32} (hx : x = nI v) (hv : v ≤ 12) (hp : p < 260) (k : Int32) (P : pv_R) (h : P (some (.int (svR a v p k))) (rs m a)) : pv_call rq_mt (d + 2) rq_m_R_states [.ref 0, .int x, .int (nI p), .int k] (rs m a) P := by
  rw [hx]
  exact rc_states d hv hp k P h
set_option maxRecDepth 100000 in
theorem rc_isReached (d : Nat) {V p : Nat} (hV : V ≤ 12) (hvs : m r_variables = nI V) (hp : p < 260) (k : Int32) (P : pv_R) (h1 : ¬ svR a V p k = 0 → P (some (.int 1)) (rs m a)) (h0 : svR a V p k = 0 → P (some (.int 0)) (rs m a)) : pv_call rq_mt (d + 3) rq_m_R_isReached [.ref 0, .int (nI p), .int k] (rs m a) P := by
  refine pv_call_of rfl rfl rfl (pv_run [] 30 ?_)
  refine rc_statesX (v := V) d hvs hV hp k _ ?_
  refine And.intro (fun z => ?_) (fun z => ?_)
  · exact And.intro (Or.inl rfl) (h0 z)
  · exact And.intro (Or.inr rfl) (h1 z)
/-- a = is met twice -/
def twR (a : Nat → Nat → Int32) (v p : Nat) : Prop := ¬ (a r_seen (3600 * v + (5 * p + 3)) ||| a r_seen (3600 * v + (5 * p + 4))) &&& 2 = 0
theorem ixX {v p k : Nat} {x : Int32} (hx : x = nI v) : (3600 : Int32) * x + nI (5 * p + k) = nI (3600 * v + (5 * p + k)) := by rw [hx, ix36]
set_option maxRecDepth 100000 in
theorem rc_isTwice (d : Nat) {v p : Nat} (hv : v ≤ 12) (hp : p < 260) (hx : a r_variable p = nI v) (P : pv_R) (h1 : twR a v p → P (some (.int 1)) (rs m a)) (h0 : ¬ twR a v p → P (some (.int 0)) (rs m a)) : pv_call rq_mt (d + 2) rq_m_R_isTwice [.ref 0, .int (nI p)] (rs m a) P := by
  have i0 : vp_in (nI p) 260 := vp_in_nI (by omega) (by decide)
  have c0 : (nI p).toNatClampNeg = p := nI_clamp (by omega)
  have hx : a 7 (nI p).toNatClampNeg = nI v := by rw [c0]; exact hx
  have i1 : ∀ j, j < 5 → vp_in ((3600 : Int32) * a 7 (nI p).toNatClampNeg + nI (5 * p + j)) 46800 := fun j hj => by rw [ixX hx]; exact vp_in_nI (by omega) (by decide)
  have c1 : ∀ j, j < 5 → ((3600 : Int32) * a 7 (nI p).toNatClampNeg + nI (5 * p + j)).toNatClampNeg = 3600 * v + (5 * p + j) := fun j hj => by rw [ixX hx]; exact nI_clamp (by omega)
  refine pv_call_of rfl rfl rfl (pv_run [] 60 ?_)
  refine And.intro i0 ?_
  refine rc_pnt d (rs m a) p 3 _ ?_
  refine And.intro (i1 3 (by omega)) ?_
  refine rc_pnt d (rs m a) p 4 _ ?_
  refine And.intro (i1 4 (by omega)) ?_
  have e : (a 56 ((3600 : Int32) * a 7 (nI p).toNatClampNeg + nI (5 * p + 3)).toNatClampNeg ||| a 56 ((3600 : Int32) * a 7 (nI p).toNatClampNeg + nI (5 * p + 4)).toNatClampNeg) &&& 2 = 0 ↔ ¬ twR a v p := by
    rw [c1 3 (by omega), c1 4 (by omega)]
    unfold twR
    exact Classical.not_not.symm
  refine And.intro (fun z => ?_) (fun z => ?_)
  · exact And.intro (Or.inl rfl) (h0 (e.mp z))
  · exact And.intro (Or.inr rfl) (h1 (Classical.not_not.mp (fun u => z (e.mpr u))))
/-- the ERROR at a node -/
def erR (a : Nat → Nat → Int32) (V p : Nat) (r : Int32) : Prop :=
  (¬ a r_isStmt p = 0 → (r = 0 ∧ ¬ svR a V p 0 = 0) ∨ (r = 3 ∧ svR a V p 0 = 0)) ∧
  (a r_isStmt p = 0 → a r_sort p = 61 → (r = 2 ∧ ¬ a r_isFinal (dN (a r_variable p)) = 0 ∧ twR a (dN (a r_variable p)) p) ∨ (r = 0 ∧ ¬ (¬ a r_isFinal (dN (a r_variable p)) = 0 ∧ twR a (dN (a r_variable p)) p))) ∧
  (a r_isStmt p = 0 → ¬ a r_sort p = 61 → (r = 1 ∧ ¬ a r_variable p = -1 ∧ ¬ svR a (dN (a r_variable p)) p 0 &&& 1 = 0) ∨ (r = 0 ∧ ¬ (¬ a r_variable p = -1 ∧ ¬ svR a (dN (a r_variable p)) p 0 &&& 1 = 0)))
/-- the VARIABLES of e's -/
def vrOK (a : Nat → Nat → Int32) (p : Nat) : Prop := a r_isStmt p = 0 → (¬ a r_sort p = 61 ∧ a r_variable p = -1) ∨ ∃ v, v < 12 ∧ a r_variable p = nI v
set_option maxRecDepth 100000 in
theorem rc_errorAt (d : Nat) {V p : Nat} (hV : V ≤ 12) (hvs : m r_variables = nI V) (hp : p < 260) (hvr : vrOK a p) (P : pv_R) (h : ∀ r, erR a V p r → P (some (.int r)) (rs m a)) : pv_call rq_mt (d + 4) rq_m_R_errorAt [.ref 0, .int (nI p)] (rs m a) P := by
  have i0 : vp_in (nI p) 260 := vp_in_nI (by omega) (by decide)
  have c0 : (nI p).toNatClampNeg = p := nI_clamp (by omega)
  refine pv_call_of rfl rfl rfl (pv_run [24] 60 ?_)
  refine And.intro i0 ?_
  refine And.intro (fun z => ?_) (fun z => ?_)
  · have z : a 8 (nI p).toNatClampNeg = 0 := z
    rw [c0] at z
    have g24 : pv_go rq_T66 0 (pv_call rq_mt (d + 3)) P (24, [(0, .ref 0), (1, .int (nI p))], [], rs m a) := by
      refine pv_run [63] 60 ?_
      refine And.intro i0 ?_
      refine And.intro (fun y => ?_) (fun y => ?_)
      · have y : a 3 (nI p).toNatClampNeg = 61 := y
        rw [c0] at y
        obtain ⟨v, hv, ev⟩ := (hvr z).resolve_left (fun u => u.1 y)
        have ev2 : a 7 (nI p).toNatClampNeg = nI v := by rw [c0]; exact ev
        have dv : dN (a r_variable p) = v := by rw [ev]; exact nI_clamp (by omega)
        have i2 : vp_in (a 7 (nI p).toNatClampNeg) 12 := by rw [ev2]; exact vp_in_nI (by omega) (by decide)
        have c2 : (a 7 (nI p).toNatClampNeg).toNatClampNeg = v := by rw [ev2]; exact nI_clamp (by omega)
        have mk : ∀ r, ((r = 2 ∧ ¬ a r_isFinal v = 0 ∧ twR a v p) ∨ (r = 0 ∧ ¬ (¬ a r_isFinal v = 0 ∧ twR a v p))) → P (some (.int r)) (rs m a) := fun r k => h r ⟨fun u => absurd z u, fun _ _ => by rw [dv]; exact k, fun _ u => absurd y u⟩
        refine And.intro i0 ?_
        refine And.intro i2 ?_
        refine And.intro (fun x => ?_) (fun x => ?_)
        · have x : a 21 (a 7 (nI p).toNatClampNeg).toNatClampNeg = 0 := x
          rw [c2] at x
          exact mk 0 (Or.inr ⟨rfl, fun u => u.1 x⟩)
        · have x : ¬ a 21 (a 7 (nI p).toNatClampNeg).toNatClampNeg = 0 := x
          rw [c2] at x
          refine rc_isTwice (d + 1) (by omega) hp ev _ (fun t => ?_) (fun t => ?_)
          · refine And.intro (fun u => absurd u (by decide)) (fun _ => ?_)
            exact mk 2 (Or.inl ⟨rfl, x, t⟩)
          · refine And.intro (fun _ => ?_) (fun u => absurd rfl u)
            exact mk 0 (Or.inr ⟨rfl, fun u => t u.2⟩)
      · have y : ¬ a 3 (nI p).toNatClampNeg = 61 := y
        rw [c0] at y
        have mk : ∀ r, ((r = 1 ∧ ¬ a r_variable p = -1 ∧ ¬ svR a (dN (a r_variable p)) p 0 &&& 1 = 0) ∨ (r = 0 ∧ ¬ (¬ a r_variable p = -1 ∧ ¬ svR a (dN (a r_variable p)) p 0 &&& 1 = 0))) → P (some (.int r)) (rs m a) := fun r k => h r ⟨fun u => absurd z u, fun _ u => absurd u y, fun _ _ => k⟩
        have g63 : pv_go rq_T66 0 (pv_call rq_mt (d + 3)) P (63, [(0, .ref 0), (1, .int (nI p))], [], rs m a) := by
          refine pv_run [] 60 ?_
          refine And.intro i0 ?_
          refine And.intro (fun x => ?_) (fun x => ?_)
          · have x : a 7 (nI p).toNatClampNeg = -1 := x
            rw [c0] at x
            exact mk 0 (Or.inr ⟨rfl, fun u => u.1 x⟩)
          · have x : ¬ a 7 (nI p).toNatClampNeg = -1 := x
            rw [c0] at x
            obtain ⟨v, hv, ev⟩ := (hvr z).resolve_left (fun u => x u.2)
            have ev2 : a 7 (nI p).toNatClampNeg = nI v := by rw [c0]; exact ev
            have dv : dN (a r_variable p) = v := by rw [ev]; exact nI_clamp (by omega)
            rw [dv] at mk
            refine And.intro i0 ?_
            refine rc_statesX (v := v) (d + 1) ev2 (by omega) hp 0 _ ?_
            refine And.intro (fun w => ?_) (fun w => ?_)
            · exact mk 0 (Or.inr ⟨rfl, fun u => u.2 w⟩)
            · exact mk 1 (Or.inl ⟨rfl, x, w⟩)
        exact g63
    exact g24
  · have z : ¬ a 8 (nI p).toNatClampNeg = 0 := z
    rw [c0] at z
    have mk : ∀ r, ((r = 0 ∧ ¬ svR a V p 0 = 0) ∨ (r = 3 ∧ svR a V p 0 = 0)) → P (some (.int r)) (rs m a) := fun r k => h r ⟨fun _ => k, fun u => absurd u z, fun u => absurd u z⟩
    refine rc_isReached d hV hvs hp 0 _ (fun t => ?_) (fun t => ?_)
    · refine And.intro (fun u => absurd u (by decide)) (fun _ => ?_)
      exact mk 0 (Or.inl ⟨rfl, t⟩)
    · refine And.intro (fun _ => ?_) (fun u => absurd rfl u)
      exact mk 3 (Or.inr ⟨rfl, t⟩)
/-- the answer of place -/
def plR2 (a : Nat → Nat → Int32) (p : Nat) (y : Int32) : Int32 := if y = 0 then a r_sort p else if y = 1 then a r_first p else if y = 2 then (if a r_around p = -1 then -1 else a r_number (dN (a r_around p))) else a r_variable p
set_option maxRecDepth 100000 in
theorem rc_place (d : Nat) {N : Nat} (hN : N ≤ 260) (hs : m r_nodes = nI N) (hb : ∀ i, i < N → a r_byNumber i = nI (dN (a r_byNumber i)) ∧ dN (a r_byNumber i) < N) (ha : ∀ p, p < N → a r_around p = -1 ∨ (a r_around p = nI (dN (a r_around p)) ∧ dN (a r_around p) < N)) (x y : Int32) (P : pv_R)
    (h1 : ∀ p, x = nI p → p < N → (0 ≤ y ∧ y ≤ 3) → P (some (.int (plR2 a (dN (a r_byNumber p)) y))) (rs m a)) (h0 : ¬ ((∃ p, x = nI p ∧ p < N) ∧ (0 ≤ y ∧ y ≤ 3)) → P (some (.int (-2))) (rs m a)) : pv_call rq_mt (d + 3) rq_m_R_place [.ref 0, .int x, .int y] (rs m a) P := by
  refine pv_call_of rfl rfl rfl (pv_run [] 60 ?_)
  refine rc_isPlace d (by omega) hs x _ (fun p e hp => ?_) (fun q => ?_)
  · refine And.intro (fun u => absurd u (by decide)) (fun _ => ?_)
    refine rc_isIn (d + 1) (rs m a) y 0 3 _ ?_
    by_cases c : 0 ≤ y ∧ y ≤ 3
    · rw [if_pos c]
      refine And.intro (fun u => absurd u (by decide)) (fun _ => ?_)
      have g := h1 p e hp c
      subst e
      have i1 : vp_in (nI p) 260 := vp_in_nI (by omega) (by decide)
      have c1 : (nI p).toNatClampNeg = p := nI_clamp (by omega)
      have b := hb p hp
      have eb : a 45 (nI p).toNatClampNeg = nI (dN (a r_byNumber p)) := by rw [c1]; exact b.1
      have i2 : vp_in (a 45 (nI p).toNatClampNeg) 260 := by rw [eb]; exact vp_in_nI (by omega) (by decide)
      have c2 : (a 45 (nI p).toNatClampNeg).toNatClampNeg = dN (a r_byNumber p) := by rw [c1]
      refine And.intro i1 ?_
      unfold plR2 at g
      refine And.intro (fun z => ?_) (fun z => ?_)
      · rw [if_pos (show y = 0 from z)] at g
        refine And.intro i2 ?_
        have g : P (some (.int (a 3 (a 45 (nI p).toNatClampNeg).toNatClampNeg))) (rs m a) := by rw [c2]; exact g
        exact g
      rw [if_neg (show ¬ y = 0 from z)] at g
      refine And.intro (fun z => ?_) (fun z => ?_)
      · rw [if_pos (show y = 1 from z)] at g
        refine And.intro i2 ?_
        have g : P (some (.int (a 4 (a 45 (nI p).toNatClampNeg).toNatClampNeg))) (rs m a) := by rw [c2]; exact g
        exact g
      rw [if_neg (show ¬ y = 1 from z)] at g
      refine And.intro (fun z => ?_) (fun z => ?_)
      · rw [if_pos (show y = 2 from z)] at g
        refine And.intro i2 ?_
        refine And.intro (fun w => ?_) (fun w => ?_)
        · have w : a 5 (a 45 (nI p).toNatClampNeg).toNatClampNeg = -1 := w
          rw [c2] at w
          rw [if_pos w] at g
          exact g
        · have w : ¬ a 5 (a 45 (nI p).toNatClampNeg).toNatClampNeg = -1 := w
          rw [c2] at w
          rw [if_neg w] at g
          obtain ⟨k1, k2⟩ := (ha _ b.2).resolve_left w
          have e3 : a 5 (a 45 (nI p).toNatClampNeg).toNatClampNeg = nI (dN (a r_around (dN (a r_byNumber p)))) := by rw [c2]; exact k1
          have i3 : vp_in (a 5 (a 45 (nI p).toNatClampNeg).toNatClampNeg) 260 := by rw [e3]; exact vp_in_nI (by omega) (by decide)
          have c3 : (a 5 (a 45 (nI p).toNatClampNeg).toNatClampNeg).toNatClampNeg = dN (a r_around (dN (a r_byNumber p))) := by rw [c2]
          refine And.intro i2 ?_
          refine And.intro i3 ?_
          have g : P (some (.int (a 44 (a 5 (a 45 (nI p).toNatClampNeg).toNatClampNeg).toNatClampNeg))) (rs m a) := by rw [c3]; exact g
          exact g
      rw [if_neg (show ¬ y = 2 from z)] at g
      refine And.intro i2 ?_
      have g : P (some (.int (a 7 (a 45 (nI p).toNatClampNeg).toNatClampNeg))) (rs m a) := by rw [c2]; exact g
      exact g
    · rw [if_neg c]
      refine And.intro (fun _ => ?_) (fun u => absurd rfl u)
      exact h0 (fun u => c u.2)
  · refine And.intro (fun _ => ?_) (fun u => absurd rfl u)
    exact h0 (fun u => q _ u.1.choose_spec.2 u.1.choose_spec.1)
end RQ1
