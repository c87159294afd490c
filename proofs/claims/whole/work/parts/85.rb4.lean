def scW (t c : Nat) : List (Nat × Nat) → Nat → Nat
  | [], _ => 0
  | x :: r, k => if x.1 = t ∧ x.2 = c then k + 1 else scW t c r (k + 1)
/-- the way of T t on code c: its point, the ways then -/
def wyF (t c : Nat) (W : wL_T) : Nat × wL_T := if scW t c W.reverse 0 = 0 then (2100 + W.length, (t, c) :: W) else (2100 + (scW t c W.reverse 0 - 1), W)
theorem rowW_get {a : Nat → Nat → Int32} : ∀ (W : wL_T), rowW a W → ∀ (i : Nat) (x : Nat × Nat), W.reverse[i]? = some x → a r_wayOf i = nI x.1 ∧ a r_wayCode i = nI x.2
  | [], _, i, x, h => by simp at h
  | (t, c) :: r, hr, i, x, h => by
    rw [List.reverse_cons] at h
    rcases get_app h with h | ⟨j, e, h⟩
    · exact rowW_get r hr.2 i x h
    · rw [List.length_reverse] at e
      cases j with
      | zero =>
        simp at h
        rw [e, ← h]
        exact hr.1
      | succ j => simp at h
section RB4
variable {m0 : Nat → Int32} {a0 : Nat → Nat → Int32}
abbrev wyL (t c k : Nat) : pv_L := [(0, .ref 0), (1, .int (nI t)), (2, .int (nI c)), (3, .int (nI k))]
def wOK (W : wL_T) : Prop := W.length < 1500 ∧ ∀ x ∈ W, x.1 < 2 ^ 20 ∧ x.2 < 2 ^ 20
set_option maxRecDepth 100000 in
theorem wy_42 (d : Nat) {E : eL_T} {W : wL_T} {S : pv_S} (hS : RB m0 a0 E W S) (hW : W.length < 1500) {t c k : Nat} (P : pv_R) (h : ∀ S', RB m0 a0 E ((t, c) :: W) S' → P (some (.int (nI (2100 + W.length)))) S') : pv_go rq_T47 0 (pv_call rq_mt d) P (42, wyL t c k, [], S) := by
  obtain ⟨m, a, rfl, h1, h2, h3⟩ := hS
  have hw := h3.1
  have i1 : vp_in (m r_ways) 1500 := by rw [hw]; exact vp_in_nI (by omega) (by decide)
  have c1 : (m r_ways).toNatClampNeg = W.length := by rw [hw]; exact nI_clamp (by omega)
  have g := h (rs (upd m r_ways (nI W.length + 1)) (up2 (up2 a r_wayOf W.length (nI t)) r_wayCode W.length (nI c))) ⟨_, _, rfl, ⟨fun j hj => by
      show (if j = 55 then _ else m j) = _
      rw [if_neg (by omega)]; exact h1.1 j hj, fun j hj => by
      rw [up2_row (show ¬ j = 53 by omega), up2_row (show ¬ j = 52 by omega)]; exact h1.2 j hj⟩, ⟨by
      show (if r_edges = 55 then _ else m r_edges) = _
      rw [if_neg (by decide)]; exact h2.1, fun x hx => by
      rw [up2_row (by decide), up2_row (by decide)]; exact h2.2.1 x hx, rowE_c E (fun j i hj hi => by rw [up2_row (show ¬ j = 53 by omega), up2_row (show ¬ j = 52 by omega)]) h2.2.2⟩, by
      show nI W.length + 1 = nI (W.length + 1)
      exact nI_1 _, ⟨by rw [up2_row (by decide), up2_eq], up2_eq _ _ _ _⟩, rowW_c W (fun j i hj hi => by rw [up2_no (fun z => by omega), up2_no (fun z => by omega)]) h3.2⟩
  have e1 : (2100 : Int32) + (nI W.length + 1) - 1 = nI (2100 + W.length) := by
    rw [nI_1, show (2100 : Int32) = nI 2100 from rfl, nI_add, show 2100 + (W.length + 1) = (2100 + W.length) + 1 by omega, nI_pred]
  have g : P (some (.int ((2100 : Int32) + (m r_ways + 1) - 1))) (rs (upd m r_ways (m r_ways + 1)) (up2 (up2 a r_wayOf (m r_ways).toNatClampNeg (nI t)) r_wayCode (m r_ways).toNatClampNeg (nI c))) := by
    rw [c1, hw, e1]; exact g
  refine pv_run [] 40 ?_
  refine And.intro i1 ?_
  refine And.intro i1 ?_
  exact g
set_option maxRecDepth 100000 in
theorem wy_2 (d : Nat) {E : eL_T} {W : wL_T} {S : pv_S} (hS : RB m0 a0 E W S) (hW : wOK W) {t c : Nat} (ht : t < 2 ^ 20) (hc : c < 2 ^ 20) (P : pv_R) : ∀ (suf : List (Nat × Nat)) (pre : List (Nat × Nat)), W.reverse = pre ++ suf → (scW t c suf pre.length = 0 → ∀ S', RB m0 a0 E ((t, c) :: W) S' → P (some (.int (nI (2100 + W.length)))) S') → (¬ scW t c suf pre.length = 0 → P (some (.int (nI (2100 + (scW t c suf pre.length - 1))))) S) → pv_go rq_T47 0 (pv_call rq_mt d) P (2, wyL t c pre.length, [], S) := by
  intro suf
  induction suf with
  | nil =>
    intro pre hp h0 h1
    have hl : pre.length = W.length := by
      have := congrArg List.length hp
      rw [List.length_reverse, List.append_nil] at this
      exact this.symm
    obtain ⟨m, a, rfl, hR⟩ := hS
    have g := wy_42 (k := pre.length) (t := t) (c := c) d ⟨m, a, rfl, hR⟩ hW.1 P (h0 rfl)
    have le : m 55 ≤ nI pre.length := by rw [show m 55 = nI W.length from hR.2.2.1, hl]; exact Int32.le_refl _
    refine pv_run [42] 20 ?_
    exact And.intro (fun _ => g) (fun q => absurd le q)
  | cons x suf ih =>
    intro pre hp h0 h1
    obtain ⟨m, a, rfl, hR⟩ := hS
    have hlen : pre.length < W.length := by
      have := congrArg List.length hp
      rw [List.length_reverse, List.length_append, List.length_cons] at this
      omega
    have hget : W.reverse[pre.length]? = some x := by rw [hp, List.getElem?_append_right (Nat.le_refl _), Nat.sub_self]; rfl
    have hrow := rowW_get W hR.2.2.2 pre.length x hget
    have hx : x ∈ W := by
      have : x ∈ W.reverse := List.mem_of_getElem? hget
      exact List.mem_reverse.mp this
    have hxb := hW.2 x hx
    have hWl := hW.1
    have nle : ¬ m 55 ≤ nI pre.length := by
      rw [show m 55 = nI W.length from hR.2.2.1, nI_leI (by omega) (by omega)]
      omega
    have i1 : vp_in (nI pre.length) 1500 := vp_in_nI (by omega) (by decide)
    have c1 : (nI pre.length).toNatClampNeg = pre.length := nI_clamp (by omega)
    have e0 : scW t c (x :: suf) pre.length = if x.1 = t ∧ x.2 = c then pre.length + 1 else scW t c suf (pre.length + 1) := rfl
    rw [e0] at h0 h1
    have no : ¬ (x.1 = t ∧ x.2 = c) → pv_go rq_T47 0 (pv_call rq_mt d) P (36, wyL t c pre.length, [], rs m a) := by
      intro q
      rw [if_neg q] at h0 h1
      have g := ih (pre ++ [x]) (by rw [hp, List.append_assoc]; rfl) (by rw [List.length_append]; exact h0) (by rw [List.length_append]; exact h1)
      rw [List.length_append] at g
      refine pv_run [2] 10 ?_
      show pv_go rq_T47 0 (pv_call rq_mt d) P (2, [(0, .ref 0), (1, .int (nI t)), (2, .int (nI c)), (3, .int (nI pre.length + 1))], [], rs m a)
      rw [nI_1]
      exact g
    refine pv_run [36] 30 ?_
    refine And.intro (fun z => absurd z nle) (fun _ => ?_)
    refine And.intro i1 ?_
    refine And.intro (fun z => ?_) (fun z => ?_)
    · have z : a r_wayOf (nI pre.length).toNatClampNeg = nI t := z
      rw [c1, hrow.1, nI_eq (by omega) (by omega)] at z
      refine And.intro i1 ?_
      refine And.intro (fun y => ?_) (fun y => ?_)
      · have y : a r_wayCode (nI pre.length).toNatClampNeg = nI c := y
        rw [c1, hrow.2, nI_eq (by omega) (by omega)] at y
        rw [if_pos ⟨z, y⟩] at h1
        have h1 := h1 (by omega)
        rw [show pre.length + 1 - 1 = pre.length from rfl, ← nI_add] at h1
        exact h1
      · have y : ¬ a r_wayCode (nI pre.length).toNatClampNeg = nI c := y
        rw [c1, hrow.2, nI_eq (by omega) (by omega)] at y
        exact no (fun u => y u.2)
    · have z : ¬ a r_wayOf (nI pre.length).toNatClampNeg = nI t := z
      rw [c1, hrow.1, nI_eq (by omega) (by omega)] at z
      exact no (fun u => z u.1)
set_option maxRecDepth 100000 in
theorem rc_way (d : Nat) {E : eL_T} {W : wL_T} {S : pv_S} (hS : RB m0 a0 E W S) (hW : wOK W) {t c : Nat} (ht : t < 2 ^ 20) (hc : c < 2 ^ 20) (P : pv_R) (h : ∀ S', RB m0 a0 E (wyF t c W).2 S' → P (some (.int (nI (wyF t c W).1))) S') : pv_call rq_mt (d + 1) rq_m_R_way [.ref 0, .int (nI t), .int (nI c)] S P := by
  unfold wyF at h
  refine pv_call_of rfl rfl rfl (pv_run [2] 10 ?_)
  refine wy_2 d hS hW ht hc P W.reverse [] rfl (fun q S' hS' => ?_) (fun q => ?_)
  · have q : scW t c W.reverse 0 = 0 := q
    rw [if_pos q] at h
    exact h S' hS'
  · have q : ¬ scW t c W.reverse 0 = 0 := q
    rw [if_neg q] at h
    exact h S hS
end RB4
