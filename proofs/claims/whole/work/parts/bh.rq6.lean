/-! variable of the reference -/
theorem inK {N : Nat} (hN : N < 2 ^ 20) (x : Int32) : (0 ≤ x ∧ x ≤ nI N - 1) ↔ ∃ p, x = nI p ∧ p < N := by
  rw [show nI N - 1 = oI N by rw [← oI_pred, Int32.sub_eq_add_neg]]
  constructor
  · rintro ⟨k1, k2⟩
    obtain ⟨p, hp, rfl⟩ := nI_of (show ¬ x < 0 from Int32.not_lt.mpr k1)
    cases N with
    | zero =>
      have k3 : nI p < 0 := Int32.lt_of_le_of_lt k2 (by decide)
      exact absurd k3 (nI_pos (by omega))
    | succ N =>
      rw [oI_s, nI_leI hp (by omega)] at k2
      exact ⟨p, rfl, by omega⟩
  · rintro ⟨p, rfl, hp⟩
    obtain ⟨N', rfl⟩ : ∃ N', N = N' + 1 := ⟨N - 1, by omega⟩
    rw [oI_s, nI_leI (by omega) (by omega)]
    exact ⟨Int32.not_lt.mp (nI_pos (by omega)), by omega⟩
section RQ6
variable {m : Nat → Int32} {a : Nat → Nat → Int32}
abbrev twD (a : Nat → Nat → Int32) (v p : Nat) : Prop := ¬ (a r_seen (3600 * v + (5 * p + 3)) ||| a r_seen (3600 * v + (5 * p + 4))) &&& 2 = 0
def vlR (a : Nat → Nat → Int32) (v : Nat) : Nat → Nat → Int32 → Int32 → Int32 → Int32 × Int32 × Int32
  | 0, _, u, g, c => (u, g, c)
  | j + 1, p, u, g, c => if a r_isStmt p = 0 ∧ a r_variable p = nI v then vlR a v j (p + 1) (u + (if a r_sort p = 61 then 0 else 1)) (g + (if a r_sort p = 61 then 1 else 0)) (if ¬ c = 0 ∧ ¬ (a r_sort p = 61 ∧ twD a v p) then 1 else 0) else vlR a v j (p + 1) u g c
abbrev vlL (v : Nat) (y u g c : Int32) (p : Nat) : pv_L := [(0, .ref 0), (1, .int (nI v)), (2, .int y), (3, .int u), (4, .int g), (5, .int c), (6, .int (nI p))]
def vrR (a : Nat → Nat → Int32) (v : Nat) (y : Int32) (r : Int32 × Int32 × Int32) : Int32 :=
  if y = 0 then 97 + a r_nameOf v else if y = 1 then (if a r_isFinal v = 0 then 0 else 1) else if y = 2 then a r_number (dN (a r_givenAt v)) else if y = 3 then (if r.2.2 = 0 then 0 else 1) else if y = 4 then r.1 else r.2.1
set_option maxRecDepth 100000 in
theorem vl_148 (d : Nat) {v : Nat} (hv : v < 12) (hg : a r_givenAt v = nI (dN (a r_givenAt v)) ∧ dN (a r_givenAt v) < 260) (y u g c : Int32) (p : Nat) (P : pv_R) (h : P (some (.int (vrR a v y (u, g, c)))) (rs m a)) : pv_go rq_T68 0 (pv_call rq_mt d) P (148, vlL v y u g c p, [], rs m a) := by
  have i1 : vp_in (nI v) 12 := vp_in_nI (by omega) (by decide)
  have c1 : (nI v).toNatClampNeg = v := nI_clamp (by omega)
  unfold vrR at h
  refine pv_run [] 40 ?_
  refine And.intro (fun z => ?_) (fun z => ?_)
  · rw [if_pos (show y = 0 from z)] at h
    refine And.intro i1 ?_
    have h : P (some (.int (97 + a 20 (nI v).toNatClampNeg))) (rs m a) := by rw [c1]; exact h
    exact h
  rw [if_neg (show ¬ y = 0 from z)] at h
  refine And.intro (fun z => ?_) (fun z => ?_)
  · rw [if_pos (show y = 1 from z)] at h
    refine And.intro i1 ?_
    refine And.intro (fun q => ?_) (fun q => ?_)
    · have q : a 21 (nI v).toNatClampNeg = 0 := q
      rw [c1] at q
      rw [if_pos q] at h
      exact h
    · have q : ¬ a 21 (nI v).toNatClampNeg = 0 := q
      rw [c1] at q
      rw [if_neg q] at h
      exact h
  rw [if_neg (show ¬ y = 1 from z)] at h
  refine And.intro (fun z => ?_) (fun z => ?_)
  · rw [if_pos (show y = 2 from z)] at h
    have e2 : a 22 (nI v).toNatClampNeg = nI (dN (a r_givenAt v)) := by rw [c1]; exact hg.1
    have i2 : vp_in (a 22 (nI v).toNatClampNeg) 260 := by rw [e2]; exact vp_in_nI (by omega) (by decide)
    have c2 : (a 22 (nI v).toNatClampNeg).toNatClampNeg = dN (a r_givenAt v) := by rw [c1]
    refine And.intro i1 ?_
    refine And.intro i2 ?_
    have h : P (some (.int (a 44 (a 22 (nI v).toNatClampNeg).toNatClampNeg))) (rs m a) := by rw [c2]; exact h
    exact h
  rw [if_neg (show ¬ y = 2 from z)] at h
  refine And.intro (fun z => ?_) (fun z => ?_)
  · rw [if_pos (show y = 3 from z)] at h
    refine And.intro (fun q => ?_) (fun q => ?_)
    · rw [if_pos (show c = 0 from q)] at h
      exact h
    · rw [if_neg (show ¬ c = 0 from q)] at h
      exact h
  rw [if_neg (show ¬ y = 3 from z)] at h
  refine And.intro (fun z => ?_) (fun z => ?_)
  · rw [if_pos (show y = 4 from z)] at h
    exact h
  rw [if_neg (show ¬ y = 4 from z)] at h
  exact h
set_option maxRecDepth 100000 in
theorem vl_109 (d : Nat) {v : Nat} (hv : v < 12) (y u g c : Int32) {p : Nat} (hp : p < 260) (hx : a r_variable p = nI v) (P : pv_R) (h : pv_go rq_T68 0 (pv_call rq_mt (d + 2)) P (37, vlL v y u g (if ¬ c = 0 ∧ ¬ (a r_sort p = 61 ∧ twD a v p) then 1 else 0) (p + 1), [], rs m a)) : pv_go rq_T68 0 (pv_call rq_mt (d + 2)) P (109, vlL v y u g c p, [], rs m a) := by
  have i1 : vp_in (nI p) 260 := vp_in_nI (by omega) (by decide)
  have c1 : (nI p).toNatClampNeg = p := nI_clamp (by omega)
  rw [vlL, ← nI_1] at h
  refine pv_run [37] 40 ?_
  refine And.intro (fun z => ?_) (fun z => ?_)
  · have z : c = 0 := z
    rw [if_neg (fun u => u.1 z)] at h
    exact h
  · have z : ¬ c = 0 := z
    refine And.intro i1 ?_
    refine And.intro (fun q => ?_) (fun q => ?_)
    · have q : a 3 (nI p).toNatClampNeg = 61 := q
      rw [c1] at q
      refine rc_isTwice d (by omega) hp hx _ (fun t => ?_) (fun t => ?_)
      · rw [if_neg (fun u => u.2 ⟨q, t⟩)] at h
        refine And.intro (fun u => absurd u (by decide)) (fun _ => ?_)
        exact h
      · rw [if_pos ⟨z, fun u => t u.2⟩] at h
        refine And.intro (fun _ => ?_) (fun u => absurd rfl u)
        exact h
    · have q : ¬ a 3 (nI p).toNatClampNeg = 61 := q
      rw [c1] at q
      rw [if_pos ⟨z, fun u => q u.1⟩] at h
      exact h
set_option maxRecDepth 100000 in
theorem vl_37 (d : Nat) {N v : Nat} (hN : N ≤ 260) (hs : m r_nodes = nI N) (hv : v < 12) (hg : a r_givenAt v = nI (dN (a r_givenAt v)) ∧ dN (a r_givenAt v) < 260) (y : Int32) (P : pv_R) : ∀ (j p : Nat) (u g c : Int32), p + j = N → P (some (.int (vrR a v y (vlR a v j p u g c)))) (rs m a) → pv_go rq_T68 0 (pv_call rq_mt (d + 2)) P (37, vlL v y u g c p, [], rs m a) := by
  intro j
  induction j with
  | zero =>
    intro p u g c hj h
    have e : p = N := by omega
    subst e
    have cc : m 2 ≤ nI p := by rw [show m 2 = nI p from hs]; exact Int32.le_refl _
    refine pv_run [148] 20 ?_
    exact And.intro (fun _ => vl_148 (d + 2) hv hg y u g c p P h) (fun z => absurd cc z)
  | succ j ih =>
    intro p u g c hj h
    have cc : ¬ m 2 ≤ nI p := by rw [show m 2 = nI N from hs, nI_leI (by omega) (by omega)]; omega
    have i1 : vp_in (nI p) 260 := vp_in_nI (by omega) (by decide)
    have c1 : (nI p).toNatClampNeg = p := nI_clamp (by omega)
    unfold vlR at h
    have no : ¬ (a r_isStmt p = 0 ∧ a r_variable p = nI v) → pv_go rq_T68 0 (pv_call rq_mt (d + 2)) P (142, vlL v y u g c p, [], rs m a) := by
      intro n
      rw [if_neg n] at h
      have g := ih (p + 1) u g c (by omega) h
      rw [vlL, ← nI_1] at g
      refine pv_run [37] 10 ?_
      exact g
    refine pv_run [109, 142] 60 ?_
    refine And.intro (fun z => absurd z cc) (fun _ => ?_)
    refine And.intro i1 ?_
    refine And.intro (fun z => ?_) (fun z => ?_)
    · have z : a 8 (nI p).toNatClampNeg = 0 := z
      rw [c1] at z
      refine And.intro i1 ?_
      refine And.intro (fun w => ?_) (fun w => ?_)
      · have w : a 7 (nI p).toNatClampNeg = nI v := w
        rw [c1] at w
        rw [if_pos ⟨z, w⟩] at h
        have g := fun u' g' h' => vl_109 (m := m) (a := a) d hv y u' g' c (show p < 260 by omega) w P (ih (p + 1) u' g' _ (by omega) h')
        refine And.intro i1 ?_
        refine And.intro (fun q => ?_) (fun q => ?_)
        · have q' : a 3 (nI p).toNatClampNeg = 61 := q
          rw [c1] at q'
          rw [if_pos q', if_pos q'] at h
          refine And.intro i1 ?_
          refine And.intro (fun _ => ?_) (fun k => absurd q k)
          exact g _ _ h
        · have q' : ¬ a 3 (nI p).toNatClampNeg = 61 := q
          rw [c1] at q'
          rw [if_neg q', if_neg q'] at h
          refine And.intro i1 ?_
          refine And.intro (fun k => absurd k q) (fun _ => ?_)
          exact g _ _ h
      · have w : ¬ a 7 (nI p).toNatClampNeg = nI v := w
        rw [c1] at w
        exact no (fun n => w n.2)
    · have z : ¬ a 8 (nI p).toNatClampNeg = 0 := z
      rw [c1] at z
      exact no (fun n => z n.1)
set_option maxRecDepth 100000 in
theorem rc_variable (d : Nat) {N V : Nat} (hq : rqOK m a N V) (hg : ∀ v, v < V → a r_givenAt v = nI (dN (a r_givenAt v)) ∧ dN (a r_givenAt v) < 260) (x y : Int32) (P : pv_R)
    (h1 : ∀ v, x = nI v → v < V → (0 ≤ y ∧ y ≤ 5) → P (some (.int (vrR a v y (vlR a v N 0 0 0 1)))) (rs m a)) (h0 : ¬ ((∃ v, x = nI v ∧ v < V) ∧ (0 ≤ y ∧ y ≤ 5)) → P (some (.int (-2))) (rs m a)) : pv_call rq_mt (d + 3) rq_m_R_variable [.ref 0, .int x, .int y] (rs m a) P := by
  obtain ⟨⟨hN, hs⟩, ⟨hV, hvs⟩, hb, hvr⟩ := hq
  have k := inK (N := V) (by omega) x
  rw [← show m 19 = nI V from hvs] at k
  refine pv_call_of rfl rfl rfl (pv_run [37] 60 ?_)
  refine rc_isIn (d + 1) (rs m a) x 0 (m 19 - 1) _ ?_
  by_cases c : 0 ≤ x ∧ x ≤ m 19 - 1
  · rw [if_pos c]
    obtain ⟨v, e, hv⟩ := k.mp c
    refine And.intro (fun u => absurd u (by decide)) (fun _ => ?_)
    refine rc_isIn (d + 1) (rs m a) y 0 5 _ ?_
    by_cases c5 : 0 ≤ y ∧ y ≤ 5
    · rw [if_pos c5]
      refine And.intro (fun u => absurd u (by decide)) (fun _ => ?_)
      have g := h1 v e hv c5
      subst e
      exact vl_37 d hN hs (by omega) (hg v hv) y P N 0 0 0 1 (by omega) g
    · rw [if_neg c5]
      refine And.intro (fun _ => ?_) (fun u => absurd rfl u)
      exact h0 (fun u => c5 u.2)
  · rw [if_neg c]
    refine And.intro (fun _ => ?_) (fun u => absurd rfl u)
    exact h0 (fun u => c (k.mpr u.1))
end RQ6
