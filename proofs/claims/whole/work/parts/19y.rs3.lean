theorem up2_up2 (a : Nat → Nat → Int32) (j i : Nat) (x y : Int32) : up2 (up2 a j i x) j i y = up2 a j i y := by
  funext j' i'
  by_cases h : j' = j ∧ i' = i
  · rw [h.1, h.2, up2_eq, up2_eq]
  · rw [up2_ne _ _ h, up2_ne _ _ h, up2_ne _ _ h]
theorem up2_same {a : Nat → Nat → Int32} {j i : Nat} {x : Int32} (h : a j i = x) : up2 a j i x = a := by
  funext j' i'
  by_cases e : j' = j ∧ i' = i
  · rw [e.1, e.2, up2_eq, h]
  · rw [up2_ne _ _ e]
abbrev lpI (s : Int32) : Prop := s = 87 ∨ s = 68 ∨ s = 70
/-- to where a B (c = 66) or C with the label l goes, by the first k open stmts -/
def tgL (a : Nat → Nat → Int32) (c l : Int32) (K : Nat) : Nat → Int32
  | 0 => -1
  | k + 1 => if a r_label (a r_open k).toNatClampNeg = l then (if c = 66 then a r_open k else if k + 1 < K ∧ lpI (a r_sort (a r_open (k + 1)).toNatClampNeg) then a r_open (k + 1) else tgL a c l K k) else tgL a c l K k
def tgN (a : Nat → Nat → Int32) (c : Int32) : Nat → Int32
  | 0 => -1
  | k + 1 => if lpI (a r_sort (a r_open k).toNatClampNeg) ∨ (a r_sort (a r_open k).toNatClampNeg = 83 ∧ c = 66) then a r_open k else tgN a c k
abbrev jL (b c l i : Int32) : pv_L := [(0, .ref 0), (1, .int b), (2, .int c), (3, .int l), (4, .int i)]
abbrev jM (b c l i s : Int32) : pv_L := [(0, .ref 0), (1, .int b), (2, .int c), (3, .int l), (4, .int i), (5, .int s)]
set_option maxRecDepth 100000 in
theorem rj_loop (d : Nat) (m : Nat → Int32) (a : Nat → Nat → Int32) {b K : Nat} (hb : b < 260) (hK : K ≤ 20) (hop : m r_opened = nI K) (hopen : ∀ i, i < K → ∃ x, x < 260 ∧ a r_open i = nI x) (c l : Int32) (P : pv_R) (h : ∀ x, pv_go rq_T30 3 (pv_call rq_mt (d + 1)) P (124, jL (nI b) c l x, [], rs m (up2 a r_target b (tgL a c l K K)))) : ∀ (j i : Nat), i + j = K → pv_go rq_T30 3 (pv_call rq_mt (d + 1)) P (25, jL (nI b) c l (nI i), [], rs m (up2 a r_target b (tgL a c l K i))) := by
  have ib : vp_in (nI b) 260 := vp_in_nI hb (by decide)
  have cb : (nI b).toNatClampNeg = b := nI_clamp (by omega)
  intro j
  induction j with
  | zero =>
    intro i hi
    have e : i = K := by omega
    subst e
    refine pv_run [124] 50 ?_
    refine And.intro (fun _ => h _) (fun q => ?_)
    exfalso
    have q : ¬ m 40 ≤ nI i := q
    rw [show m 40 = nI i from hop] at q
    exact q (Int32.le_refl _)
  | succ j ih =>
    intro i hi
    have g := ih (i + 1) (by omega)
    obtain ⟨x, hx, hx2⟩ := hopen i (by omega)
    have i1 : vp_in (nI i) 24 := vp_in_nI (by omega) (by decide)
    have c1 : (nI i).toNatClampNeg = i := nI_clamp (by omega)
    have f1 : a 37 (nI i).toNatClampNeg = nI x := by rw [c1]; exact hx2
    have i2 : vp_in (a 37 (nI i).toNatClampNeg) 260 := by rw [f1]; exact vp_in_nI hx (by decide)
    have c2 : (a 37 (nI i).toNatClampNeg).toNatClampNeg = (a r_open i).toNatClampNeg := by rw [c1]
    have nx : ∀ y : Int32, y = tgL a c l K (i + 1) → pv_go rq_T30 3 (pv_call rq_mt (d + 1)) P (118, jL (nI b) c l (nI i), [], rs m (up2 a r_target b y)) := by
      intro y hy
      refine pv_run [25] 20 ?_
      show pv_go rq_T30 3 (pv_call rq_mt (d + 1)) P (25, jL (nI b) c l (nI i + 1), [], rs m (up2 a r_target b y))
      rw [nI_1, hy]
      exact g
    have same : ¬ (a r_label (a r_open i).toNatClampNeg = l ∧ (c = 66 ∨ (i + 1 < K ∧ lpI (a r_sort (a r_open (i + 1)).toNatClampNeg)))) → tgL a c l K i = tgL a c l K (i + 1) := by
      intro hq
      show _ = (if a r_label (a r_open i).toNatClampNeg = l then (if c = 66 then a r_open i else if i + 1 < K ∧ lpI (a r_sort (a r_open (i + 1)).toNatClampNeg) then a r_open (i + 1) else tgL a c l K i) else tgL a c l K i)
      by_cases e1 : a r_label (a r_open i).toNatClampNeg = l
      · rw [if_pos e1, if_neg (fun e => hq ⟨e1, Or.inl e⟩), if_neg (fun e => hq ⟨e1, Or.inr e⟩)]
      · rw [if_neg e1]
    refine pv_run [72, 118, 124] 50 ?_
    refine And.intro (fun q => ?_) (fun _ => ?_)
    · exfalso
      have q : m 40 ≤ nI i := q
      rw [show m 40 = nI K from hop, nI_leI (by omega) (by omega)] at q
      omega
    refine And.intro i1 ?_
    refine And.intro i2 ?_
    refine And.intro (fun q => ?_) (fun q => ?_)
    · have q : a 11 (a 37 (nI i).toNatClampNeg).toNatClampNeg = l := q
      rw [c2] at q
      refine And.intro (fun q2 => ?_) (fun q2 => ?_)
      · have q2 : c = 66 := q2
        refine And.intro i1 ?_
        refine And.intro ib ?_
        show pv_go rq_T30 3 (pv_call rq_mt (d + 1)) P (118, jL (nI b) c l (nI i), [], rs m (up2 (up2 a r_target b (tgL a c l K i)) r_target (nI b).toNatClampNeg (a 37 (nI i).toNatClampNeg)))
        rw [cb, up2_up2]
        refine nx _ ?_
        rw [c1]
        show _ = (if a r_label (a r_open i).toNatClampNeg = l then (if c = 66 then a r_open i else if i + 1 < K ∧ lpI (a r_sort (a r_open (i + 1)).toNatClampNeg) then a r_open (i + 1) else tgL a c l K i) else tgL a c l K i)
        rw [if_pos q, if_pos q2]
      · have q2 : ¬ c = 66 := q2
        show pv_go rq_T30 3 (pv_call rq_mt (d + 1)) P (72, jL (nI b) c l (nI i), [], rs m (up2 a r_target b (tgL a c l K i)))
        refine pv_run [118] 50 ?_
        refine And.intro (fun q3 => ?_) (fun q3 => ?_)
        · have q3 : m 40 ≤ nI i + 1 := q3
          rw [show m 40 = nI K from hop, nI_1, nI_leI (by omega) (by omega)] at q3
          exact nx _ (same (fun r => r.2.elim q2 (fun r => by omega)))
        · have q3 : ¬ m 40 ≤ nI i + 1 := q3
          rw [show m 40 = nI K from hop, nI_1, nI_leI (by omega) (by omega)] at q3
          obtain ⟨y, hy, hy2⟩ := hopen (i + 1) (by omega)
          have j1 : vp_in (nI i + 1) 24 := by rw [nI_1]; exact vp_in_nI (by omega) (by decide)
          have d1 : (nI i + 1).toNatClampNeg = i + 1 := by rw [nI_1, nI_clamp (by omega)]
          have f2 : a 37 (nI i + 1).toNatClampNeg = nI y := by rw [d1]; exact hy2
          have j2 : vp_in (a 37 (nI i + 1).toNatClampNeg) 260 := by rw [f2]; exact vp_in_nI hy (by decide)
          refine And.intro j1 ?_
          refine And.intro j2 ?_
          refine rc_isLoop d _ _ _ ?_
          show pv_wp _ _ _ _ _ _ _ (_, _, [.int (if lpI (a 3 (a 37 (nI i + 1).toNatClampNeg).toNatClampNeg) then 1 else 0)], _)
          rw [d1]
          by_cases q4 : lpI (a 3 (a 37 (i + 1)).toNatClampNeg)
          · rw [if_pos q4]
            refine And.intro (fun q => absurd q (by decide)) (fun _ => ?_)
            refine And.intro j1 ?_
            refine And.intro ib ?_
            show pv_go rq_T30 3 (pv_call rq_mt (d + 1)) P (118, jL (nI b) c l (nI i), [], rs m (up2 (up2 a r_target b (tgL a c l K i)) r_target (nI b).toNatClampNeg (a 37 (nI i + 1).toNatClampNeg)))
            rw [cb, up2_up2, d1]
            refine nx _ ?_
            show _ = (if a r_label (a r_open i).toNatClampNeg = l then (if c = 66 then a r_open i else if i + 1 < K ∧ lpI (a r_sort (a r_open (i + 1)).toNatClampNeg) then a r_open (i + 1) else tgL a c l K i) else tgL a c l K i)
            rw [if_pos q, if_neg q2, if_pos ⟨by omega, q4⟩]
          · rw [if_neg q4]
            refine And.intro (fun _ => ?_) (fun q => absurd rfl q)
            exact nx _ (same (fun r => r.2.elim q2 (fun r => q4 r.2)))
    · have q : ¬ a 11 (a 37 (nI i).toNatClampNeg).toNatClampNeg = l := q
      rw [c2] at q
      exact nx _ (same (fun r => q r.1))
set_option maxRecDepth 100000 in
theorem rj_near (d : Nat) (m : Nat → Int32) (a : Nat → Nat → Int32) {b K : Nat} (hb : b < 260) (hK : K ≤ 20) (hop : m r_opened = nI K) (hopen : ∀ i, i < K → ∃ x, x < 260 ∧ a r_open i = nI x) (c l : Int32) (P : pv_R) (h : ∀ L : pv_L, pv_go rq_T30 3 (pv_call rq_mt (d + 1)) P (231, [(0, .ref 0), (1, .int (nI b)), (2, .int c), (3, .int l)] ++ L, [], rs m (up2 a r_target b (tgN a c K)))) : ∀ (j i : Nat) (L : pv_L), (L = [] ∨ ∃ s, L = [(5, .int s)]) → i + j = K → pv_go rq_T30 3 (pv_call rq_mt (d + 1)) P (159, jL (nI b) c l (nI i) ++ L, [], rs m (up2 a r_target b (tgN a c i))) := by
  have ib : vp_in (nI b) 260 := vp_in_nI hb (by decide)
  have cb : (nI b).toNatClampNeg = b := nI_clamp (by omega)
  intro j
  induction j with
  | zero =>
    intro i L hL hi
    have e : i = K := by omega
    subst e
    rcases hL with rfl | ⟨s, rfl⟩
    · refine pv_run [231] 50 ?_
      refine And.intro (fun _ => h _) (fun q => ?_)
      exfalso
      have q : ¬ m 40 ≤ nI i := q
      rw [show m 40 = nI i from hop] at q
      exact q (Int32.le_refl _)
    · refine pv_run [231] 50 ?_
      refine And.intro (fun _ => h _) (fun q => ?_)
      exfalso
      have q : ¬ m 40 ≤ nI i := q
      rw [show m 40 = nI i from hop] at q
      exact q (Int32.le_refl _)
  | succ j ih =>
    intro i L hL hi
    obtain ⟨x, hx, hx2⟩ := hopen i (by omega)
    have i1 : vp_in (nI i) 24 := vp_in_nI (by omega) (by decide)
    have c1 : (nI i).toNatClampNeg = i := nI_clamp (by omega)
    have f1 : a 37 (nI i).toNatClampNeg = nI x := by rw [c1]; exact hx2
    have i2 : vp_in (a 37 (nI i).toNatClampNeg) 260 := by rw [f1]; exact vp_in_nI hx (by decide)
    have c2 : (a 37 (nI i).toNatClampNeg).toNatClampNeg = (a r_open i).toNatClampNeg := by rw [c1]
    have st : ∀ s y : Int32, y = tgN a c (i + 1) → pv_go rq_T30 3 (pv_call rq_mt (d + 1)) P (224, jM (nI b) c l (nI i) s, [.int y, .int (nI b), .ref 11], rs m (up2 a r_target b (tgN a c i))) := by
      intro s y hy
      refine pv_run [159] 20 ?_
      refine And.intro ib ?_
      show pv_go rq_T30 3 (pv_call rq_mt (d + 1)) P (159, jL (nI b) c l (nI i + 1) ++ [(5, .int s)], [], rs m (up2 (up2 a r_target b (tgN a c i)) r_target (nI b).toNatClampNeg y))
      rw [cb, up2_up2, nI_1, hy]
      exact ih (i + 1) _ (Or.inr ⟨s, rfl⟩) (by omega)
    have hd : pv_go rq_T30 3 (pv_call rq_mt (d + 1)) P (182, jM (nI b) c l (nI i) (a r_sort (a r_open i).toNatClampNeg), [], rs m (up2 a r_target b (tgN a c i))) := by
      have dn : ∀ u : Int32, u = tgN a c (i + 1) → True := fun _ _ => trivial
      have e0 : tgN a c (i + 1) = (if lpI (a r_sort (a r_open i).toNatClampNeg) ∨ (a r_sort (a r_open i).toNatClampNeg = 83 ∧ c = 66) then a r_open i else tgN a c i) := rfl
      have i1' := i1
      generalize hs : a r_sort (a r_open i).toNatClampNeg = s at *
      have yes : (lpI s ∨ (s = 83 ∧ c = 66)) → pv_go rq_T30 3 (pv_call rq_mt (d + 1)) P (208, jM (nI b) c l (nI i) s, [.int (nI b), .ref 11], rs m (up2 a r_target b (tgN a c i))) := by
        intro hy
        refine pv_run [224] 20 ?_
        refine And.intro i1 ?_
        show pv_go rq_T30 3 (pv_call rq_mt (d + 1)) P (224, jM (nI b) c l (nI i) s, [.int (a 37 (nI i).toNatClampNeg), .int (nI b), .ref 11], rs m (up2 a r_target b (tgN a c i)))
        refine st s _ ?_
        rw [e0, if_pos hy, c1]
      have no : ¬ (lpI s ∨ (s = 83 ∧ c = 66)) → pv_go rq_T30 3 (pv_call rq_mt (d + 1)) P (218, jM (nI b) c l (nI i) s, [.int (nI b), .ref 11], rs m (up2 a r_target b (tgN a c i))) := by
        intro hy
        refine pv_run [224] 20 ?_
        refine And.intro ib ?_
        show pv_go rq_T30 3 (pv_call rq_mt (d + 1)) P (224, jM (nI b) c l (nI i) s, [.int ((up2 a r_target b (tgN a c i)) r_target (nI b).toNatClampNeg), .int (nI b), .ref 11], rs m (up2 a r_target b (tgN a c i)))
        refine st s _ ?_
        rw [e0, if_neg hy, cb, up2_eq]
      refine pv_run [208, 218] 50 ?_
      refine rc_isLoop d _ s _ ?_
      by_cases q4 : lpI s
      · rw [if_pos q4]
        exact And.intro (fun q => absurd q (by decide)) (fun _ => yes (Or.inl q4))
      · rw [if_neg q4]
        refine And.intro (fun _ => ?_) (fun q => absurd rfl q)
        refine And.intro (fun q5 => ?_) (fun q5 => ?_)
        · refine And.intro (fun q6 => ?_) (fun q6 => ?_)
          · exact yes (Or.inr ⟨q5, q6⟩)
          · exact no (fun r => r.elim q4 (fun r => q6 r.2))
        · exact no (fun r => r.elim q4 (fun r => q5 r.1))
    have go : ∀ L, (L = [] ∨ ∃ s, L = [(5, .int s)]) → pv_go rq_T30 3 (pv_call rq_mt (d + 1)) P (159, jL (nI b) c l (nI i) ++ L, [], rs m (up2 a r_target b (tgN a c i))) := by
      intro L hL
      rcases hL with rfl | ⟨s, rfl⟩
      · refine pv_run [182, 231] 50 ?_
        refine And.intro (fun q => ?_) (fun _ => ?_)
        · exfalso
          have q : m 40 ≤ nI i := q
          rw [show m 40 = nI K from hop, nI_leI (by omega) (by omega)] at q
          omega
        refine And.intro i1 ?_
        refine And.intro i2 ?_
        show pv_go rq_T30 3 (pv_call rq_mt (d + 1)) P (182, jM (nI b) c l (nI i) (a 3 (a 37 (nI i).toNatClampNeg).toNatClampNeg), [], rs m (up2 a r_target b (tgN a c i)))
        rw [c1]
        exact hd
      · refine pv_run [182, 231] 50 ?_
        refine And.intro (fun q => ?_) (fun _ => ?_)
        · exfalso
          have q : m 40 ≤ nI i := q
          rw [show m 40 = nI K from hop, nI_leI (by omega) (by omega)] at q
          omega
        refine And.intro i1 ?_
        refine And.intro i2 ?_
        show pv_go rq_T30 3 (pv_call rq_mt (d + 1)) P (182, jM (nI b) c l (nI i) (a 3 (a 37 (nI i).toNatClampNeg).toNatClampNeg), [], rs m (up2 a r_target b (tgN a c i)))
        rw [c1]
        exact hd
    exact go L hL
set_option maxRecDepth 100000 in
theorem rc_readJump (d : Nat) (m : Nat → Int32) (a : Nat → Nat → Int32) {n p b K : Nat} (hn : n ≤ 240) (hp : p < n) (hat : m r_at = nI p) (hsz : m r_size = nI n) (hw : m r_wrong = -1) (hb : b < 260) (hK : K ≤ 20) (hop : m r_opened = nI K) (hopen : ∀ i, i < K → ∃ x, x < 260 ∧ a r_open i = nI x) (ht : a r_target b = -1) (c : Int32) (P : pv_R)
    (hl1 : (50 ≤ r_ch a n (r_nx a n (p + 1)) ∧ r_ch a n (r_nx a n (p + 1)) ≤ 57) → ¬ tgL a c (r_ch a n (r_nx a n (p + 1))) K K = -1 → r_ch a n (r_nx a n (r_nx a n (p + 1) + 1)) = 59 → P none (rs (upd m r_at (nI (r_nx a n (r_nx a n (p + 1) + 1) + 1))) (up2 a r_target b (tgL a c (r_ch a n (r_nx a n (p + 1))) K K))))
    (hl2 : (50 ≤ r_ch a n (r_nx a n (p + 1)) ∧ r_ch a n (r_nx a n (p + 1)) ≤ 57) → ¬ tgL a c (r_ch a n (r_nx a n (p + 1))) K K = -1 → ¬ r_ch a n (r_nx a n (r_nx a n (p + 1) + 1)) = 59 → P none (rs (upd (upd m r_at (nI (r_nx a n (r_nx a n (p + 1) + 1)))) r_wrong (nI (r_nx a n (r_nx a n (p + 1) + 1)))) (up2 a r_target b (tgL a c (r_ch a n (r_nx a n (p + 1))) K K))))
    (hl3 : (50 ≤ r_ch a n (r_nx a n (p + 1)) ∧ r_ch a n (r_nx a n (p + 1)) ≤ 57) → tgL a c (r_ch a n (r_nx a n (p + 1))) K K = -1 → P none (rs (upd (upd m r_at (nI (r_nx a n (p + 1)))) r_wrong (nI (r_nx a n (p + 1)))) (up2 a r_target b (tgL a c (r_ch a n (r_nx a n (p + 1))) K K))))
    (hn1 : ¬ (50 ≤ r_ch a n (r_nx a n (p + 1)) ∧ r_ch a n (r_nx a n (p + 1)) ≤ 57) → ¬ tgN a c K = -1 → r_ch a n (r_nx a n (p + 1)) = 59 → P none (rs (upd m r_at (nI (r_nx a n (p + 1) + 1))) (up2 a r_target b (tgN a c K))))
    (hn2 : ¬ (50 ≤ r_ch a n (r_nx a n (p + 1)) ∧ r_ch a n (r_nx a n (p + 1)) ≤ 57) → (tgN a c K = -1 ∨ ¬ r_ch a n (r_nx a n (p + 1)) = 59) → P none (rs (upd (upd m r_at (nI (r_nx a n (p + 1)))) r_wrong (nI (r_nx a n (p + 1)))) (up2 a r_target b (tgN a c K)))) : pv_call rq_mt (d + 4) rq_m_R_readJump [.ref 0, .int (nI b), .int c] (rs m a) P := by
  have ib : vp_in (nI b) 260 := vp_in_nI hb (by decide)
  have cb : (nI b).toNatClampNeg = b := nI_clamp (by omega)
  have e0 : up2 a r_target b (-1) = a := up2_same ht
  obtain ⟨l1, l2⟩ := r_nx_le (a := a) (n := n) (p := p + 1) (by omega)
  have hnn : r_nx a n (r_nx a n (p + 1)) = r_nx a n (p + 1) := r_nx_nx (by omega)
  have hlt : (50 ≤ r_ch a n (r_nx a n (p + 1)) ∧ r_ch a n (r_nx a n (p + 1)) ≤ 57) → r_nx a n (p + 1) < n := by
    intro hc
    refine Decidable.byContradiction fun hq => ?_
    unfold r_ch at hc
    rw [if_neg hq] at hc
    exact absurd hc.1 (by decide)
  refine pv_call_of rfl rfl rfl (pv_run [25, 159] 80 ?_)
  show pv_call rq_mt (d + 3) 5 [.ref 0] (rs (upd m r_at (m 26 + 1)) a) _
  rw [show m 26 = nI p from hat, nI_1]
  refine rc_here (d + 1) (upd m r_at (nI (p + 1))) a hn (by omega) rfl hsz _ ?_
  rw [upd_upd]
  generalize r_nx a n (p + 1) = q1 at *
  generalize hl : r_ch a n q1 = l at *
  refine rc_isLabel (d + 2) _ l _ ?_
  by_cases hlb : 50 ≤ l ∧ l ≤ 57
  · rw [if_pos hlb]
    refine And.intro (fun q => absurd q (by decide)) (fun _ => ?_)
    have hl1 := hl1 hlb
    have hl2 := hl2 hlb
    have hl3 := hl3 hlb
    have hq1 := hlt hlb
    have key := rj_loop (d + 2) (upd m r_at (nI q1)) a hb hK hop hopen c l P (fun x => ?_) K 0 (by omega)
    · rw [show tgL a c l K 0 = -1 from rfl, e0] at key
      exact key
    · generalize tgL a c l K K = T at *
      refine pv_run [139] 50 ?_
      refine And.intro ib ?_
      refine And.intro (fun q => ?_) (fun q => ?_)
      · have q : (up2 a r_target b T) r_target (nI b).toNatClampNeg = -1 := q
        rw [cb, up2_eq] at q
        refine rc_failHere (d + 1) (upd m r_at (nI q1)) (up2 a r_target b T) hn l2 rfl hsz _ ?_
        rw [show r_nx (up2 a r_target b T) n q1 = r_nx a n q1 from rfl, hnn, upd_upd, if_pos (show (upd m r_at (nI q1)) r_wrong = -1 from hw)]
        exact hl3 q
      · have q : ¬ (up2 a r_target b T) r_target (nI b).toNatClampNeg = -1 := q
        rw [cb, up2_eq] at q
        show pv_go rq_T30 3 (pv_call rq_mt (d + 3)) P (139, jL (nI b) c l x, [], rs (upd m r_at (nI q1)) (up2 a r_target b T))
        refine pv_run [] 50 ?_
        show pv_call rq_mt (d + 3) 9 [.ref 0, .int 59] (rs (upd (upd m r_at (nI q1)) r_at (nI q1 + 1)) (up2 a r_target b T)) _
        rw [upd_upd, nI_1]
        refine rc_take d (upd m r_at (nI (q1 + 1))) (up2 a r_target b T) hn (by omega) rfl hsz 59 _ (fun q => absurd hw q) (fun _ e => ?_) (fun _ e => ?_)
        · rw [upd_upd]
          exact hl1 q e
        · rw [upd_upd]
          exact hl2 q e
  · rw [if_neg hlb]
    refine And.intro (fun _ => ?_) (fun q => absurd rfl q)
    have hn1 := hn1 hlb
    have hn2 := hn2 hlb
    have key := rj_near (d + 2) (upd m r_at (nI q1)) a hb hK hop hopen c l P (fun L => ?_) K 0 [] (Or.inl rfl) (by omega)
    · rw [show tgN a c 0 = -1 from rfl, e0] at key
      exact key
    · generalize tgN a c K = T at *
      have tk : (T = -1 → ¬ l = 59) → pv_go rq_T30 3 (pv_call rq_mt (d + 3)) P (252, [(0, .ref 0), (1, .int (nI b)), (2, .int c), (3, .int l)] ++ L, [], rs (upd m r_at (nI q1)) (up2 a r_target b T)) := by
        intro hT
        refine pv_run [] 50 ?_
        refine rc_take d (upd m r_at (nI q1)) (up2 a r_target b T) hn l2 rfl hsz 59 _ (fun q => absurd hw q) (fun _ e => ?_) (fun _ e => ?_)
        · rw [show r_nx (up2 a r_target b T) n q1 = r_nx a n q1 from rfl, hnn] at e ⊢
          have e : l = 59 := hl.symm.trans e
          rw [upd_upd]
          exact hn1 (fun q => hT q e) e
        · rw [show r_nx (up2 a r_target b T) n q1 = r_nx a n q1 from rfl, hnn] at e ⊢
          have e : ¬ l = 59 := fun q => e (hl.trans q)
          rw [upd_upd]
          exact hn2 (Or.inr e)
      refine pv_run [252] 50 ?_
      refine And.intro (fun q => ?_) (fun q => ?_)
      · have q : l = 59 := q
        refine And.intro ib ?_
        refine And.intro (fun q2 => ?_) (fun q2 => ?_)
        · have q2 : (up2 a r_target b T) r_target (nI b).toNatClampNeg = -1 := q2
          rw [cb, up2_eq] at q2
          refine rc_failHere (d + 1) (upd m r_at (nI q1)) (up2 a r_target b T) hn l2 rfl hsz _ ?_
          rw [show r_nx (up2 a r_target b T) n q1 = r_nx a n q1 from rfl, hnn, upd_upd, if_pos (show (upd m r_at (nI q1)) r_wrong = -1 from hw)]
          exact hn2 (Or.inl q2)
        · have q2 : ¬ (up2 a r_target b T) r_target (nI b).toNatClampNeg = -1 := q2
          rw [cb, up2_eq] at q2
          exact tk (fun e => absurd e q2)
      · have q : ¬ l = 59 := q
        exact tk (fun _ => q)
