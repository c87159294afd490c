/-- the graph in the rows -/
def grOK (m0 : Nat → Int32) (a0 : Nat → Nat → Int32) (N : Nat) (K : Nat → Nat) (E : eL_T) (W : wL_T) (on : Nat → Int32) : Prop :=
  ((∀ x, x < 3600 → a0 r_edgeHead x = oI (lastE E x)) ∧ rowE a0 E ∧ E.length < 9000 ∧ (∀ x ∈ E, x.2.1 = nI (dN x.2.1) ∧ vP N W (dN x.2.1)))
  ∧ (m0 r_ways = nI W.length ∧ rowW a0 W ∧ W.length < 1500 ∧ (∀ x ∈ W, x.1 < N))
  ∧ ((∀ k, k < W.length → a0 r_wayOn k = on k) ∧ (∀ k, k < W.length → on k = -1 ∨ (on k = nI (dN (on k)) ∧ vP N W (dN (on k)))))
  ∧ (∀ q, q < N → lnA a0 (K q) (a0 r_around q)) ∧ N ≤ 260
def enOK (a0 : Nat → Nat → Int32) (W : wL_T) (en : Nat → Nat → Nat) : Prop := ∀ x ∈ W, ∀ b, b < 2 → a0 r_ended (2 * x.1 + b) = nI (en x.1 b) ∧ en x.1 b < 4
def comeOK (m0 : Nat → Int32) (a0 : Nat → Nat → Int32) (r base n : Nat) : Prop :=
  (r = 56 ∨ r = 57) ∧ ∀ (d : Nat) (H L : pL_T) (S : pv_S), RW m0 a0 r base H L S → hOK H → L.length ≤ H.length → ∀ p b : Nat, p < 3600 → b < 2 → ∀ P : pv_R, (∀ S', RW m0 a0 r base (cmF p b (H, L)).1 (cmF p b (H, L)).2 S' → P none S') → pv_call rq_mt (d + 1) rq_m_R_come [.ref 0, .ref n, .int (nI base), .int (nI p), .int (nI b)] S P
theorem vP_lt {N : Nat} {W : wL_T} (hN : N ≤ 260) (hW : W.length < 1500) : ∀ p, vP N W p → p < 3600 := by
  intro p hp
  unfold vP at hp
  omega
theorem rowE_suf {a : Nat → Nat → Int32} : ∀ (A B : eL_T), rowE a (A ++ B) → rowE a B
  | [], _, h => h
  | _ :: A, B, h => rowE_suf A B h.2
def wX (X : pv_L) : Prop := X = [] ∨ (∃ x, X = [(8, .int x)]) ∨ (∃ x y, X = [(8, .int x), (9, .int y)])
abbrev wkM (v : Int32) (n base : Nat) (w : Int32) (p b : Nat) (e : Int32) (X : pv_L) : pv_L := [(0, .ref 0), (1, .int v), (2, .ref n), (3, .int (nI base)), (4, .int w), (5, .int (nI p)), (6, .int (nI b)), (7, .int e)] ++ X
section RW4
variable {m0 : Nat → Int32} {a0 : Nat → Nat → Int32}
set_option maxRecDepth 100000 in
theorem wk_69 (d : Nat) {N : Nat} {K : Nat → Nat} {E : eL_T} {W : wL_T} {on : Nat → Int32} (hg : grOK m0 a0 N K E W on) {r base n : Nat} (hc : comeOK m0 a0 r base n) (v w : Int32) {p b : Nat} (hp : p < 3600) (hb : b < 2) (P : pv_R) : ∀ (E' pre : eL_T), E = pre ++ E' → ∀ (z : zT) (S : pv_S) (X : pv_L), RW m0 a0 r base z.1 z.2 S → invZ (vP N W) z → wX X → (∀ S' X', RW m0 a0 r base (edL v p b E' z).1 (edL v p b E' z).2 S' → wX X' → pv_go rq_T56 3 (pv_call rq_mt (d + 2)) P (136, wkM v n base w p b (-1) X', [], S')) → pv_go rq_T56 3 (pv_call rq_mt (d + 2)) P (69, wkM v n base w p b (oI (lastE E' p)) X, [], S) := by
  have hV := vP_lt hg.2.2.2.2 hg.2.1.2.2.1 (W := W)
  intro E'
  induction E' with
  | nil =>
    intro pre hE z S X hS hz hX h
    have g := h S X hS hX
    obtain ⟨m, a, rfl, hR⟩ := hS
    rcases hX with rfl | ⟨x, rfl⟩ | ⟨x, y, rfl⟩
    all_goals
      refine pv_run [136] 20 ?_
      exact And.intro (fun _ => g) (fun q => absurd rfl q)
  | cons y r' ih =>
    obtain ⟨f, t, dd⟩ := y
    intro pre hE z S X hS hz hX h
    have hE' : E = (pre ++ [(f, t, dd)]) ++ r' := by rw [hE, List.append_assoc]; rfl
    have e0 : lastE ((f, t, dd) :: r') p = if p = f then r'.length + 1 else lastE r' p := rfl
    have e1 : edL v p b ((f, t, dd) :: r') z = if p = f then edL v p b r' (cmF (dN t) (bt dd v b) z) else edL v p b r' z := rfl
    rw [e1] at h
    rw [e0]
    by_cases c : p = f
    · rw [if_pos c] at h ⊢
      rw [oI_s]
      have hmem : (f, t, dd) ∈ E := by rw [hE]; exact List.mem_append_right _ List.mem_cons_self
      have ht := hg.1.2.2.2 _ hmem
      have hrow0 : rowE a0 ((f, t, dd) :: r') := rowE_suf pre _ (by rw [← hE]; exact hg.1.2.1)
      have hrow := hrow0.1
      have hlen : r'.length < E.length := by rw [hE, List.length_append, List.length_cons]; omega
      have hE9 := hg.1.2.2.1
      have i1 : vp_in (nI r'.length) 9000 := vp_in_nI (by omega) (by decide)
      have c1 : (nI r'.length).toNatClampNeg = r'.length := nI_clamp (by omega)
      have hcm := cm_inv hV (b := bt dd v b) hz ht.2 (bt_lt hb)
      have ne : ¬ nI r'.length = -1 := nI_ne_m1 (by omega)
      have rr := hc.1
      obtain ⟨m, a, rfl, hR⟩ := hS
      have s46 : a r_edgeTo = a0 r_edgeTo := hR.1.2 46 (by omega)
      have s47 : a r_edgeDoes = a0 r_edgeDoes := hR.1.2 47 (by omega)
      have t1 : a r_edgeTo (nI r'.length).toNatClampNeg = nI (dN t) := by rw [c1, s46, hrow.1]; exact ht.1
      have t2 : a r_edgeDoes (nI r'.length).toNatClampNeg = dd := by rw [c1, s47]; exact hrow.2.1
      -- after the call
      have aft : ∀ (S' : pv_S) (X' : pv_L), RW m0 a0 r base (cmF (dN t) (bt dd v b) z).1 (cmF (dN t) (bt dd v b) z).2 S' → wX X' → pv_go rq_T56 3 (pv_call rq_mt (d + 2)) P (124, wkM v n base w p b (nI r'.length) X', [], S') := by
        intro S' X' hS' hX'
        have g := ih _ hE' (cmF (dN t) (bt dd v b) z) S' X' hS' hcm.1 hX' h
        obtain ⟨m', a', rfl, hR'⟩ := hS'
        have t3 : a' r_edgeNext (nI r'.length).toNatClampNeg = oI (lastE r' f) := by rw [c1, hR'.1.2 48 (by omega)]; exact hrow.2.2
        rw [← c, ] at t3
        rw [← t3] at g
        rcases hX' with rfl | ⟨x, rfl⟩ | ⟨x, y, rfl⟩
        all_goals
          refine pv_run [69] 20 ?_
          refine And.intro i1 ?_
          exact g
      have call : ∀ (bb : Int32) (X' : pv_L), bb = nI (bt dd v b) → wX X' → pv_call rq_mt (d + 2) rq_m_R_come [.ref 0, .ref n, .int (nI base), .int (a r_edgeTo (nI r'.length).toNatClampNeg), .int bb] (rs m a) (fun o S' => o = none ∧ pv_go rq_T56 3 (pv_call rq_mt (d + 2)) P (124, wkM v n base w p b (nI r'.length) X', [], S')) := by
        intro bb X' e hX'
        rw [t1, e]
        exact hc.2 (d + 1) z.1 z.2 _ ⟨m, a, rfl, hR⟩ hz.1 hz.2.1 (dN t) (bt dd v b) (hV _ ht.2) (bt_lt hb) _ (fun S' hS' => ⟨rfl, aft S' X' hS' hX'⟩)
      rcases hX with rfl | ⟨x, rfl⟩ | ⟨x, y, rfl⟩
      · refine pv_run [124] 50 ?_
        refine And.intro (fun q => absurd q ne) (fun _ => ?_)
        refine And.intro i1 ?_
        refine And.intro i1 ?_
        refine And.intro (fun q => ?_) (fun q => ?_)
        · have q : a r_edgeDoes (nI r'.length).toNatClampNeg = 1 + v := q
          refine pv_call_cm _ _ _ _ _ _ _ ?_ (call 1 [(8, .int (a r_edgeDoes (nI r'.length).toNatClampNeg))] ?_ ?_)
          · rintro o S' ⟨rfl, hg⟩
            exact hg
          · rw [t2] at q
            unfold bt
            rw [if_pos q]
            rfl
          · first
            | exact Or.inr (Or.inl ⟨_, rfl⟩)
            | exact Or.inr (Or.inr ⟨_, _, rfl⟩)
        · have q : ¬ a r_edgeDoes (nI r'.length).toNatClampNeg = 1 + v := q
          refine And.intro (fun q2 => ?_) (fun q2 => ?_)
          · have q2 : a r_edgeDoes (nI r'.length).toNatClampNeg = 20 + v := q2
            refine pv_call_cm _ _ _ _ _ _ _ ?_ (call 0 [(8, .int (a r_edgeDoes (nI r'.length).toNatClampNeg))] ?_ ?_)
            · rintro o S' ⟨rfl, hg⟩
              exact hg
            · rw [t2] at q q2
              unfold bt
              rw [if_neg q, if_pos q2]
              rfl
            · first
              | exact Or.inr (Or.inl ⟨_, rfl⟩)
              | exact Or.inr (Or.inr ⟨_, _, rfl⟩)
          · have q2 : ¬ a r_edgeDoes (nI r'.length).toNatClampNeg = 20 + v := q2
            refine pv_call_cm _ _ _ _ _ _ _ ?_ (call (nI b) [(8, .int (a r_edgeDoes (nI r'.length).toNatClampNeg))] ?_ ?_)
            · rintro o S' ⟨rfl, hg⟩
              exact hg
            · rw [t2] at q q2
              unfold bt
              rw [if_neg q, if_neg q2]
            · first
              | exact Or.inr (Or.inl ⟨_, rfl⟩)
              | exact Or.inr (Or.inr ⟨_, _, rfl⟩)
      · refine pv_run [124] 50 ?_
        refine And.intro (fun q => absurd q ne) (fun _ => ?_)
        refine And.intro i1 ?_
        refine And.intro i1 ?_
        refine And.intro (fun q => ?_) (fun q => ?_)
        · have q : a r_edgeDoes (nI r'.length).toNatClampNeg = 1 + v := q
          refine pv_call_cm _ _ _ _ _ _ _ ?_ (call 1 [(8, .int (a r_edgeDoes (nI r'.length).toNatClampNeg))] ?_ ?_)
          · rintro o S' ⟨rfl, hg⟩
            exact hg
          · rw [t2] at q
            unfold bt
            rw [if_pos q]
            rfl
          · first
            | exact Or.inr (Or.inl ⟨_, rfl⟩)
            | exact Or.inr (Or.inr ⟨_, _, rfl⟩)
        · have q : ¬ a r_edgeDoes (nI r'.length).toNatClampNeg = 1 + v := q
          refine And.intro (fun q2 => ?_) (fun q2 => ?_)
          · have q2 : a r_edgeDoes (nI r'.length).toNatClampNeg = 20 + v := q2
            refine pv_call_cm _ _ _ _ _ _ _ ?_ (call 0 [(8, .int (a r_edgeDoes (nI r'.length).toNatClampNeg))] ?_ ?_)
            · rintro o S' ⟨rfl, hg⟩
              exact hg
            · rw [t2] at q q2
              unfold bt
              rw [if_neg q, if_pos q2]
              rfl
            · first
              | exact Or.inr (Or.inl ⟨_, rfl⟩)
              | exact Or.inr (Or.inr ⟨_, _, rfl⟩)
          · have q2 : ¬ a r_edgeDoes (nI r'.length).toNatClampNeg = 20 + v := q2
            refine pv_call_cm _ _ _ _ _ _ _ ?_ (call (nI b) [(8, .int (a r_edgeDoes (nI r'.length).toNatClampNeg))] ?_ ?_)
            · rintro o S' ⟨rfl, hg⟩
              exact hg
            · rw [t2] at q q2
              unfold bt
              rw [if_neg q, if_neg q2]
            · first
              | exact Or.inr (Or.inl ⟨_, rfl⟩)
              | exact Or.inr (Or.inr ⟨_, _, rfl⟩)
      · refine pv_run [124] 50 ?_
        refine And.intro (fun q => absurd q ne) (fun _ => ?_)
        refine And.intro i1 ?_
        refine And.intro i1 ?_
        refine And.intro (fun q => ?_) (fun q => ?_)
        · have q : a r_edgeDoes (nI r'.length).toNatClampNeg = 1 + v := q
          refine pv_call_cm _ _ _ _ _ _ _ ?_ (call 1 [(8, .int (a r_edgeDoes (nI r'.length).toNatClampNeg)), (9, .int y)] ?_ ?_)
          · rintro o S' ⟨rfl, hg⟩
            exact hg
          · rw [t2] at q
            unfold bt
            rw [if_pos q]
            rfl
          · first
            | exact Or.inr (Or.inl ⟨_, rfl⟩)
            | exact Or.inr (Or.inr ⟨_, _, rfl⟩)
        · have q : ¬ a r_edgeDoes (nI r'.length).toNatClampNeg = 1 + v := q
          refine And.intro (fun q2 => ?_) (fun q2 => ?_)
          · have q2 : a r_edgeDoes (nI r'.length).toNatClampNeg = 20 + v := q2
            refine pv_call_cm _ _ _ _ _ _ _ ?_ (call 0 [(8, .int (a r_edgeDoes (nI r'.length).toNatClampNeg)), (9, .int y)] ?_ ?_)
            · rintro o S' ⟨rfl, hg⟩
              exact hg
            · rw [t2] at q q2
              unfold bt
              rw [if_neg q, if_pos q2]
              rfl
            · first
              | exact Or.inr (Or.inl ⟨_, rfl⟩)
              | exact Or.inr (Or.inr ⟨_, _, rfl⟩)
          · have q2 : ¬ a r_edgeDoes (nI r'.length).toNatClampNeg = 20 + v := q2
            refine pv_call_cm _ _ _ _ _ _ _ ?_ (call (nI b) [(8, .int (a r_edgeDoes (nI r'.length).toNatClampNeg)), (9, .int y)] ?_ ?_)
            · rintro o S' ⟨rfl, hg⟩
              exact hg
            · rw [t2] at q q2
              unfold bt
              rw [if_neg q, if_neg q2]
            · first
              | exact Or.inr (Or.inl ⟨_, rfl⟩)
              | exact Or.inr (Or.inr ⟨_, _, rfl⟩)
    · rw [if_neg c] at h ⊢
      exact ih _ hE' z S X hS hz hX h
end RW4
