/-- numbers of nodes in the tree's order are nodes -/
def bRow (a : Nat → Nat → Int32) (N : Nat) : Prop := ∀ i, i < N → a r_byNumber i = nI (dN (a r_byNumber i)) ∧ dN (a r_byNumber i) < N
def rchG (a : Nat → Nat → Int32) (p s : Int32) : Nat → Nat → Nat → Nat
  | 0, _, _ => 0
  | j + 1, i, k => if a r_around (dN (a r_byNumber i)) = p ∧ a r_isStmt (dN (a r_byNumber i)) = s then (if k = 0 then dN (a r_byNumber i) + 1 else rchG a p s j (i + 1) (k - 1)) else rchG a p s j (i + 1) k
section RB2
abbrev chR (p k s : Int32) (n i : Nat) (L : pv_L) : pv_L := [(0, .ref 0), (1, .int p), (2, .int k), (3, .int s), (4, .int (nI n)), (5, .int (nI i))] ++ L
def chK (L : pv_L) : Prop := L = [] ∨ ∃ x, L = [(6, .int x)]
set_option maxRecDepth 100000 in
theorem rch_6 (d : Nat) (m : Nat → Int32) (a : Nat → Nat → Int32) {N : Nat} (hN : N ≤ 260) (hs : m r_nodes = nI N) (hb : bRow a N) (p s : Int32) (P : pv_R) : ∀ (j i n k : Nat), i + j = N → n + k < 2 ^ 20 → n ≤ i → P (some (.int (oI (rchG a p s j i k)))) (rs m a) → ∀ L, chK L → pv_go rq_T44 0 (pv_call rq_mt d) P (6, chR p (nI (n + k)) s n i L, [], rs m a) := by
  intro j
  induction j with
  | zero =>
    intro i n k hi hk hni h L hL
    have e : i = N := by omega
    subst e
    have le : m 2 ≤ nI i := by rw [show m 2 = nI i from hs]; exact Int32.le_refl _
    rcases hL with rfl | ⟨x, rfl⟩
    · refine pv_run [] 20 ?_
      exact And.intro (fun _ => h) (fun q => absurd le q)
    · refine pv_run [] 20 ?_
      exact And.intro (fun _ => h) (fun q => absurd le q)
  | succ j ih =>
    intro i n k hi hk hni h L hL
    have hiN : i < N := by omega
    have nle : ¬ m 2 ≤ nI i := by
      rw [show m 2 = nI N from hs, nI_leI (by omega) (by omega)]
      omega
    obtain ⟨b1, b2⟩ := hb i hiN
    generalize hq : dN (a r_byNumber i) = q at *
    have i1 : vp_in (nI i) 260 := vp_in_nI (by omega) (by decide)
    have c1 : (nI i).toNatClampNeg = i := nI_clamp (by omega)
    have eb : a r_byNumber (nI i).toNatClampNeg = nI q := by rw [c1]; exact b1
    have i2 : vp_in (a r_byNumber (nI i).toNatClampNeg) 260 := by rw [eb]; exact vp_in_nI (by omega) (by decide)
    have c2 : (a r_byNumber (nI i).toNatClampNeg).toNatClampNeg = q := by rw [eb]; exact nI_clamp (by omega)
    have e0 : rchG a p s (j + 1) i k = if a r_around q = p ∧ a r_isStmt q = s then (if k = 0 then q + 1 else rchG a p s j (i + 1) (k - 1)) else rchG a p s j (i + 1) k := by rw [← hq]; rfl
    rw [e0] at h
    have nx : ∀ n' : Nat, pv_go rq_T44 0 (pv_call rq_mt d) P (6, chR p (nI (n + k)) s n' (i + 1) [(6, .int (nI q))], [], rs m a) → pv_go rq_T44 0 (pv_call rq_mt d) P (58, chR p (nI (n + k)) s n' i [(6, .int (a r_byNumber (nI i).toNatClampNeg))], [], rs m a) := by
      intro n' g
      rw [eb]
      refine pv_run [6] 10 ?_
      show pv_go rq_T44 0 (pv_call rq_mt d) P (6, [(0, .ref 0), (1, .int p), (2, .int (nI (n + k))), (3, .int s), (4, .int (nI n')), (5, .int (nI i + 1)), (6, .int (nI q))], [], rs m a)
      rw [nI_1]
      exact g
    have no : ¬ (a r_around q = p ∧ a r_isStmt q = s) → pv_go rq_T44 0 (pv_call rq_mt d) P (58, chR p (nI (n + k)) s n i [(6, .int (a r_byNumber (nI i).toNatClampNeg))], [], rs m a) := by
      intro z
      rw [if_neg z] at h
      exact nx n (ih (i + 1) n k (by omega) hk (by omega) h _ (Or.inr ⟨_, rfl⟩))
    have yes : (a r_around q = p ∧ a r_isStmt q = s) → pv_go rq_T44 0 (pv_call rq_mt d) P (46, chR p (nI (n + k)) s n i [(6, .int (a r_byNumber (nI i).toNatClampNeg))], [], rs m a) := by
      intro z
      rw [if_pos z] at h
      refine pv_run [58] 20 ?_
      refine And.intro (fun u => ?_) (fun u => ?_)
      · have u : nI n = nI (n + k) := u
        rw [nI_eq (by omega) (by omega)] at u
        rw [if_pos (by omega), oI_s] at h
        have h2 : P (some (.int (a r_byNumber (nI i).toNatClampNeg))) (rs m a) := by rw [eb]; exact h
        exact h2
      · have u : ¬ nI n = nI (n + k) := u
        rw [nI_eq (by omega) (by omega)] at u
        rw [if_neg (by omega)] at h
        have g := ih (i + 1) (n + 1) (k - 1) (by omega) (by omega) (by omega) h [(6, .int (nI q))] (Or.inr ⟨_, rfl⟩)
        rw [show n + 1 + (k - 1) = n + k by omega] at g
        have g := nx (n + 1) g
        show pv_go rq_T44 0 (pv_call rq_mt d) P (58, [(0, .ref 0), (1, .int p), (2, .int (nI (n + k))), (3, .int s), (4, .int (nI n + 1)), (5, .int (nI i)), (6, .int (a r_byNumber (nI i).toNatClampNeg))], [], rs m a)
        rw [nI_1]
        exact g
    have body : pv_go rq_T44 0 (pv_call rq_mt d) P (24, chR p (nI (n + k)) s n i [(6, .int (a r_byNumber (nI i).toNatClampNeg))], [], rs m a) := by
      refine pv_run [46, 58] 30 ?_
      refine And.intro i2 ?_
      refine And.intro (fun z => ?_) (fun z => ?_)
      · have z : a r_around (a r_byNumber (nI i).toNatClampNeg).toNatClampNeg = p := z
        rw [c2] at z
        refine And.intro i2 ?_
        refine And.intro (fun y => ?_) (fun y => ?_)
        · have y : a r_isStmt (a r_byNumber (nI i).toNatClampNeg).toNatClampNeg = s := y
          rw [c2] at y
          exact yes ⟨z, y⟩
        · have y : ¬ a r_isStmt (a r_byNumber (nI i).toNatClampNeg).toNatClampNeg = s := y
          rw [c2] at y
          exact no (fun u => y u.2)
      · have z : ¬ a r_around (a r_byNumber (nI i).toNatClampNeg).toNatClampNeg = p := z
        rw [c2] at z
        exact no (fun u => z u.1)
    rcases hL with rfl | ⟨x, rfl⟩
    · refine pv_run [24] 20 ?_
      refine And.intro (fun z => absurd z nle) (fun _ => ?_)
      exact And.intro i1 body
    · refine pv_run [24] 20 ?_
      refine And.intro (fun z => absurd z nle) (fun _ => ?_)
      exact And.intro i1 body
set_option maxRecDepth 100000 in
theorem rc_child (d : Nat) (m : Nat → Int32) (a : Nat → Nat → Int32) {N k : Nat} (hN : N ≤ 260) (hs : m r_nodes = nI N) (hb : bRow a N) (hk : k < 2 ^ 19) (p s : Int32) (P : pv_R) (h : P (some (.int (oI (rchG a p s N 0 k)))) (rs m a)) : pv_call rq_mt (d + 1) rq_m_R_child [.ref 0, .int p, .int (nI k), .int s] (rs m a) P := by
  have g := rch_6 d m a hN hs hb p s P N 0 0 k (by omega) (by omega) (by omega) h [] (Or.inl rfl)
  rw [Nat.zero_add] at g
  refine pv_call_of rfl rfl rfl (pv_run [6] 10 ?_)
  exact g
end RB2
