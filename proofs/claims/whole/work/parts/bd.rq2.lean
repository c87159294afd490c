/-! fact, error, count of the reference -/
/-- the set that fact makes -/
def fsR (S : Nat → Int32) (c th : Int32) : Nat → Nat → Int32 → Int32
  | 0, _, s => s
  | j + 1, v, s => fsR S c th j (v + 1) (s ||| (if (S v = 0 ∨ S v = c) ∧ th >>> (nI v &&& 31) &&& 1 = 1 then (1 : Int32) <<< (nI v &&& 31) else 0))
section RQ2
variable {m : Nat → Int32} {a : Nat → Nat → Int32}
abbrev fkL (x k y : Int32) (p : Nat) (th s : Int32) (v : Nat) (L : pv_L) : pv_L := [(0, .ref 0), (1, .int x), (2, .int k), (3, .int y), (4, .int (nI p)), (5, .int th), (6, .int s), (7, .int (nI v))] ++ L
def fk9 (L : pv_L) : Prop := L = [] ∨ ∃ w, L = [(9, .int w)]
def fk8 (L : pv_L) : Prop := L = [] ∨ ∃ u w, L = [(8, .int u), (9, .int w)]
set_option maxRecDepth 100000 in
theorem fk_150 (d : Nat) (x k y : Int32) (p : Nat) (th s : Int32) (v : Nat) (u w : Int32) (G : Prop) [Decidable G] (hw : (w = 1 ∧ G) ∨ (w = 0 ∧ ¬ G)) (P : pv_R) (L : pv_L) (hL : fk9 L)
    (h : pv_go rq_T64 0 (pv_call rq_mt d) P (105, fkL x k y p th (s ||| (if G ∧ th >>> (nI v &&& 31) &&& 1 = 1 then (1 : Int32) <<< (nI v &&& 31) else 0)) (v + 1) [(8, .int u), (9, .int w)], [], rs m a)) : pv_go rq_T64 0 (pv_call rq_mt d) P (150, fkL x k y p th s v ([(8, .int u)] ++ L), [.int w], rs m a) := by
  rw [fkL, ← nI_1] at h
  rcases hL with rfl | ⟨w', rfl⟩
  · rcases hw with ⟨rfl, hG⟩ | ⟨rfl, hG⟩
    · refine pv_run [105] 60 ?_
      refine And.intro (fun z => absurd z (by decide)) (fun _ => ?_)
      refine And.intro (fun z => ?_) (fun z => ?_)
      · rw [if_pos ⟨hG, z⟩] at h
        exact h
      · rw [if_neg (fun q => z q.2)] at h
        exact h
    · refine pv_run [105] 60 ?_
      refine And.intro (fun _ => ?_) (fun z => absurd rfl z)
      rw [if_neg (fun q => hG q.1)] at h
      exact h
  · rcases hw with ⟨rfl, hG⟩ | ⟨rfl, hG⟩
    · refine pv_run [105] 60 ?_
      refine And.intro (fun z => absurd z (by decide)) (fun _ => ?_)
      refine And.intro (fun z => ?_) (fun z => ?_)
      · rw [if_pos ⟨hG, z⟩] at h
        exact h
      · rw [if_neg (fun q => z q.2)] at h
        exact h
    · refine pv_run [105] 60 ?_
      refine And.intro (fun _ => ?_) (fun z => absurd rfl z)
      rw [if_neg (fun q => hG q.1)] at h
      exact h
set_option maxRecDepth 100000 in
theorem fk_105 (d : Nat) {V p : Nat} (hV : V ≤ 12) (hvs : m r_variables = nI V) (hp : p < 260) (x k y th : Int32) (P : pv_R) : ∀ (j v : Nat) (s : Int32) (L : pv_L), v + j = V → fk8 L → P (some (.int (fsR (fun v => svR a v p k) (if y = 1 then 2 else 1) th j v s))) (rs m a) → pv_go rq_T64 0 (pv_call rq_mt (d + 2)) P (105, fkL x k y p th s v L, [], rs m a) := by
  intro j
  induction j with
  | zero =>
    intro v s L hj hL h
    have e : v = V := by omega
    subst e
    have c : m 19 ≤ nI v := by rw [show m 19 = nI v from hvs]; exact Int32.le_refl _
    rcases hL with rfl | ⟨u, w, rfl⟩
    · refine pv_run [] 20 ?_
      exact And.intro (fun _ => h) (fun z => absurd c z)
    · refine pv_run [] 20 ?_
      exact And.intro (fun _ => h) (fun z => absurd c z)
  | succ j ih =>
    intro v s L hj hL h
    have c : ¬ m 19 ≤ nI v := by rw [show m 19 = nI V from hvs, nI_leI (by omega) (by omega)]; omega
    have nx : ∀ u w, pv_go rq_T64 0 (pv_call rq_mt (d + 2)) P (105, fkL x k y p th (s ||| (if (svR a v p k = 0 ∨ svR a v p k = (if y = 1 then 2 else 1)) ∧ th >>> (nI v &&& 31) &&& 1 = 1 then (1 : Int32) <<< (nI v &&& 31) else 0)) (v + 1) [(8, .int u), (9, .int w)], [], rs m a) := fun u w => ih (v + 1) _ _ (by omega) (Or.inr ⟨u, w, rfl⟩) h
    have g150 : ∀ w L9, fk9 L9 → ((w = 1 ∧ (svR a v p k = 0 ∨ svR a v p k = (if y = 1 then 2 else 1))) ∨ (w = 0 ∧ ¬ (svR a v p k = 0 ∨ svR a v p k = (if y = 1 then 2 else 1)))) → pv_go rq_T64 0 (pv_call rq_mt (d + 2)) P (150, fkL x k y p th s v ([(8, .int (svR a v p k))] ++ L9), [.int w], rs m a) := fun w L9 h9 hw => fk_150 (d + 2) x k y p th s v _ w _ hw P L9 h9 (nx _ _)
    rcases hL with rfl | ⟨u, w, rfl⟩
    · refine pv_run [150] 60 ?_
      refine And.intro (fun z => absurd z c) (fun _ => ?_)
      refine rc_states d (by omega) hp k _ ?_
      refine And.intro (fun z => ?_) (fun z => ?_)
      · exact g150 1 [] (Or.inl rfl) (Or.inl ⟨rfl, Or.inl z⟩)
      · refine And.intro (fun e => ?_) (fun e => ?_)
        · have e : y = 1 := e
          rw [if_pos e] at g150
          refine And.intro (fun q => ?_) (fun q => ?_)
          · exact g150 1 [] (Or.inl rfl) (Or.inl ⟨rfl, Or.inr q⟩)
          · exact g150 0 [] (Or.inl rfl) (Or.inr ⟨rfl, fun o => o.elim z q⟩)
        · have e : ¬ y = 1 := e
          rw [if_neg e] at g150
          refine And.intro (fun q => ?_) (fun q => ?_)
          · exact g150 1 [] (Or.inl rfl) (Or.inl ⟨rfl, Or.inr q⟩)
          · exact g150 0 [] (Or.inl rfl) (Or.inr ⟨rfl, fun o => o.elim z q⟩)
    · refine pv_run [150] 60 ?_
      refine And.intro (fun z => absurd z c) (fun _ => ?_)
      refine rc_states d (by omega) hp k _ ?_
      refine And.intro (fun z => ?_) (fun z => ?_)
      · exact g150 1 [(9, .int w)] (Or.inr ⟨w, rfl⟩) (Or.inl ⟨rfl, Or.inl z⟩)
      · refine And.intro (fun e => ?_) (fun e => ?_)
        · have e : y = 1 := e
          rw [if_pos e] at g150
          refine And.intro (fun q => ?_) (fun q => ?_)
          · exact g150 1 [(9, .int w)] (Or.inr ⟨w, rfl⟩) (Or.inl ⟨rfl, Or.inr q⟩)
          · exact g150 0 [(9, .int w)] (Or.inr ⟨w, rfl⟩) (Or.inr ⟨rfl, fun o => o.elim z q⟩)
        · have e : ¬ y = 1 := e
          rw [if_neg e] at g150
          refine And.intro (fun q => ?_) (fun q => ?_)
          · exact g150 1 [(9, .int w)] (Or.inr ⟨w, rfl⟩) (Or.inl ⟨rfl, Or.inr q⟩)
          · exact g150 0 [(9, .int w)] (Or.inr ⟨w, rfl⟩) (Or.inr ⟨rfl, fun o => o.elim z q⟩)
/-- what fact answers at node p -/
def fcR (a : Nat → Nat → Int32) (V p : Nat) (k y : Int32) : Int32 := if y = 0 then (if svR a V p k = 0 then 0 else 1) else fsR (fun v => svR a v p k) (if y = 1 then 2 else 1) (if k = 0 then a r_thereBefore p else a r_thereAfter p) V 0 0
set_option maxRecDepth 100000 in
theorem fk_48 (d : Nat) {N V i : Nat} (hN : N ≤ 260) (hi : i < N) (hb : a r_byNumber i = nI (dN (a r_byNumber i)) ∧ dN (a r_byNumber i) < N) (hV : V ≤ 12) (hvs : m r_variables = nI V) (k y : Int32) (P : pv_R) (h : P (some (.int (fcR a V (dN (a r_byNumber i)) k y))) (rs m a)) : pv_go rq_T64 0 (pv_call rq_mt (d + 3)) P (48, [(0, .ref 0), (1, .int (nI i)), (2, .int k), (3, .int y)], [], rs m a) := by
  have i1 : vp_in (nI i) 260 := vp_in_nI (by omega) (by decide)
  have c1 : (nI i).toNatClampNeg = i := nI_clamp (by omega)
  have eb : a 45 (nI i).toNatClampNeg = nI (dN (a r_byNumber i)) := by rw [c1]; exact hb.1
  have lp := hb.2
  generalize dN (a r_byNumber i) = p at *
  have i2 : vp_in (nI p) 260 := vp_in_nI (by omega) (by decide)
  have c2 : (nI p).toNatClampNeg = p := nI_clamp (by omega)
  have g56 : pv_go rq_T64 0 (pv_call rq_mt (d + 3)) P (56, [(0, .ref 0), (1, .int (nI i)), (2, .int k), (3, .int y), (4, .int (nI p))], [], rs m a) := by
    unfold fcR at h
    refine pv_run [105] 60 ?_
    refine And.intro (fun z => ?_) (fun z => ?_)
    · have z : y = 0 := z
      rw [if_pos z] at h
      refine rc_isReached d hV hvs (by omega) k _ (fun t => ?_) (fun t => ?_)
      · rw [if_neg t] at h
        refine And.intro (fun u => absurd u (by decide)) (fun _ => ?_)
        exact h
      · rw [if_pos t] at h
        refine And.intro (fun _ => ?_) (fun u => absurd rfl u)
        exact h
    · have z : ¬ y = 0 := z
      rw [if_neg z] at h
      refine And.intro (fun q => ?_) (fun q => ?_)
      · have q : k = 0 := q
        rw [if_pos q] at h
        refine And.intro i2 ?_
        have g := fk_105 (m := m) (a := a) (d + 1) (p := p) hV hvs (by omega) (nI i) k y (a 9 (nI p).toNatClampNeg) P V 0 0 [] (by omega) (Or.inl rfl) (by rw [c2]; exact h)
        exact g
      · have q : ¬ k = 0 := q
        rw [if_neg q] at h
        refine And.intro i2 ?_
        have g := fk_105 (m := m) (a := a) (d + 1) (p := p) hV hvs (by omega) (nI i) k y (a 10 (nI p).toNatClampNeg) P V 0 0 [] (by omega) (Or.inl rfl) (by rw [c2]; exact h)
        exact g
  rw [← eb] at g56
  refine pv_run [56] 10 ?_
  refine And.intro i1 ?_
  exact g56
set_option maxRecDepth 100000 in
theorem rc_fact (d : Nat) {N V : Nat} (hN : N ≤ 260) (hs : m r_nodes = nI N) (hb : ∀ i, i < N → a r_byNumber i = nI (dN (a r_byNumber i)) ∧ dN (a r_byNumber i) < N) (hV : V ≤ 12) (hvs : m r_variables = nI V) (x k y : Int32) (P : pv_R)
    (h1 : ∀ i, x = nI i → i < N → (0 ≤ k ∧ k ≤ 3) → (0 ≤ y ∧ y ≤ 2) → ¬ (1 < k ∧ ¬ a r_isStmt (dN (a r_byNumber i)) = 0) → P (some (.int (fcR a V (dN (a r_byNumber i)) k y))) (rs m a))
    (h0 : ∀ _ : ¬ (∃ i, x = nI i ∧ i < N ∧ (0 ≤ k ∧ k ≤ 3) ∧ (0 ≤ y ∧ y ≤ 2) ∧ ¬ (1 < k ∧ ¬ a r_isStmt (dN (a r_byNumber i)) = 0)), P (some (.int (-2))) (rs m a)) : pv_call rq_mt (d + 4) rq_m_R_fact [.ref 0, .int x, .int k, .int y] (rs m a) P := by
  have inj : ∀ i j, i < N → j < N → nI i = nI j → i = j := fun i j hi hj e => by
    rw [nI_eq (by omega) (by omega)] at e
    exact e
  refine pv_call_of rfl rfl rfl (pv_run [48] 60 ?_)
  refine rc_isPlace (d + 1) (by omega) hs x _ (fun i e hi => ?_) (fun q => ?_)
  · subst e
    refine And.intro (fun u => absurd u (by decide)) (fun _ => ?_)
    refine rc_isIn (d + 2) (rs m a) k 0 3 _ ?_
    by_cases ck : 0 ≤ k ∧ k ≤ 3
    · rw [if_pos ck]
      refine And.intro (fun u => absurd u (by decide)) (fun _ => ?_)
      refine rc_isIn (d + 2) (rs m a) y 0 2 _ ?_
      by_cases cy : 0 ≤ y ∧ y ≤ 2
      · rw [if_pos cy]
        refine And.intro (fun u => absurd u (by decide)) (fun _ => ?_)
        have i1 : vp_in (nI i) 260 := vp_in_nI (by omega) (by decide)
        have c1 : (nI i).toNatClampNeg = i := nI_clamp (by omega)
        have b := hb i hi
        have eb : a 45 (nI i).toNatClampNeg = nI (dN (a r_byNumber i)) := by rw [c1]; exact b.1
        have i2 : vp_in (a 45 (nI i).toNatClampNeg) 260 := by rw [eb]; exact vp_in_nI (by omega) (by decide)
        have c2 : (a 45 (nI i).toNatClampNeg).toNatClampNeg = dN (a r_byNumber i) := by rw [c1]
        have g48 : ¬ (1 < k ∧ ¬ a r_isStmt (dN (a r_byNumber i)) = 0) → pv_go rq_T64 0 (pv_call rq_mt (d + 3)) P (48, [(0, .ref 0), (1, .int (nI i)), (2, .int k), (3, .int y)], [], rs m a) := fun u => fk_48 d hN hi b hV hvs k y P (h1 i rfl hi ck cy u)
        refine And.intro (fun z => ?_) (fun z => ?_)
        · have z : k ≤ 1 := z
          exact g48 (fun u => absurd u.1 (Int32.not_lt.mpr z))
        · have z : ¬ k ≤ 1 := z
          refine And.intro i1 ?_
          refine And.intro i2 ?_
          refine And.intro (fun q => ?_) (fun q => ?_)
          · have q : a 8 (a 45 (nI i).toNatClampNeg).toNatClampNeg = 0 := q
            rw [c2] at q
            exact g48 (fun u => u.2 q)
          · have q : ¬ a 8 (a 45 (nI i).toNatClampNeg).toNatClampNeg = 0 := q
            rw [c2] at q
            refine h0 (fun ⟨i', e', hi', _, _, n⟩ => ?_)
            have := inj i i' hi hi' e'
            subst this
            exact n ⟨Int32.not_le.mp z, q⟩
      · rw [if_neg cy]
        refine And.intro (fun _ => ?_) (fun u => absurd rfl u)
        exact h0 (fun ⟨i', _, _, _, n, _⟩ => cy n)
    · rw [if_neg ck]
      refine And.intro (fun _ => ?_) (fun u => absurd rfl u)
      exact h0 (fun ⟨i', _, _, n, _⟩ => ck n)
  · refine And.intro (fun _ => ?_) (fun u => absurd rfl u)
    exact h0 (fun ⟨i', e', hi', _⟩ => q i' hi' e')
end RQ2
