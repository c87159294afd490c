def cnG (a : Nat → Nat → Int32) (p pt : Int32) : Nat → Nat → Nat → eL_T → Nat × eL_T
  | 0, _, last, E => (last, E)
  | j + 1, i, last, E => if ¬ a r_isStmt (dN (a r_byNumber i)) = 0 ∧ a r_around (dN (a r_byNumber i)) = p ∧ a r_part (dN (a r_byNumber i)) = pt then cnG a p pt j (i + 1) (5 * dN (a r_byNumber i) + 3) (edF last (nI (5 * dN (a r_byNumber i) + 0)) 0 E) else cnG a p pt j (i + 1) last E
def cnF (a : Nat → Nat → Int32) (N : Nat) (p pt : Int32) (f : Nat) (t : Int32) (E : eL_T) : eL_T := edF (cnG a p pt N 0 f E).1 t 0 (cnG a p pt N 0 f E).2
section RB3
variable {m0 : Nat → Int32} {a0 : Nat → Nat → Int32}
abbrev cnL (p pt : Int32) (f : Nat) (t : Int32) (last i : Nat) (L : pv_L) : pv_L := [(0, .ref 0), (1, .int p), (2, .int pt), (3, .int (nI f)), (4, .int t), (5, .int (nI last)), (6, .int (nI i))] ++ L
def cnK (L : pv_L) : Prop := L = [] ∨ ∃ x, L = [(7, .int x)]
set_option maxRecDepth 100000 in
theorem cn_6 (d : Nat) {N f : Nat} (hN : N ≤ 260) (hs : m0 r_nodes = nI N) (hb : bRow a0 N) {W : wL_T} (p pt t : Int32) (P : pv_R) : ∀ (j i last : Nat) (E : eL_T) (S : pv_S), i + j = N → last < 3600 → E.length + j + 1 < 9000 → RB m0 a0 E W S → (∀ S', RB m0 a0 (edF (cnG a0 p pt j i last E).1 t 0 (cnG a0 p pt j i last E).2) W S' → P none S') → ∀ L, cnK L → pv_go rq_T45 3 (pv_call rq_mt (d + 2)) P (6, cnL p pt f t last i L, [], S) := by
  intro j
  induction j with
  | zero =>
    intro i last E S hi hl hE hS h L hL
    have e : i = N := by omega
    subst e
    obtain ⟨m, a, rfl, hR⟩ := hS
    have le : m 2 ≤ nI i := by rw [hR.1.1 2 (by omega), show m0 2 = nI i from hs]; exact Int32.le_refl _
    rcases hL with rfl | ⟨x, rfl⟩
    · refine pv_run [] 20 ?_
      refine And.intro (fun _ => ?_) (fun q => absurd le q)
      exact rc_go d ⟨m, a, rfl, hR⟩ (by omega) hl t _ h
    · refine pv_run [] 20 ?_
      refine And.intro (fun _ => ?_) (fun q => absurd le q)
      exact rc_go d ⟨m, a, rfl, hR⟩ (by omega) hl t _ h
  | succ j ih =>
    intro i last E S hi hl hE hS h L hL
    have hiN : i < N := by omega
    obtain ⟨m, a, rfl, hR⟩ := hS
    have nle : ¬ m 2 ≤ nI i := by
      rw [hR.1.1 2 (by omega), show m0 2 = nI N from hs, nI_leI (by omega) (by omega)]
      omega
    have s45 : a r_byNumber = a0 r_byNumber := hR.1.2 45 (by omega)
    have s8 : a r_isStmt = a0 r_isStmt := hR.1.2 8 (by omega)
    have s5 : a r_around = a0 r_around := hR.1.2 5 (by omega)
    have s6 : a r_part = a0 r_part := hR.1.2 6 (by omega)
    obtain ⟨b1, b2⟩ := hb i hiN
    have e0 : cnG a0 p pt (j + 1) i last E = if ¬ a0 r_isStmt (dN (a0 r_byNumber i)) = 0 ∧ a0 r_around (dN (a0 r_byNumber i)) = p ∧ a0 r_part (dN (a0 r_byNumber i)) = pt then cnG a0 p pt j (i + 1) (5 * dN (a0 r_byNumber i) + 3) (edF last (nI (5 * dN (a0 r_byNumber i) + 0)) 0 E) else cnG a0 p pt j (i + 1) last E := rfl
    rw [e0] at h
    generalize hq : dN (a0 r_byNumber i) = q at *
    have i1 : vp_in (nI i) 260 := vp_in_nI (by omega) (by decide)
    have c1 : (nI i).toNatClampNeg = i := nI_clamp (by omega)
    have eb : a r_byNumber (nI i).toNatClampNeg = nI q := by rw [c1, s45]; exact b1
    have i2 : vp_in (a r_byNumber (nI i).toNatClampNeg) 260 := by rw [eb]; exact vp_in_nI (by omega) (by decide)
    have c2 : (a r_byNumber (nI i).toNatClampNeg).toNatClampNeg = q := by rw [eb]; exact nI_clamp (by omega)
    have nx : ∀ (last' : Nat) (S' : pv_S), pv_go rq_T45 3 (pv_call rq_mt (d + 2)) P (6, cnL p pt f t last' (i + 1) [(7, .int (nI q))], [], S') → pv_go rq_T45 3 (pv_call rq_mt (d + 2)) P (76, cnL p pt f t last' i [(7, .int (nI q))], [], S') := by
      intro last' S' g
      refine pv_run [6] 10 ?_
      show pv_go rq_T45 3 (pv_call rq_mt (d + 2)) P (6, [(0, .ref 0), (1, .int p), (2, .int pt), (3, .int (nI f)), (4, .int t), (5, .int (nI last')), (6, .int (nI i + 1)), (7, .int (nI q))], [], S')
      rw [nI_1]
      exact g
    have no : ¬ (¬ a0 r_isStmt q = 0 ∧ a0 r_around q = p ∧ a0 r_part q = pt) → pv_go rq_T45 3 (pv_call rq_mt (d + 2)) P (76, cnL p pt f t last i [(7, .int (nI q))], [], rs m a) := by
      intro z
      rw [if_neg z] at h
      exact nx last _ (ih (i + 1) last E _ (by omega) hl (by omega) ⟨m, a, rfl, hR⟩ h _ (Or.inr ⟨_, rfl⟩))
    have yes : (¬ a0 r_isStmt q = 0 ∧ a0 r_around q = p ∧ a0 r_part q = pt) → pv_go rq_T45 3 (pv_call rq_mt (d + 2)) P (56, cnL p pt f t last i [(7, .int (nI q))], [], rs m a) := by
      intro z
      rw [if_pos z] at h
      have hl2 := edF_len last (nI (5 * q + 0)) 0 E
      refine pv_run [76] 30 ?_
      refine rc_pnt (d + 1) (rs m a) q 0 _ ?_
      refine rc_go d ⟨m, a, rfl, hR⟩ (by omega) hl (nI (5 * q + 0)) _ (fun S' hS' => ?_)
      refine rc_pnt (d + 1) S' q 3 _ ?_
      exact nx (5 * q + 3) S' (ih (i + 1) (5 * q + 3) _ S' (by omega) (by omega) (by omega) hS' h _ (Or.inr ⟨_, rfl⟩))
    have body : pv_go rq_T45 3 (pv_call rq_mt (d + 2)) P (24, cnL p pt f t last i [(7, .int (a r_byNumber (nI i).toNatClampNeg))], [], rs m a) := by
      have q8 : ∀ x : Int32, a r_isStmt (a r_byNumber (nI i).toNatClampNeg).toNatClampNeg = x ↔ a0 r_isStmt q = x := by intro x; rw [c2, s8]
      have q5 : ∀ x : Int32, a r_around (a r_byNumber (nI i).toNatClampNeg).toNatClampNeg = x ↔ a0 r_around q = x := by intro x; rw [c2, s5]
      have q6 : ∀ x : Int32, a r_part (a r_byNumber (nI i).toNatClampNeg).toNatClampNeg = x ↔ a0 r_part q = x := by intro x; rw [c2, s6]
      have no' : ¬ (¬ a0 r_isStmt q = 0 ∧ a0 r_around q = p ∧ a0 r_part q = pt) → pv_go rq_T45 3 (pv_call rq_mt (d + 2)) P (76, cnL p pt f t last i [(7, .int (a r_byNumber (nI i).toNatClampNeg))], [], rs m a) := by
        intro z; rw [eb]; exact no z
      have yes' : (¬ a0 r_isStmt q = 0 ∧ a0 r_around q = p ∧ a0 r_part q = pt) → pv_go rq_T45 3 (pv_call rq_mt (d + 2)) P (56, cnL p pt f t last i [(7, .int (a r_byNumber (nI i).toNatClampNeg))], [], rs m a) := by
        intro z; rw [eb]; exact yes z
      refine pv_run [56, 76] 40 ?_
      refine And.intro i2 ?_
      refine And.intro (fun z => ?_) (fun z => ?_)
      · exact no' (fun u => u.1 ((q8 0).mp z))
      · refine And.intro i2 ?_
        refine And.intro (fun y => ?_) (fun y => ?_)
        · refine And.intro i2 ?_
          refine And.intro (fun x => ?_) (fun x => ?_)
          · exact yes' ⟨fun u => z ((q8 0).mpr u), (q5 p).mp y, (q6 pt).mp x⟩
          · exact no' (fun u => x ((q6 pt).mpr u.2.2))
        · exact no' (fun u => y ((q5 p).mpr u.2.1))
    rcases hL with rfl | ⟨x, rfl⟩
    · refine pv_run [24] 20 ?_
      refine And.intro (fun z => absurd z nle) (fun _ => ?_)
      exact And.intro i1 body
    · refine pv_run [24] 20 ?_
      refine And.intro (fun z => absurd z nle) (fun _ => ?_)
      exact And.intro i1 body
set_option maxRecDepth 100000 in
theorem rc_chain (d : Nat) {N f : Nat} (hN : N ≤ 260) (hs : m0 r_nodes = nI N) (hb : bRow a0 N) {E : eL_T} {W : wL_T} {S : pv_S} (hS : RB m0 a0 E W S) (hE : E.length + N + 1 < 9000) (hf : f < 3600) (p pt t : Int32) (P : pv_R) (h : ∀ S', RB m0 a0 (cnF a0 N p pt f t E) W S' → P none S') : pv_call rq_mt (d + 3) rq_m_R_chain [.ref 0, .int p, .int pt, .int (nI f), .int t] S P := by
  refine pv_call_of rfl rfl rfl (pv_run [6] 10 ?_)
  exact cn_6 d hN hs hb p pt t P N 0 f E S (by omega) hf hE hS h [] (Or.inl rfl)
theorem cnG_len (a : Nat → Nat → Int32) (p pt : Int32) : ∀ (j i last : Nat) (E : eL_T), (cnG a p pt j i last E).2.length ≤ E.length + j
  | 0, _, _, _ => Nat.le_refl _
  | j + 1, i, last, E => by
    unfold cnG
    split
    · have h1 := cnG_len a p pt j (i + 1) (5 * dN (a r_byNumber i) + 3) (edF last (nI (5 * dN (a r_byNumber i) + 0)) 0 E)
      have h2 := edF_len last (nI (5 * dN (a r_byNumber i) + 0)) 0 E
      omega
    · have h1 := cnG_len a p pt j (i + 1) last E
      omega
end RB3
