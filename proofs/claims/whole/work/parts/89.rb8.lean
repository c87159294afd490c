section RB8
variable {m0 : Nat → Int32} {a0 : Nat → Nat → Int32}
abbrev bcM (p e : Nat) (af last : Int32) (i : Nat) (q : Nat) : pv_L := [(0, .ref 0), (1, .int (nI p)), (2, .int (nI e)), (3, .int af), (4, .int last), (5, .int (nI i)), (6, .int (nI q))]
set_option maxRecDepth 100000 in
theorem bc_86 (d : Nat) {p e last q : Nat} (hl : last ≤ 3600) (hq : q < 260) (af : Int32) (i : Nat) {E : eL_T} {W : wL_T} {S : pv_S} (hS : RB m0 a0 E W S) (hE : E.length + 1 < 9000) (P : pv_R) (h : ∀ S', RB m0 a0 (if last = 0 then E else edF (last - 1) (nI (5 * q + 0)) 0 E) W S' → pv_go rq_T52 3 (pv_call rq_mt (d + 3)) P (20, bcM p e af (nI (5 * q + 3)) (i + 1) q, [], S')) : pv_go rq_T52 3 (pv_call rq_mt (d + 3)) P (86, bcM p e af (oI last) i q, [], S) := by
  have g104 : ∀ (x : Int32) (S' : pv_S), RB m0 a0 (if last = 0 then E else edF (last - 1) (nI (5 * q + 0)) 0 E) W S' → pv_go rq_T52 3 (pv_call rq_mt (d + 3)) P (104, bcM p e af x i q, [], S') := by
    intro x S' hS'
    have g := h S' hS'
    refine pv_run [20] 20 ?_
    refine rc_pnt (d + 2) S' q 3 _ ?_
    show pv_go rq_T52 3 (pv_call rq_mt (d + 3)) P (20, [(0, .ref 0), (1, .int (nI p)), (2, .int (nI e)), (3, .int af), (4, .int (nI (5 * q + 3))), (5, .int (nI i + 1)), (6, .int (nI q))], [], S')
    rw [nI_1]
    exact g
  cases last with
  | zero =>
    refine pv_run [104] 20 ?_
    exact And.intro (fun _ => g104 (oI 0) S hS) (fun z => absurd rfl z)
  | succ r =>
    have ne : ¬ nI r = -1 := nI_ne_m1 (by omega)
    obtain ⟨m, a, rfl, hR⟩ := hS
    show pv_go rq_T52 3 (pv_call rq_mt (d + 3)) P (86, [(0, .ref 0), (1, .int (nI p)), (2, .int (nI e)), (3, .int af), (4, .int (oI (r + 1))), (5, .int (nI i)), (6, .int (nI q))], [], rs m a)
    rw [oI_s r]
    refine pv_run [104] 20 ?_
    refine And.intro (fun z => absurd z ne) (fun _ => ?_)
    refine rc_pnt (d + 2) (rs m a) q 0 _ ?_
    refine rc_go (f := r) (d + 1) ⟨m, a, rfl, hR⟩ (by omega) (by omega) (nI (5 * q + 0)) _ (fun S' hS' => ?_)
    exact g104 (nI r) S' (by rw [if_neg (by omega)]; exact hS')
set_option maxRecDepth 100000 in
theorem bc_20 (d : Nat) {N p e : Nat} (hN : N ≤ 260) (hp : p < 260) (he : e < 260) (hs : m0 r_nodes = nI N) (hb : bRow a0 N) (af : Int32) {W : wL_T} (P : pv_R) : ∀ (j i last : Nat) (E : eL_T) (S : pv_S), i + j = N → last ≤ 3600 → E.length + 3 * j + 3 < 9000 → RB m0 a0 E W S → (∀ S', RB m0 a0 (bcT a0 p e af (if (bcG a0 p e j i last E).1 = 0 then (bcG a0 p e j i last E).2 else edF ((bcG a0 p e j i last E).1 - 1) af 0 (bcG a0 p e j i last E).2)) W S' → P none S') → ∀ L, chK L → pv_go rq_T52 3 (pv_call rq_mt (d + 3)) P (20, bcL p e af (oI last) i L, [], S) := by
  intro j
  induction j with
  | zero =>
    intro i last E S hi hl hE hS h L hL
    have e1 : i = N := by omega
    subst e1
    have g := bc_118 d hp he hl af i L hL hS (by omega) P h
    obtain ⟨m, a, rfl, hR⟩ := hS
    have le : m 2 ≤ nI i := by rw [hR.1.1 2 (by omega), show m0 2 = nI i from hs]; exact Int32.le_refl _
    rcases hL with rfl | ⟨x, rfl⟩
    · refine pv_run [118] 20 ?_
      exact And.intro (fun _ => g) (fun q => absurd le q)
    · refine pv_run [118] 20 ?_
      exact And.intro (fun _ => g) (fun q => absurd le q)
  | succ j ih =>
    intro i last E S hi hl hE hS h L hL
    have hiN : i < N := by omega
    obtain ⟨m, a, rfl, hR⟩ := hS
    have nle : ¬ m 2 ≤ nI i := by
      rw [hR.1.1 2 (by omega), show m0 2 = nI N from hs, nI_leI (by omega) (by omega)]
      omega
    have s45 : a r_byNumber = a0 r_byNumber := hR.1.2 45 (by omega)
    have s8 : a r_isStmt = a0 r_isStmt := hR.1.2 8 (by omega)
    have s5 : a r_around = a0 r_around := hR.1.2 5 (by omega)
    have s13 : a r_isMarked = a0 r_isMarked := hR.1.2 13 (by omega)
    obtain ⟨b1, b2⟩ := hb i hiN
    have e0 : bcG a0 p e (j + 1) i last E = (if ¬ a0 r_isStmt (dN (a0 r_byNumber i)) = 0 ∧ a0 r_around (dN (a0 r_byNumber i)) = nI p then
      bcG a0 p e j (i + 1) (5 * dN (a0 r_byNumber i) + 3 + 1)
        (if last = 0 then (if a0 r_isMarked (dN (a0 r_byNumber i)) = 0 then E else enF e (nI (5 * dN (a0 r_byNumber i) + 0)) (nI (5 * dN (a0 r_byNumber i) + 0)) E)
        else edF (last - 1) (nI (5 * dN (a0 r_byNumber i) + 0)) 0 (if a0 r_isMarked (dN (a0 r_byNumber i)) = 0 then E else enF e (nI (5 * dN (a0 r_byNumber i) + 0)) (nI (5 * dN (a0 r_byNumber i) + 0)) E))
    else bcG a0 p e j (i + 1) last E) := rfl
    rw [e0] at h
    generalize hq : dN (a0 r_byNumber i) = q at *
    have i1 : vp_in (nI i) 260 := vp_in_nI (by omega) (by decide)
    have c1 : (nI i).toNatClampNeg = i := nI_clamp (by omega)
    have eb : a r_byNumber (nI i).toNatClampNeg = nI q := by rw [c1, s45]; exact b1
    have i2 : vp_in (nI q) 260 := vp_in_nI (by omega) (by decide)
    have c2 : (nI q).toNatClampNeg = q := nI_clamp (by omega)
    have no : ¬ (¬ a0 r_isStmt q = 0 ∧ a0 r_around q = nI p) → pv_go rq_T52 3 (pv_call rq_mt (d + 3)) P (112, bcM p e af (oI last) i q, [], rs m a) := by
      intro z
      rw [if_neg z] at h
      have g := ih (i + 1) last E _ (by omega) hl (by omega) ⟨m, a, rfl, hR⟩ h [(6, .int (nI q))] (Or.inr ⟨_, rfl⟩)
      refine pv_run [20] 10 ?_
      show pv_go rq_T52 3 (pv_call rq_mt (d + 3)) P (20, [(0, .ref 0), (1, .int (nI p)), (2, .int (nI e)), (3, .int af), (4, .int (oI last)), (5, .int (nI i + 1)), (6, .int (nI q))], [], rs m a)
      rw [nI_1]
      exact g
    have aft : (¬ a0 r_isStmt q = 0 ∧ a0 r_around q = nI p) → ∀ S', RB m0 a0 (if a0 r_isMarked q = 0 then E else enF e (nI (5 * q + 0)) (nI (5 * q + 0)) E) W S' → pv_go rq_T52 3 (pv_call rq_mt (d + 3)) P (86, bcM p e af (oI last) i q, [], S') := by
      intro z S' hS'
      rw [if_pos z] at h
      have hl1 := enF_len e (nI (5 * q + 0)) (nI (5 * q + 0)) E
      have hl2 : (if a0 r_isMarked q = 0 then E else enF e (nI (5 * q + 0)) (nI (5 * q + 0)) E).length ≤ E.length + 2 := by split <;> omega
      refine bc_86 d hl (by omega) af i hS' (by omega) P (fun S2 hS2 => ?_)
      have hl3 := edF_len (last - 1) (nI (5 * q + 0)) 0 (if a0 r_isMarked q = 0 then E else enF e (nI (5 * q + 0)) (nI (5 * q + 0)) E)
      have hl4 : (if last = 0 then (if a0 r_isMarked q = 0 then E else enF e (nI (5 * q + 0)) (nI (5 * q + 0)) E) else edF (last - 1) (nI (5 * q + 0)) 0 (if a0 r_isMarked q = 0 then E else enF e (nI (5 * q + 0)) (nI (5 * q + 0)) E)).length ≤ E.length + 3 := by split <;> omega
      have g := ih (i + 1) (5 * q + 3 + 1) _ S2 (by omega) (by omega) (by omega) hS2 h [(6, .int (nI q))] (Or.inr ⟨_, rfl⟩)
      have g : pv_go rq_T52 3 (pv_call rq_mt (d + 3)) P (20, [(0, .ref 0), (1, .int (nI p)), (2, .int (nI e)), (3, .int af), (4, .int (oI (5 * q + 3 + 1))), (5, .int (nI (i + 1))), (6, .int (nI q))], [], S2) := g
      rw [oI_s (5 * q + 3)] at g
      exact g
    have body : pv_go rq_T52 3 (pv_call rq_mt (d + 3)) P (38, bcM p e af (oI last) i q, [], rs m a) := by
      have q8 : ∀ x : Int32, a r_isStmt (nI q).toNatClampNeg = x ↔ a0 r_isStmt q = x := by intro x; rw [c2, s8]
      have q5 : ∀ x : Int32, a r_around (nI q).toNatClampNeg = x ↔ a0 r_around q = x := by intro x; rw [c2, s5]
      have q13 : ∀ x : Int32, a r_isMarked (nI q).toNatClampNeg = x ↔ a0 r_isMarked q = x := by intro x; rw [c2, s13]
      refine pv_run [112, 86] 60 ?_
      refine And.intro i2 ?_
      refine And.intro (fun z => no (fun u => u.1 ((q8 0).mp z))) (fun z => ?_)
      refine And.intro i2 ?_
      refine And.intro (fun y => ?_) (fun y => no (fun u => y ((q5 (nI p)).mpr u.2)))
      have hz : ¬ a0 r_isStmt q = 0 ∧ a0 r_around q = nI p := ⟨fun u => z ((q8 0).mpr u), (q5 (nI p)).mp y⟩
      refine And.intro i2 ?_
      refine And.intro (fun x => ?_) (fun x => ?_)
      · exact aft hz _ (by rw [if_pos ((q13 0).mp x)]; exact ⟨m, a, rfl, hR⟩)
      · refine rc_pnt (d + 2) (rs m a) q 0 _ ?_
        refine rc_pnt (d + 2) (rs m a) q 0 _ ?_
        refine rc_ends d ⟨m, a, rfl, hR⟩ (by omega) he _ _ _ (fun S' hS' => ?_)
        exact aft hz S' (by rw [if_neg (fun u => x ((q13 0).mpr u))]; exact hS')
    have body' : pv_go rq_T52 3 (pv_call rq_mt (d + 3)) P (38, [(0, .ref 0), (1, .int (nI p)), (2, .int (nI e)), (3, .int af), (4, .int (oI last)), (5, .int (nI i)), (6, .int (a r_byNumber (nI i).toNatClampNeg))], [], rs m a) := by rw [eb]; exact body
    rcases hL with rfl | ⟨x, rfl⟩
    · refine pv_run [38] 20 ?_
      refine And.intro (fun z => absurd z nle) (fun _ => ?_)
      exact And.intro i1 body'
    · refine pv_run [38] 20 ?_
      refine And.intro (fun z => absurd z nle) (fun _ => ?_)
      exact And.intro i1 body'
set_option maxRecDepth 100000 in
theorem rc_buildCases (d : Nat) {N p e : Nat} (hN : N ≤ 260) (hp : p < 260) (he : e < 260) (hs : m0 r_nodes = nI N) (hb : bRow a0 N) (af : Int32) {E : eL_T} {W : wL_T} {S : pv_S} (hS : RB m0 a0 E W S) (hE : E.length + 3 * N + 4 < 9000) (P : pv_R) (h : ∀ S', RB m0 a0 (bcF a0 N p e af E) W S' → P none S') : pv_call rq_mt (d + 4) rq_m_R_buildCases [.ref 0, .int (nI p), .int (nI e), .int af] S P := by
  obtain ⟨m, a, rfl, hR⟩ := hS
  have hl := edF_len (5 * p + 0) (nI (5 * e + 0)) 0 E
  refine pv_call_of rfl rfl rfl (pv_run [20] 40 ?_)
  refine rc_pnt (d + 2) (rs m a) p 0 _ ?_
  refine rc_pnt (d + 2) (rs m a) e 0 _ ?_
  refine rc_go (f := 5 * p + 0) (d + 1) ⟨m, a, rfl, hR⟩ (by omega) (by omega) (nI (5 * e + 0)) _ (fun S' hS' => ?_)
  exact bc_20 d hN hp he hs hb af P N 0 0 _ S' (by omega) (by omega) (by omega) hS' h [] (Or.inl rfl)
end RB8
