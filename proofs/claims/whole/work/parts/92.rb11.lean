section RB11
variable {m0 : Nat → Int32} {a0 : Nat → Nat → Int32}
/-- what a statement's children must be -/
def chOK (a : Nat → Nat → Int32) (N p : Nat) : Prop :=
  ((a r_sort p = 59 ∨ a r_sort p = 68 ∨ a r_sort p = 70 ∨ a r_sort p = 73 ∨ a r_sort p = 83 ∨ a r_sort p = 87) → 1 ≤ rchG a (nI p) 0 N 0 0)
  ∧ ((a r_sort p = 58 ∨ a r_sort p = 68 ∨ a r_sort p = 70 ∨ a r_sort p = 73 ∨ a r_sort p = 87) → 1 ≤ rchG a (nI p) 1 N 0 0)
  ∧ (a r_sort p = 70 → 1 ≤ rchG a (nI p) 0 N 0 1)
  ∧ ((a r_sort p = 66 ∨ a r_sort p = 67) → a r_target p = nI (dN (a r_target p)) ∧ dN (a r_target p) < 260)
def knS (s : Int32) : Prop := s = 36 ∨ s = 37 ∨ s = 58 ∨ s = 59 ∨ s = 68 ∨ s = 70 ∨ s = 73 ∨ s = 83 ∨ s = 84 ∨ s = 87 ∨ s = 123 ∨ s = 82 ∨ s = 88 ∨ s = 66 ∨ s = 67
set_option maxRecDepth 100000 in
set_option maxHeartbeats 1000000 in
theorem bs_30 (d : Nat) {N p k c0 o0 c1 o1 : Nat} (hN : N ≤ 260) (hp : p < N) (hs : m0 r_nodes = nI N) (hb : bRow a0 N) (hk : lnA a0 k (a0 r_around p)) (hsr : knS (a0 r_sort p)) (hch : chOK a0 N p) (ec0 : c0 = rchG a0 (nI p) 0 N 0 0) (eo0 : o0 = rchG a0 (nI p) 1 N 0 0) (ec1 : c1 = rchG a0 (nI p) 0 N 0 1) (eo1 : o1 = rchG a0 (nI p) 1 N 0 1) {E : eL_T} {W : wL_T} (hW : wOK W) {S : pv_S} (hS : RB m0 a0 E W S) (hE : E.length + 3 * N + 8 < 9000) (P : pv_R) (h : ∀ S', RB m0 a0 (bsF a0 N k p c0 o0 c1 o1 E W).1 (bsF a0 N k p c0 o0 c1 o1 E W).2 S' → P none S') : pv_go rq_T51 3 (pv_call rq_mt (d + 4)) P (30, bsL p (oI c0) (oI o0), [], S) := by
  have b0 : c0 ≤ N := by rw [ec0]; exact rchG_le hb _ _ N 0 0 (by omega)
  have b1 : o0 ≤ N := by rw [eo0]; exact rchG_le hb _ _ N 0 0 (by omega)
  have b2 : c1 ≤ N := by rw [ec1]; exact rchG_le hb _ _ N 0 1 (by omega)
  obtain ⟨h1, h2, h3, h4⟩ := hch
  rw [← ec0] at h1
  rw [← eo0] at h2
  rw [← ec1] at h3
  have hp2 : p < 260 := by omega
  obtain ⟨m, a, rfl, hR⟩ := hS
  have i1 : vp_in (nI p) 260 := vp_in_nI (by omega) (by decide)
  have cp : (nI p).toNatClampNeg = p := nI_clamp (by omega)
  have eq : ∀ x : Int32, a r_sort (nI p).toNatClampNeg = x ↔ a0 r_sort p = x := by intro x; rw [cp, hR.1.2 3 (by omega)]
  have hS : RB m0 a0 E W (rs m a) := ⟨m, a, rfl, hR⟩
  unfold bsF at h
  refine pv_run [136, 158, 176, 187, 212, 291, 334, 377, 447, 458, 548] 40 ?_
  refine And.intro i1 ?_
  refine And.intro (fun z => ?_) (fun z36 => ?_)
  · rw [if_pos (Or.inl ((eq 36).mp z))] at h
    exact bs_158 d (oI c0) (oI o0) hp2 hS (by omega) P h
  have z36 := fun e => z36 ((eq 36).mpr e)
  refine And.intro (fun z => ?_) (fun z37 => ?_)
  · rw [if_pos (Or.inr ((eq 37).mp z))] at h
    exact bs_158 d (oI c0) (oI o0) hp2 hS (by omega) P h
  have z37 := fun e => z37 ((eq 37).mpr e)
  rw [if_neg (fun e => e.elim z36 z37)] at h
  refine And.intro (fun z => ?_) (fun z58 => ?_)
  · have z := (eq 58).mp z
    rw [if_pos z] at h
    obtain ⟨r, rfl⟩ := Nat.exists_eq_add_of_le' (h2 (Or.inl z))
    rw [show r + 1 - 1 = r from rfl] at h
    have g := bs_187 d (oI c0) hp2 (by omega) hS (by omega) P h
    show pv_go rq_T51 3 (pv_call rq_mt (d + 4)) P (187, [(0, .ref 0), (1, .int (nI p)), (2, .int (nI (5 * p + 0))), (3, .int (nI (5 * p + 3))), (4, .int (oI c0)), (5, .int (oI (r + 1)))], [], rs m a)
    rw [oI_s r]
    exact g
  have z58 := fun e => z58 ((eq 58).mpr e)
  rw [if_neg z58] at h
  refine And.intro (fun z => ?_) (fun z59 => ?_)
  · have z := (eq 59).mp z
    rw [if_pos z] at h
    obtain ⟨q, rfl⟩ := Nat.exists_eq_add_of_le' (h1 (Or.inl z))
    rw [show q + 1 - 1 = q from rfl] at h
    have g := bs_136 d (oI o0) hp2 (by omega) hS (by omega) P h
    show pv_go rq_T51 3 (pv_call rq_mt (d + 4)) P (136, [(0, .ref 0), (1, .int (nI p)), (2, .int (nI (5 * p + 0))), (3, .int (nI (5 * p + 3))), (4, .int (oI (q + 1))), (5, .int (oI o0))], [], rs m a)
    rw [oI_s q]
    exact g
  have z59 := fun e => z59 ((eq 59).mpr e)
  rw [if_neg z59] at h
  refine And.intro (fun z => ?_) (fun z68 => ?_)
  · have z := (eq 68).mp z
    rw [if_pos z] at h
    obtain ⟨q, rfl⟩ := Nat.exists_eq_add_of_le' (h1 (Or.inr (Or.inl z)))
    obtain ⟨r, rfl⟩ := Nat.exists_eq_add_of_le' (h2 (Or.inr (Or.inl z)))
    rw [show q + 1 - 1 = q from rfl, show r + 1 - 1 = r from rfl] at h
    have g := bs_334 d hp2 (by omega) (by omega) hS (by omega) P h
    show pv_go rq_T51 3 (pv_call rq_mt (d + 4)) P (334, [(0, .ref 0), (1, .int (nI p)), (2, .int (nI (5 * p + 0))), (3, .int (nI (5 * p + 3))), (4, .int (oI (q + 1))), (5, .int (oI (r + 1)))], [], rs m a)
    rw [oI_s q, oI_s r]
    exact g
  have z68 := fun e => z68 ((eq 68).mpr e)
  rw [if_neg z68] at h
  refine And.intro (fun z => ?_) (fun z70 => ?_)
  · have z := (eq 70).mp z
    rw [if_pos z] at h
    obtain ⟨q, rfl⟩ := Nat.exists_eq_add_of_le' (h1 (Or.inr (Or.inr (Or.inl z))))
    obtain ⟨r, rfl⟩ := Nat.exists_eq_add_of_le' (h2 (Or.inr (Or.inr (Or.inl z))))
    obtain ⟨u, rfl⟩ := Nat.exists_eq_add_of_le' (h3 z)
    rw [show q + 1 - 1 = q from rfl, show r + 1 - 1 = r from rfl, show u + 1 - 1 = u from rfl] at h
    have g := bs_377 d hN hs hb hp2 (by omega) (by omega) (by omega) ec1.symm hS (by omega) P h
    show pv_go rq_T51 3 (pv_call rq_mt (d + 4)) P (377, [(0, .ref 0), (1, .int (nI p)), (2, .int (nI (5 * p + 0))), (3, .int (nI (5 * p + 3))), (4, .int (oI (q + 1))), (5, .int (oI (r + 1)))], [], rs m a)
    rw [oI_s q, oI_s r]
    exact g
  have z70 := fun e => z70 ((eq 70).mpr e)
  rw [if_neg z70] at h
  refine And.intro (fun z => ?_) (fun z73 => ?_)
  · have z := (eq 73).mp z
    rw [if_pos z] at h
    obtain ⟨q, rfl⟩ := Nat.exists_eq_add_of_le' (h1 (Or.inr (Or.inr (Or.inr (Or.inl z)))))
    obtain ⟨r, rfl⟩ := Nat.exists_eq_add_of_le' (h2 (Or.inr (Or.inr (Or.inr (Or.inl z)))))
    have g := bs_212 d hN hs hb hp2 (by omega) (by omega) eo1.symm hS (by omega) P h
    show pv_go rq_T51 3 (pv_call rq_mt (d + 4)) P (212, [(0, .ref 0), (1, .int (nI p)), (2, .int (nI (5 * p + 0))), (3, .int (nI (5 * p + 3))), (4, .int (oI (q + 1))), (5, .int (oI (r + 1)))], [], rs m a)
    rw [oI_s q, oI_s r]
    exact g
  have z73 := fun e => z73 ((eq 73).mpr e)
  rw [if_neg z73] at h
  refine And.intro (fun z => ?_) (fun z83 => ?_)
  · have z := (eq 83).mp z
    rw [if_pos z] at h
    obtain ⟨q, rfl⟩ := Nat.exists_eq_add_of_le' (h1 (Or.inr (Or.inr (Or.inr (Or.inr (Or.inl z))))))
    rw [show q + 1 - 1 = q from rfl] at h
    have g := bs_447 d (oI o0) hN hp2 (by omega) hs hb hS (by omega) P h
    show pv_go rq_T51 3 (pv_call rq_mt (d + 4)) P (447, [(0, .ref 0), (1, .int (nI p)), (2, .int (nI (5 * p + 0))), (3, .int (nI (5 * p + 3))), (4, .int (oI (q + 1))), (5, .int (oI o0))], [], rs m a)
    rw [oI_s q]
    exact g
  have z83 := fun e => z83 ((eq 83).mpr e)
  rw [if_neg z83] at h
  refine And.intro (fun z => ?_) (fun z84 => ?_)
  · have z := (eq 84).mp z
    rw [if_pos z] at h
    exact bs_458 d (oI c0) (oI o0) hN hp2 hs hb hW hS (by omega) P h
  have z84 := fun e => z84 ((eq 84).mpr e)
  rw [if_neg z84] at h
  refine And.intro (fun z => ?_) (fun z87 => ?_)
  · have z := (eq 87).mp z
    rw [if_pos z] at h
    obtain ⟨q, rfl⟩ := Nat.exists_eq_add_of_le' (h1 (Or.inr (Or.inr (Or.inr (Or.inr (Or.inr z))))))
    obtain ⟨r, rfl⟩ := Nat.exists_eq_add_of_le' (h2 (Or.inr (Or.inr (Or.inr (Or.inr z)))))
    rw [show q + 1 - 1 = q from rfl, show r + 1 - 1 = r from rfl] at h
    have g := bs_291 d hp2 (by omega) (by omega) hS (by omega) P h
    show pv_go rq_T51 3 (pv_call rq_mt (d + 4)) P (291, [(0, .ref 0), (1, .int (nI p)), (2, .int (nI (5 * p + 0))), (3, .int (nI (5 * p + 3))), (4, .int (oI (q + 1))), (5, .int (oI (r + 1)))], [], rs m a)
    rw [oI_s q, oI_s r]
    exact g
  have z87 := fun e => z87 ((eq 87).mpr e)
  rw [if_neg z87] at h
  refine And.intro (fun z => ?_) (fun z123 => ?_)
  · have z := (eq 123).mp z
    rw [if_pos z] at h
    exact bs_176 d (oI c0) (oI o0) hN hp2 hs hb hS (by omega) P h
  have z123 := fun e => z123 ((eq 123).mpr e)
  rw [if_neg z123] at h
  refine bs_548 d (oI o0) hN hp hs hb hk (fun n1 n2 => h4 ?_) b0 hW hS (by omega) P h
  rcases hsr with e | e | e | e | e | e | e | e | e | e | e | e | e | e | e
  · exact absurd e z36
  · exact absurd e z37
  · exact absurd e z58
  · exact absurd e z59
  · exact absurd e z68
  · exact absurd e z70
  · exact absurd e z73
  · exact absurd e z83
  · exact absurd e z84
  · exact absurd e z87
  · exact absurd e z123
  · exact absurd e n1
  · exact absurd e n2
  · exact Or.inl e
  · exact Or.inr e
set_option maxRecDepth 100000 in
theorem rc_buildStmt (d : Nat) {N p k : Nat} (hN : N ≤ 260) (hp : p < N) (hs : m0 r_nodes = nI N) (hb : bRow a0 N) (hk : lnA a0 k (a0 r_around p)) (hsr : knS (a0 r_sort p)) (hch : chOK a0 N p) {E : eL_T} {W : wL_T} (hW : wOK W) {S : pv_S} (hS : RB m0 a0 E W S) (hE : E.length + 3 * N + 8 < 9000) (P : pv_R) (h : ∀ S', RB m0 a0 (bsF a0 N k p (rchG a0 (nI p) 0 N 0 0) (rchG a0 (nI p) 1 N 0 0) (rchG a0 (nI p) 0 N 0 1) (rchG a0 (nI p) 1 N 0 1) E W).1 (bsF a0 N k p (rchG a0 (nI p) 0 N 0 0) (rchG a0 (nI p) 1 N 0 0) (rchG a0 (nI p) 0 N 0 1) (rchG a0 (nI p) 1 N 0 1) E W).2 S' → P none S') : pv_call rq_mt (d + 5) rq_m_R_buildStmt [.ref 0, .int (nI p)] S P := by
  have g := bs_30 d hN hp hs hb hk hsr hch rfl rfl rfl rfl hW hS hE P h
  obtain ⟨m, a, rfl, hR⟩ := hS
  have hsm : m r_nodes = nI N := (hR.1.1 2 (by omega)).trans hs
  have hba : bRow a N := by intro i hi; rw [hR.1.2 45 (by omega)]; exact hb i hi
  have ec := fun s => rchG_c (hR.1.2 45 (by omega)) (hR.1.2 5 (by omega)) (hR.1.2 8 (by omega)) (nI p) s N 0
  refine pv_call_of rfl rfl rfl (pv_run [30] 60 ?_)
  refine rc_pnt (d + 3) (rs m a) p 0 _ ?_
  refine rc_pnt (d + 3) (rs m a) p 3 _ ?_
  refine rc_child (d + 3) m a (k := 0) hN hsm hba (by omega) (nI p) 0 _ ?_
  refine rc_child (d + 3) m a (k := 0) hN hsm hba (by omega) (nI p) 1 _ ?_
  rw [ec, ec]
  exact g
end RB11
