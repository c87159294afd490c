theorem rchG_c {a a' : Nat → Nat → Int32} (h45 : a' r_byNumber = a r_byNumber) (h5 : a' r_around = a r_around) (h8 : a' r_isStmt = a r_isStmt) (p s : Int32) : ∀ (j i k : Nat), rchG a' p s j i k = rchG a p s j i k
  | 0, _, _ => rfl
  | j + 1, i, k => by
    unfold rchG
    rw [h45, h5, h8, rchG_c h45 h5 h8 p s j, rchG_c h45 h5 h8 p s j]
theorem rchG_le {a : Nat → Nat → Int32} {N : Nat} (hb : bRow a N) (p s : Int32) : ∀ (j i k : Nat), i + j = N → rchG a p s j i k ≤ N
  | 0, _, _, _ => Nat.zero_le _
  | j + 1, i, k, hi => by
    have h1 := rchG_le hb p s j (i + 1) (k - 1) (by omega)
    have h2 := rchG_le hb p s j (i + 1) k (by omega)
    have h3 := (hb i (by omega)).2
    unfold rchG
    split
    · split
      · omega
      · exact h1
    · exact h2
/-- the edges of an e's node p; c0, c1, c2: its places within (one more) -/
def beF (a : Nat → Nat → Int32) (p c0 c1 c2 : Nat) (E : eL_T) : eL_T :=
  if a r_sort p = 33 then enF (c0 - 1) (nI (5 * p + 2)) (nI (5 * p + 1)) (edF (5 * p + 0) (nI (5 * (c0 - 1) + 0)) 0 E)
  else if a r_sort p = 38 then enF (c1 - 1) (nI (5 * p + 1)) (nI (5 * p + 2)) (enF (c0 - 1) (nI (5 * (c1 - 1) + 0)) (nI (5 * p + 2)) (edF (5 * p + 0) (nI (5 * (c0 - 1) + 0)) 0 E))
  else if a r_sort p = 48 then edF (5 * p + 0) (nI (5 * p + 2)) 0 E
  else if a r_sort p = 49 then edF (5 * p + 0) (nI (5 * p + 1)) 0 E
  else if a r_sort p = 61 then edF (5 * p + 4) (nI (5 * p + 2)) (1 + a r_variable p) (edF (5 * p + 3) (nI (5 * p + 1)) (1 + a r_variable p) (enF (c0 - 1) (nI (5 * p + 3)) (nI (5 * p + 4)) (edF (5 * p + 0) (nI (5 * (c0 - 1) + 0)) 0 E)))
  else if a r_sort p = 63 then enF (c2 - 1) (nI (5 * p + 1)) (nI (5 * p + 2)) (enF (c1 - 1) (nI (5 * p + 1)) (nI (5 * p + 2)) (enF (c0 - 1) (nI (5 * (c1 - 1) + 0)) (nI (5 * (c2 - 1) + 0)) (edF (5 * p + 0) (nI (5 * (c0 - 1) + 0)) 0 E)))
  else if a r_sort p = 124 then enF (c1 - 1) (nI (5 * p + 1)) (nI (5 * p + 2)) (enF (c0 - 1) (nI (5 * p + 1)) (nI (5 * (c1 - 1) + 0)) (edF (5 * p + 0) (nI (5 * (c0 - 1) + 0)) 0 E))
  else edF (5 * p + 0) (nI (5 * p + 2)) 0 (edF (5 * p + 0) (nI (5 * p + 1)) 0 E)
theorem enF_len (p : Nat) (t f : Int32) (E : eL_T) : (enF p t f E).length ≤ E.length + 2 := by
  unfold enF
  have h1 := edF_len (5 * p + 2) f 0 (edF (5 * p + 1) t 0 E)
  have h2 := edF_len (5 * p + 1) t 0 E
  omega
section RB6
variable {m0 : Nat → Int32} {a0 : Nat → Nat → Int32}
abbrev beL (p : Nat) (x y : Int32) : pv_L := [(0, .ref 0), (1, .int (nI p)), (2, .int (nI (5 * p + 0))), (3, .int (nI (5 * p + 1))), (4, .int (nI (5 * p + 2))), (5, .int x), (6, .int y)]
set_option maxRecDepth 100000 in
theorem be_37 (d : Nat) {N p c0 c1 c2 : Nat} (hN : N ≤ 260) (hp : p < N) (hs : m0 r_nodes = nI N) (hb : bRow a0 N) (h0N : c0 ≤ N) (h1N : c1 ≤ N) (h2N : c2 ≤ N) (e2 : c2 = rchG a0 (nI p) 0 N 0 2)
    (g1 : (a0 r_sort p = 33 ∨ a0 r_sort p = 61 ∨ a0 r_sort p = 38 ∨ a0 r_sort p = 124 ∨ a0 r_sort p = 63) → 1 ≤ c0) (g2 : (a0 r_sort p = 38 ∨ a0 r_sort p = 124 ∨ a0 r_sort p = 63) → 1 ≤ c1) (g3 : a0 r_sort p = 63 → 1 ≤ c2)
    {E : eL_T} {W : wL_T} {S : pv_S} (hS : RB m0 a0 E W S) (hE : E.length + 8 < 9000) (P : pv_R) (h : ∀ S', RB m0 a0 (beF a0 p c0 c1 c2 E) W S' → P none S') : pv_go rq_T53 3 (pv_call rq_mt (d + 3)) P (37, beL p (oI c0) (oI c1), [], S) := by
  obtain ⟨m, a, rfl, hR⟩ := hS
  have s3 : a r_sort = a0 r_sort := hR.1.2 3 (by omega)
  have i1 : vp_in (nI p) 260 := vp_in_nI (by omega) (by decide)
  have cp : (nI p).toNatClampNeg = p := nI_clamp (by omega)
  have eq : ∀ x : Int32, a r_sort (nI p).toNatClampNeg = x ↔ a0 r_sort p = x := by intro x; rw [cp, s3]
  unfold beF at h
  have L1 := edF_len (5 * p + 0) (nI (5 * (c0 - 1) + 0)) 0 E
  -- the first step: to the first e within
  have one : ∀ (pc : Nat) (q : Nat), c0 = q + 1 → True := fun _ _ _ => trivial
  refine pv_run [127, 150, 187, 223, 282, 349] 40 ?_
  refine And.intro i1 ?_
  refine And.intro (fun z => ?_) (fun z33 => ?_)
  · rw [if_pos ((eq 33).mp z)] at h
    obtain ⟨q, rfl⟩ := Nat.exists_eq_add_of_le' (g1 (Or.inl ((eq 33).mp z)))
    rw [show q + 1 - 1 = q from rfl] at h L1
    show pv_go rq_T53 3 (pv_call rq_mt (d + 3)) P (127, [(0, .ref 0), (1, .int (nI p)), (2, .int (nI (5 * p + 0))), (3, .int (nI (5 * p + 1))), (4, .int (nI (5 * p + 2))), (5, .int (oI (q + 1))), (6, .int (oI c1))], [], rs m a)
    rw [oI_s q]
    refine pv_run [] 40 ?_
    refine rc_pnt (d + 2) (rs m a) q 0 _ ?_
    refine rc_go (f := 5 * p + 0) (d + 1) ⟨m, a, rfl, hR⟩ (by omega) (by omega) (nI (5 * q + 0)) _ (fun S1 hS1 => ?_)
    obtain ⟨m1, a1, rfl, hR1⟩ := hS1
    exact rc_ends d ⟨m1, a1, rfl, hR1⟩ (by omega) (by omega) _ _ _ h
  rw [if_neg (fun e => z33 ((eq 33).mpr e))] at h
  refine And.intro (fun z => ?_) (fun z38 => ?_)
  · rw [if_pos ((eq 38).mp z)] at h
    obtain ⟨q, rfl⟩ := Nat.exists_eq_add_of_le' (g1 (Or.inr (Or.inr (Or.inl ((eq 38).mp z)))))
    obtain ⟨r, rfl⟩ := Nat.exists_eq_add_of_le' (g2 (Or.inl ((eq 38).mp z)))
    rw [show q + 1 - 1 = q from rfl] at h L1
    rw [show r + 1 - 1 = r from rfl] at h
    show pv_go rq_T53 3 (pv_call rq_mt (d + 3)) P (150, [(0, .ref 0), (1, .int (nI p)), (2, .int (nI (5 * p + 0))), (3, .int (nI (5 * p + 1))), (4, .int (nI (5 * p + 2))), (5, .int (oI (q + 1))), (6, .int (oI (r + 1)))], [], rs m a)
    rw [oI_s q, oI_s r]
    refine pv_run [] 60 ?_
    refine rc_pnt (d + 2) (rs m a) q 0 _ ?_
    refine rc_go (f := 5 * p + 0) (d + 1) ⟨m, a, rfl, hR⟩ (by omega) (by omega) (nI (5 * q + 0)) _ (fun S1 hS1 => ?_)
    obtain ⟨m1, a1, rfl, hR1⟩ := hS1
    refine rc_pnt (d + 2) (rs m1 a1) r 0 _ ?_
    have L2 := enF_len q (nI (5 * r + 0)) (nI (5 * p + 2)) (edF (5 * p + 0) (nI (5 * q + 0)) 0 E)
    refine rc_ends d ⟨m1, a1, rfl, hR1⟩ (by omega) (by omega) _ _ _ (fun S2 hS2 => ?_)
    obtain ⟨m2, a2, rfl, hR2⟩ := hS2
    exact rc_ends d ⟨m2, a2, rfl, hR2⟩ (by omega) (by omega) _ _ _ h
  rw [if_neg (fun e => z38 ((eq 38).mpr e))] at h
  refine And.intro (fun z => ?_) (fun z48 => ?_)
  · rw [if_pos ((eq 48).mp z)] at h
    exact rc_go (f := 5 * p + 0) (d + 1) ⟨m, a, rfl, hR⟩ (by omega) (by omega) _ _ h
  rw [if_neg (fun e => z48 ((eq 48).mpr e))] at h
  refine And.intro (fun z => ?_) (fun z49 => ?_)
  · rw [if_pos ((eq 49).mp z)] at h
    exact rc_go (f := 5 * p + 0) (d + 1) ⟨m, a, rfl, hR⟩ (by omega) (by omega) _ _ h
  rw [if_neg (fun e => z49 ((eq 49).mpr e))] at h
  refine And.intro (fun z => ?_) (fun z61 => ?_)
  · rw [if_pos ((eq 61).mp z)] at h
    obtain ⟨q, rfl⟩ := Nat.exists_eq_add_of_le' (g1 (Or.inr (Or.inl ((eq 61).mp z))))
    rw [show q + 1 - 1 = q from rfl] at h L1
    show pv_go rq_T53 3 (pv_call rq_mt (d + 3)) P (282, [(0, .ref 0), (1, .int (nI p)), (2, .int (nI (5 * p + 0))), (3, .int (nI (5 * p + 1))), (4, .int (nI (5 * p + 2))), (5, .int (oI (q + 1))), (6, .int (oI c1))], [], rs m a)
    rw [oI_s q]
    refine pv_run [] 60 ?_
    refine rc_pnt (d + 2) (rs m a) q 0 _ ?_
    refine rc_go (f := 5 * p + 0) (d + 1) ⟨m, a, rfl, hR⟩ (by omega) (by omega) (nI (5 * q + 0)) _ (fun S1 hS1 => ?_)
    obtain ⟨m1, a1, rfl, hR1⟩ := hS1
    refine rc_pnt (d + 2) (rs m1 a1) p 3 _ ?_
    refine rc_pnt (d + 2) (rs m1 a1) p 4 _ ?_
    have L2 := enF_len q (nI (5 * p + 3)) (nI (5 * p + 4)) (edF (5 * p + 0) (nI (5 * q + 0)) 0 E)
    refine rc_ends d ⟨m1, a1, rfl, hR1⟩ (by omega) (by omega) _ _ _ (fun S2 hS2 => ?_)
    obtain ⟨m2, a2, rfl, hR2⟩ := hS2
    have s7 : a2 r_variable = a0 r_variable := hR2.1.2 7 (by omega)
    refine rc_pnt (d + 2) (rs m2 a2) p 3 _ ?_
    refine And.intro i1 ?_
    refine rc_edge (f := 5 * p + 3) (d + 2) ⟨m2, a2, rfl, hR2⟩ (by omega) (by omega) (nI (5 * p + 1)) (1 + a2 r_variable (nI p).toNatClampNeg) _ (fun S3 hS3 => ?_)
    rw [cp, s7] at hS3
    have L3 := edF_len (5 * p + 3) (nI (5 * p + 1)) (1 + a0 r_variable p) (enF q (nI (5 * p + 3)) (nI (5 * p + 4)) (edF (5 * p + 0) (nI (5 * q + 0)) 0 E))
    obtain ⟨m3, a3, rfl, hR3⟩ := hS3
    have s7' : a3 r_variable = a0 r_variable := hR3.1.2 7 (by omega)
    refine rc_pnt (d + 2) (rs m3 a3) p 4 _ ?_
    refine And.intro i1 ?_
    refine rc_edge (f := 5 * p + 4) (d + 2) ⟨m3, a3, rfl, hR3⟩ (by omega) (by omega) (nI (5 * p + 2)) (1 + a3 r_variable (nI p).toNatClampNeg) _ (fun S4 hS4 => ?_)
    rw [cp, s7'] at hS4
    exact h S4 hS4
  rw [if_neg (fun e => z61 ((eq 61).mpr e))] at h
  refine And.intro (fun z => ?_) (fun z63 => ?_)
  · rw [if_pos ((eq 63).mp z)] at h
    obtain ⟨q, rfl⟩ := Nat.exists_eq_add_of_le' (g1 (Or.inr (Or.inr (Or.inr (Or.inr ((eq 63).mp z))))))
    obtain ⟨r, rfl⟩ := Nat.exists_eq_add_of_le' (g2 (Or.inr (Or.inr ((eq 63).mp z))))
    obtain ⟨u, hu⟩ := Nat.exists_eq_add_of_le' (g3 ((eq 63).mp z))
    rw [show q + 1 - 1 = q from rfl] at h L1
    rw [show r + 1 - 1 = r from rfl, hu, show u + 1 - 1 = u from rfl] at h
    have eu : rchG a (nI p) 0 N 0 2 = u + 1 := by
      rw [rchG_c (hR.1.2 45 (by omega)) (hR.1.2 5 (by omega)) (hR.1.2 8 (by omega)), ← e2, hu]
    show pv_go rq_T53 3 (pv_call rq_mt (d + 3)) P (223, [(0, .ref 0), (1, .int (nI p)), (2, .int (nI (5 * p + 0))), (3, .int (nI (5 * p + 1))), (4, .int (nI (5 * p + 2))), (5, .int (oI (q + 1))), (6, .int (oI (r + 1)))], [], rs m a)
    rw [oI_s q, oI_s r]
    refine pv_run [232] 40 ?_
    refine rc_child (d + 2) m a (k := 2) hN ((hR.1.1 2 (by omega)).trans hs) (by intro i hi; rw [hR.1.2 45 (by omega)]; exact hb i hi) (by omega) (nI p) 0 _ ?_
    rw [eu, oI_s u]
    refine pv_run [] 60 ?_
    refine rc_pnt (d + 2) (rs m a) q 0 _ ?_
    refine rc_go (f := 5 * p + 0) (d + 1) ⟨m, a, rfl, hR⟩ (by omega) (by omega) (nI (5 * q + 0)) _ (fun S1 hS1 => ?_)
    obtain ⟨m1, a1, rfl, hR1⟩ := hS1
    refine rc_pnt (d + 2) (rs m1 a1) r 0 _ ?_
    refine rc_pnt (d + 2) (rs m1 a1) u 0 _ ?_
    have L2 := enF_len q (nI (5 * r + 0)) (nI (5 * u + 0)) (edF (5 * p + 0) (nI (5 * q + 0)) 0 E)
    refine rc_ends d ⟨m1, a1, rfl, hR1⟩ (by omega) (by omega) _ _ _ (fun S2 hS2 => ?_)
    obtain ⟨m2, a2, rfl, hR2⟩ := hS2
    have L3 := enF_len r (nI (5 * p + 1)) (nI (5 * p + 2)) (enF q (nI (5 * r + 0)) (nI (5 * u + 0)) (edF (5 * p + 0) (nI (5 * q + 0)) 0 E))
    refine rc_ends d ⟨m2, a2, rfl, hR2⟩ (by omega) (by omega) _ _ _ (fun S3 hS3 => ?_)
    obtain ⟨m3, a3, rfl, hR3⟩ := hS3
    exact rc_ends d ⟨m3, a3, rfl, hR3⟩ (by omega) (by omega) _ _ _ h
  rw [if_neg (fun e => z63 ((eq 63).mpr e))] at h
  refine And.intro (fun z => ?_) (fun z124 => ?_)
  · rw [if_pos ((eq 124).mp z)] at h
    obtain ⟨q, rfl⟩ := Nat.exists_eq_add_of_le' (g1 (Or.inr (Or.inr (Or.inr (Or.inl ((eq 124).mp z))))))
    obtain ⟨r, rfl⟩ := Nat.exists_eq_add_of_le' (g2 (Or.inr (Or.inl ((eq 124).mp z))))
    rw [show q + 1 - 1 = q from rfl] at h L1
    rw [show r + 1 - 1 = r from rfl] at h
    show pv_go rq_T53 3 (pv_call rq_mt (d + 3)) P (187, [(0, .ref 0), (1, .int (nI p)), (2, .int (nI (5 * p + 0))), (3, .int (nI (5 * p + 1))), (4, .int (nI (5 * p + 2))), (5, .int (oI (q + 1))), (6, .int (oI (r + 1)))], [], rs m a)
    rw [oI_s q, oI_s r]
    refine pv_run [] 60 ?_
    refine rc_pnt (d + 2) (rs m a) q 0 _ ?_
    refine rc_go (f := 5 * p + 0) (d + 1) ⟨m, a, rfl, hR⟩ (by omega) (by omega) (nI (5 * q + 0)) _ (fun S1 hS1 => ?_)
    obtain ⟨m1, a1, rfl, hR1⟩ := hS1
    refine rc_pnt (d + 2) (rs m1 a1) r 0 _ ?_
    have L2 := enF_len q (nI (5 * p + 1)) (nI (5 * r + 0)) (edF (5 * p + 0) (nI (5 * q + 0)) 0 E)
    refine rc_ends d ⟨m1, a1, rfl, hR1⟩ (by omega) (by omega) _ _ _ (fun S2 hS2 => ?_)
    obtain ⟨m2, a2, rfl, hR2⟩ := hS2
    exact rc_ends d ⟨m2, a2, rfl, hR2⟩ (by omega) (by omega) _ _ _ h
  rw [if_neg (fun e => z124 ((eq 124).mpr e))] at h
  show pv_go rq_T53 3 (pv_call rq_mt (d + 3)) P (349, beL p (oI c0) (oI c1), [], rs m a)
  have L2 := edF_len (5 * p + 0) (nI (5 * p + 1)) 0 E
  refine pv_run [] 40 ?_
  refine rc_go (f := 5 * p + 0) (d + 1) ⟨m, a, rfl, hR⟩ (by omega) (by omega) (nI (5 * p + 1)) _ (fun S1 hS1 => ?_)
  obtain ⟨m1, a1, rfl, hR1⟩ := hS1
  exact rc_go (f := 5 * p + 0) (d + 1) ⟨m1, a1, rfl, hR1⟩ (by omega) (by omega) _ _ h
set_option maxRecDepth 100000 in
theorem rc_buildE (d : Nat) {N p : Nat} (hN : N ≤ 260) (hp : p < N) (hs : m0 r_nodes = nI N) (hb : bRow a0 N)
    (g1 : (a0 r_sort p = 33 ∨ a0 r_sort p = 61 ∨ a0 r_sort p = 38 ∨ a0 r_sort p = 124 ∨ a0 r_sort p = 63) → 1 ≤ rchG a0 (nI p) 0 N 0 0) (g2 : (a0 r_sort p = 38 ∨ a0 r_sort p = 124 ∨ a0 r_sort p = 63) → 1 ≤ rchG a0 (nI p) 0 N 0 1) (g3 : a0 r_sort p = 63 → 1 ≤ rchG a0 (nI p) 0 N 0 2)
    {E : eL_T} {W : wL_T} {S : pv_S} (hS : RB m0 a0 E W S) (hE : E.length + 8 < 9000) (P : pv_R) (h : ∀ S', RB m0 a0 (beF a0 p (rchG a0 (nI p) 0 N 0 0) (rchG a0 (nI p) 0 N 0 1) (rchG a0 (nI p) 0 N 0 2) E) W S' → P none S') : pv_call rq_mt (d + 4) rq_m_R_buildE [.ref 0, .int (nI p)] S P := by
  obtain ⟨m, a, rfl, hR⟩ := hS
  have hsm : m r_nodes = nI N := (hR.1.1 2 (by omega)).trans hs
  have hba : bRow a N := by intro i hi; rw [hR.1.2 45 (by omega)]; exact hb i hi
  have ec := rchG_c (hR.1.2 45 (by omega)) (hR.1.2 5 (by omega)) (hR.1.2 8 (by omega)) (nI p) 0 N 0
  refine pv_call_of rfl rfl rfl (pv_run [37] 60 ?_)
  refine rc_pnt (d + 2) (rs m a) p 0 _ ?_
  refine rc_pnt (d + 2) (rs m a) p 1 _ ?_
  refine rc_pnt (d + 2) (rs m a) p 2 _ ?_
  refine rc_child (d + 2) m a (k := 0) hN hsm hba (by omega) (nI p) 0 _ ?_
  refine rc_child (d + 2) m a (k := 1) hN hsm hba (by omega) (nI p) 0 _ ?_
  rw [ec, ec]
  exact be_37 d hN hp hs hb (rchG_le hb _ _ N 0 0 (by omega)) (rchG_le hb _ _ N 0 1 (by omega)) (rchG_le hb _ _ N 0 2 (by omega)) rfl g1 g2 g3 ⟨m, a, rfl, hR⟩ hE P h
end RB6
