def triF (a : Nat → Nat → Int32) : Nat → Int32 → Prop
  | 0, _ => False
  | k + 1, x => a r_sort (dN x) = 84 ∨ triF a k (a r_around (dN x))
/-- the cases of S p with e: the last end so far (one more; 0: none) -/
def bcG (a : Nat → Nat → Int32) (p e : Nat) : Nat → Nat → Nat → eL_T → Nat × eL_T
  | 0, _, last, E => (last, E)
  | j + 1, i, last, E =>
    if ¬ a r_isStmt (dN (a r_byNumber i)) = 0 ∧ a r_around (dN (a r_byNumber i)) = nI p then
      bcG a p e j (i + 1) (5 * dN (a r_byNumber i) + 3 + 1)
        (if last = 0 then (if a r_isMarked (dN (a r_byNumber i)) = 0 then E else enF e (nI (5 * dN (a r_byNumber i) + 0)) (nI (5 * dN (a r_byNumber i) + 0)) E)
        else edF (last - 1) (nI (5 * dN (a r_byNumber i) + 0)) 0 (if a r_isMarked (dN (a r_byNumber i)) = 0 then E else enF e (nI (5 * dN (a r_byNumber i) + 0)) (nI (5 * dN (a r_byNumber i) + 0)) E))
    else bcG a p e j (i + 1) last E
def bcT (a : Nat → Nat → Int32) (p e : Nat) (af : Int32) (E : eL_T) : eL_T := if ¬ a r_tailMarked p = 0 ∨ a r_hasOther p = 0 then enF e af af E else E
def bcF (a : Nat → Nat → Int32) (N p e : Nat) (af : Int32) (E : eL_T) : eL_T :=
  bcT a p e af (if (bcG a p e N 0 0 (edF (5 * p + 0) (nI (5 * e + 0)) 0 E)).1 = 0 then (bcG a p e N 0 0 (edF (5 * p + 0) (nI (5 * e + 0)) 0 E)).2 else edF ((bcG a p e N 0 0 (edF (5 * p + 0) (nI (5 * e + 0)) 0 E)).1 - 1) af 0 (bcG a p e N 0 0 (edF (5 * p + 0) (nI (5 * e + 0)) 0 E)).2)
section RB7
variable {m0 : Nat → Int32} {a0 : Nat → Nat → Int32}
set_option maxRecDepth 100000 in
theorem tr_7 (d : Nat) (m : Nat → Int32) (a : Nat → Nat → Int32) (p : Nat) (P : pv_R) : ∀ (k : Nat) (x : Int32), lnA a k x → (triF a k x → P (some (.int 1)) (rs m a)) → (¬ triF a k x → P (some (.int 0)) (rs m a)) → pv_go rq_T50 1 (pv_call rq_mt d) P (7, [(0, .ref 0), (1, .int (nI p)), (2, .int x)], [], rs m a) := by
  intro k
  induction k with
  | zero =>
    intro x hx h1 h0
    have hx : x = -1 := hx
    subst hx
    have g : pv_go rq_T50 1 (pv_call rq_mt d) P (33, [(0, .ref 0), (1, .int (nI p)), (2, .int (-1))], [], rs m a) := by
      refine pv_run [] 20 ?_
      exact And.intro (fun _ => And.intro (Or.inl rfl) (h0 id)) (fun q => absurd rfl q)
    refine pv_run [33] 20 ?_
    exact And.intro (fun _ => g) (fun q => absurd rfl q)
  | succ k ih =>
    intro x hx h1 h0
    obtain ⟨q, ⟨rfl, hq⟩, hx2⟩ := hx
    have ed : dN (nI q) = q := nI_clamp (by omega)
    have i1 : vp_in (nI q) 260 := vp_in_nI (by omega) (by decide)
    have c1 : (nI q).toNatClampNeg = q := nI_clamp (by omega)
    have ne : ¬ nI q = -1 := nI_ne_m1 (by omega)
    have e0 : triF a (k + 1) (nI q) ↔ (a r_sort q = 84 ∨ triF a k (a r_around q)) := by
      show (a r_sort (dN (nI q)) = 84 ∨ triF a k (a r_around (dN (nI q)))) ↔ _
      rw [ed]
    have g33 : a r_sort q = 84 → pv_go rq_T50 1 (pv_call rq_mt d) P (33, [(0, .ref 0), (1, .int (nI p)), (2, .int (nI q))], [], rs m a) := by
      intro z
      refine pv_run [] 20 ?_
      exact And.intro (fun q => absurd q ne) (fun _ => And.intro (Or.inr rfl) (h1 (e0.mpr (Or.inl z))))
    refine pv_run [33, 7] 40 ?_
    refine And.intro (fun z => absurd z ne) (fun _ => ?_)
    refine And.intro i1 ?_
    refine And.intro (fun z => ?_) (fun z => ?_)
    · have z : a r_sort (nI q).toNatClampNeg = 84 := z
      rw [c1] at z
      exact g33 z
    · have z : ¬ a r_sort (nI q).toNatClampNeg = 84 := z
      rw [c1] at z
      refine And.intro i1 ?_
      show pv_go rq_T50 1 (pv_call rq_mt d) P (7, [(0, .ref 0), (1, .int (nI p)), (2, .int (a r_around (nI q).toNatClampNeg))], [], rs m a)
      rw [c1]
      exact ih _ hx2 (fun y => h1 (e0.mpr (Or.inr y))) (fun y => h0 (fun u => (e0.mp u).elim z y))
set_option maxRecDepth 100000 in
theorem rc_isTried (d : Nat) (m : Nat → Int32) (a : Nat → Nat → Int32) {p k : Nat} (hp : p < 260) (hk : lnA a k (a r_around p)) (P : pv_R) (h1 : triF a k (a r_around p) → P (some (.int 1)) (rs m a)) (h0 : ¬ triF a k (a r_around p) → P (some (.int 0)) (rs m a)) : pv_call rq_mt (d + 1) rq_m_R_isTried [.ref 0, .int (nI p)] (rs m a) P := by
  have i1 : vp_in (nI p) 260 := vp_in_nI (by omega) (by decide)
  have c1 : (nI p).toNatClampNeg = p := nI_clamp (by omega)
  refine pv_call_of rfl rfl rfl (pv_run [7] 20 ?_)
  refine And.intro i1 ?_
  show pv_go rq_T50 1 (pv_call rq_mt d) P (7, [(0, .ref 0), (1, .int (nI p)), (2, .int (a r_around (nI p).toNatClampNeg))], [], rs m a)
  rw [c1]
  exact tr_7 d m a p P k _ hk h1 h0
abbrev bcL (p e : Nat) (af last : Int32) (i : Nat) (L : pv_L) : pv_L := [(0, .ref 0), (1, .int (nI p)), (2, .int (nI e)), (3, .int af), (4, .int last), (5, .int (nI i))] ++ L
set_option maxRecDepth 100000 in
theorem bc_131 (d : Nat) {p e : Nat} (hp : p < 260) (he : e < 260) (af last : Int32) (i : Nat) (L : pv_L) (hL : chK L) {E : eL_T} {W : wL_T} {S : pv_S} (hS : RB m0 a0 E W S) (hE : E.length + 2 < 9000) (P : pv_R) (h : ∀ S', RB m0 a0 (bcT a0 p e af E) W S' → P none S') : pv_go rq_T52 3 (pv_call rq_mt (d + 3)) P (131, bcL p e af last i L, [], S) := by
  obtain ⟨m, a, rfl, hR⟩ := hS
  have i1 : vp_in (nI p) 260 := vp_in_nI (by omega) (by decide)
  have c1 : (nI p).toNatClampNeg = p := nI_clamp (by omega)
  have s42 : a r_tailMarked = a0 r_tailMarked := hR.1.2 42 (by omega)
  have s14 : a r_hasOther = a0 r_hasOther := hR.1.2 14 (by omega)
  unfold bcT at h
  have yes : (¬ a0 r_tailMarked p = 0 ∨ a0 r_hasOther p = 0) → pv_go rq_T52 3 (pv_call rq_mt (d + 3)) P (149, bcL p e af last i L, [], rs m a) := by
    intro z
    rw [if_pos z] at h
    rcases hL with rfl | ⟨x, rfl⟩
    · refine pv_run [] 20 ?_
      exact rc_ends d ⟨m, a, rfl, hR⟩ (by omega) he af af _ h
    · refine pv_run [] 20 ?_
      exact rc_ends d ⟨m, a, rfl, hR⟩ (by omega) he af af _ h
  have key : pv_go rq_T52 3 (pv_call rq_mt (d + 3)) P (131, bcL p e af last i L, [], rs m a) := by
    have t1 : ∀ x : Int32, a r_tailMarked (nI p).toNatClampNeg = x ↔ a0 r_tailMarked p = x := by intro x; rw [c1, s42]
    have t2 : ∀ x : Int32, a r_hasOther (nI p).toNatClampNeg = x ↔ a0 r_hasOther p = x := by intro x; rw [c1, s14]
    rcases hL with rfl | ⟨x, rfl⟩
    · refine pv_run [149] 20 ?_
      refine And.intro i1 ?_
      refine And.intro (fun z => ?_) (fun z => yes (Or.inl (fun u => z ((t1 0).mpr u))))
      refine And.intro i1 ?_
      refine And.intro (fun y => yes (Or.inr ((t2 0).mp y))) (fun y => ?_)
      rw [if_neg (fun u => u.elim (fun v => v ((t1 0).mp z)) (fun v => y ((t2 0).mpr v)))] at h
      exact h _ ⟨m, a, rfl, hR⟩
    · refine pv_run [149] 20 ?_
      refine And.intro i1 ?_
      refine And.intro (fun z => ?_) (fun z => yes (Or.inl (fun u => z ((t1 0).mpr u))))
      refine And.intro i1 ?_
      refine And.intro (fun y => yes (Or.inr ((t2 0).mp y))) (fun y => ?_)
      rw [if_neg (fun u => u.elim (fun v => v ((t1 0).mp z)) (fun v => y ((t2 0).mpr v)))] at h
      exact h _ ⟨m, a, rfl, hR⟩
  exact key
set_option maxRecDepth 100000 in
theorem bc_118 (d : Nat) {p e last : Nat} (hp : p < 260) (he : e < 260) (hl : last ≤ 3600) (af : Int32) (i : Nat) (L : pv_L) (hL : chK L) {E : eL_T} {W : wL_T} {S : pv_S} (hS : RB m0 a0 E W S) (hE : E.length + 3 < 9000) (P : pv_R) (h : ∀ S', RB m0 a0 (bcT a0 p e af (if last = 0 then E else edF (last - 1) af 0 E)) W S' → P none S') : pv_go rq_T52 3 (pv_call rq_mt (d + 3)) P (118, bcL p e af (oI last) i L, [], S) := by
  cases last with
  | zero =>
    rw [if_pos rfl] at h
    have g := bc_131 d hp he af (oI 0) i L hL hS (by omega) P h
    rcases hL with rfl | ⟨x, rfl⟩
    · refine pv_run [131] 20 ?_
      exact And.intro (fun _ => g) (fun q => absurd rfl q)
    · refine pv_run [131] 20 ?_
      exact And.intro (fun _ => g) (fun q => absurd rfl q)
  | succ q =>
    rw [if_neg (by omega), show q + 1 - 1 = q from rfl] at h
    have hl2 := edF_len q af 0 E
    have ne : ¬ nI q = -1 := nI_ne_m1 (by omega)
    have g : ∀ S', RB m0 a0 (edF q af 0 E) W S' → pv_go rq_T52 3 (pv_call rq_mt (d + 3)) P (131, bcL p e af (nI q) i L, [], S') := fun S' hS' => bc_131 d hp he af (nI q) i L hL hS' (by omega) P h
    obtain ⟨m, a, rfl, hR⟩ := hS
    rcases hL with rfl | ⟨x, rfl⟩
    · show pv_go rq_T52 3 (pv_call rq_mt (d + 3)) P (118, [(0, .ref 0), (1, .int (nI p)), (2, .int (nI e)), (3, .int af), (4, .int (oI (q + 1))), (5, .int (nI i))], [], rs m a)
      rw [oI_s q]
      refine pv_run [131] 20 ?_
      refine And.intro (fun z => absurd z ne) (fun _ => ?_)
      exact rc_go (d + 1) ⟨m, a, rfl, hR⟩ (by omega) (by omega) af _ g
    · show pv_go rq_T52 3 (pv_call rq_mt (d + 3)) P (118, [(0, .ref 0), (1, .int (nI p)), (2, .int (nI e)), (3, .int af), (4, .int (oI (q + 1))), (5, .int (nI i)), (6, .int x)], [], rs m a)
      rw [oI_s q]
      refine pv_run [131] 20 ?_
      refine And.intro (fun z => absurd z ne) (fun _ => ?_)
      exact rc_go (d + 1) ⟨m, a, rfl, hR⟩ (by omega) (by omega) af _ g
end RB7
