/-- the code of a leaving statement -/
def cdF (a : Nat → Nat → Int32) (p : Nat) : Nat := if a r_sort p = 82 then 1 else if a r_sort p = 88 then 2 else if a r_sort p = 66 then 3 + 2 * dN (a r_target p) else 4 + 2 * dN (a r_target p)
def tvF (a : Nat → Nat → Int32) (p : Nat) (W : wL_T) : Int32 × wL_T := if a r_hasEnd p = 0 then (nI (5 * p + 3), W) else (nI (wyF p 0 W).1, (wyF p 0 W).2)
def ttF (a : Nat → Nat → Int32) (N p : Nat) (over : Int32) (E : eL_T) : eL_T :=
  (fun E2 => if a r_hasEnd p = 0 then E2 else cnF a N (nI p) 2 (1301 + 3 * p + 1) (nI (1301 + 3 * p + 2)) E2)
  ((fun E1 => if a r_hasCatch p = 0 then E1 else cnF a N (nI p) 1 (1301 + 3 * p) over E1)
  (cnF a N (nI p) 0 (5 * p + 0) over E))
def ifF (p c0 o0 o1 : Nat) (E : eL_T) : eL_T :=
  (fun E1 => if o1 = 0 then E1 else edF (5 * (o1 - 1) + 3) (nI (5 * p + 3)) 0 E1)
  (edF (5 * (o0 - 1) + 3) (nI (5 * p + 3)) 0 (enF (c0 - 1) (nI (5 * (o0 - 1) + 0)) (if o1 = 0 then nI (5 * p + 3) else nI (5 * (o1 - 1) + 0)) (edF (5 * p + 0) (nI (5 * (c0 - 1) + 0)) 0 E)))
/-- the edges of a statement p; c0, c1: its e's within, o0, o1: its statements within (one more) -/
def bsF (a : Nat → Nat → Int32) (N k p c0 o0 c1 o1 : Nat) (E : eL_T) (W : wL_T) : eL_T × wL_T :=
  if a r_sort p = 36 ∨ a r_sort p = 37 then (edF (5 * p + 0) (nI (5 * p + 3)) (20 + a r_variable p) E, W)
  else if a r_sort p = 58 then (edF (5 * (o0 - 1) + 3) (nI (5 * p + 3)) 0 (edF (5 * p + 0) (nI (5 * (o0 - 1) + 0)) 0 E), W)
  else if a r_sort p = 59 then (enF (c0 - 1) (nI (5 * p + 3)) (nI (5 * p + 3)) (edF (5 * p + 0) (nI (5 * (c0 - 1) + 0)) 0 E), W)
  else if a r_sort p = 68 then (enF (c0 - 1) (nI (5 * (o0 - 1) + 0)) (nI (5 * p + 3)) (edF (5 * (o0 - 1) + 3) (nI (5 * (c0 - 1) + 0)) 0 (edF (5 * p + 0) (nI (5 * (o0 - 1) + 0)) 0 E)), W)
  else if a r_sort p = 70 then (enF (c1 - 1) (nI (5 * (c0 - 1) + 0)) (nI (5 * (c0 - 1) + 0)) (edF (5 * (o0 - 1) + 3) (nI (5 * (c1 - 1) + 0)) 0 (enF (c0 - 1) (nI (5 * (o0 - 1) + 0)) (nI (5 * p + 3)) (edF (5 * p + 0) (nI (5 * (c0 - 1) + 0)) 0 E))), W)
  else if a r_sort p = 73 then (ifF p c0 o0 o1 E, W)
  else if a r_sort p = 83 then (bcF a N p (c0 - 1) (nI (5 * p + 3)) E, W)
  else if a r_sort p = 84 then (ttF a N p (tvF a p W).1 E, (tvF a p W).2)
  else if a r_sort p = 87 then (edF (5 * (o0 - 1) + 3) (nI (5 * (c0 - 1) + 0)) 0 (enF (c0 - 1) (nI (5 * (o0 - 1) + 0)) (nI (5 * p + 3)) (edF (5 * p + 0) (nI (5 * (c0 - 1) + 0)) 0 E)), W)
  else if a r_sort p = 123 then (cnF a N (nI p) 0 (5 * p + 0) (nI (5 * p + 3)) E, W)
  else ((if c0 = 0 then edF (5 * p + 0) (lvR a N (cdF a p) k p (a r_around p) W).1 0 E else enF (c0 - 1) (lvR a N (cdF a p) k p (a r_around p) W).1 (lvR a N (cdF a p) k p (a r_around p) W).1 (edF (5 * p + 0) (nI (5 * (c0 - 1) + 0)) 0 E)), (lvR a N (cdF a p) k p (a r_around p) W).2)
theorem cnF_len (a : Nat → Nat → Int32) (N : Nat) (p pt : Int32) (f : Nat) (t : Int32) (E : eL_T) : (cnF a N p pt f t E).length ≤ E.length + N + 1 := by
  unfold cnF
  have h1 := edF_len (cnG a p pt N 0 f E).1 t 0 (cnG a p pt N 0 f E).2
  have h2 := cnG_len a p pt N 0 f E
  omega
section RB9
variable {m0 : Nat → Int32} {a0 : Nat → Nat → Int32}
abbrev bsL (p : Nat) (x y : Int32) : pv_L := [(0, .ref 0), (1, .int (nI p)), (2, .int (nI (5 * p + 0))), (3, .int (nI (5 * p + 3))), (4, .int x), (5, .int y)]
set_option maxRecDepth 100000 in
theorem bs_136 (d : Nat) {p q : Nat} (y : Int32) (hp : p < 260) (hq : q < 260) {E : eL_T} {W : wL_T} {S : pv_S} (hS : RB m0 a0 E W S) (hE : E.length + 8 < 9000) (P : pv_R) (h : ∀ S', RB m0 a0 (enF q (nI (5 * p + 3)) (nI (5 * p + 3)) (edF (5 * p + 0) (nI (5 * q + 0)) 0 E)) W S' → P none S') : pv_go rq_T51 3 (pv_call rq_mt (d + 4)) P (136, bsL p (nI q) y, [], S) := by
  obtain ⟨m, a, rfl, hR⟩ := hS
  have L1 := edF_len (5 * p + 0) (nI (5 * q + 0)) 0 E
  refine pv_run [] 40 ?_
  refine rc_pnt (d + 3) (rs m a) q 0 _ ?_
  refine rc_go (f := 5 * p + 0) (d + 2) ⟨m, a, rfl, hR⟩ (by omega) (by omega) (nI (5 * q + 0)) _ (fun S1 hS1 => ?_)
  obtain ⟨m1, a1, rfl, hR1⟩ := hS1
  exact rc_ends (d + 1) ⟨m1, a1, rfl, hR1⟩ (by omega) (by omega) _ _ _ h
set_option maxRecDepth 100000 in
theorem bs_158 (d : Nat) {p : Nat} (x y : Int32) (hp : p < 260) {E : eL_T} {W : wL_T} {S : pv_S} (hS : RB m0 a0 E W S) (hE : E.length + 8 < 9000) (P : pv_R) (h : ∀ S', RB m0 a0 (edF (5 * p + 0) (nI (5 * p + 3)) (20 + a0 r_variable p) E) W S' → P none S') : pv_go rq_T51 3 (pv_call rq_mt (d + 4)) P (158, bsL p x y, [], S) := by
  obtain ⟨m, a, rfl, hR⟩ := hS
  have s7 : a r_variable = a0 r_variable := hR.1.2 7 (by omega)
  have i1 : vp_in (nI p) 260 := vp_in_nI (by omega) (by decide)
  have cp : (nI p).toNatClampNeg = p := nI_clamp (by omega)
  refine pv_run [] 40 ?_
  refine And.intro i1 ?_
  refine rc_edge (f := 5 * p + 0) (d + 3) ⟨m, a, rfl, hR⟩ (by omega) (by omega) (nI (5 * p + 3)) (20 + a r_variable (nI p).toNatClampNeg) _ (fun S1 hS1 => ?_)
  rw [cp, s7] at hS1
  exact h S1 hS1
set_option maxRecDepth 100000 in
theorem bs_176 (d : Nat) {N p : Nat} (x y : Int32) (hN : N ≤ 260) (hp : p < 260) (hs : m0 r_nodes = nI N) (hb : bRow a0 N) {E : eL_T} {W : wL_T} {S : pv_S} (hS : RB m0 a0 E W S) (hE : E.length + N + 1 < 9000) (P : pv_R) (h : ∀ S', RB m0 a0 (cnF a0 N (nI p) 0 (5 * p + 0) (nI (5 * p + 3)) E) W S' → P none S') : pv_go rq_T51 3 (pv_call rq_mt (d + 4)) P (176, bsL p x y, [], S) := by
  obtain ⟨m, a, rfl, hR⟩ := hS
  refine pv_run [] 40 ?_
  exact rc_chain (f := 5 * p + 0) (d + 1) hN hs hb ⟨m, a, rfl, hR⟩ hE (by omega) (nI p) 0 (nI (5 * p + 3)) _ h
set_option maxRecDepth 100000 in
theorem bs_187 (d : Nat) {p q : Nat} (x : Int32) (hp : p < 260) (hq : q < 260) {E : eL_T} {W : wL_T} {S : pv_S} (hS : RB m0 a0 E W S) (hE : E.length + 8 < 9000) (P : pv_R) (h : ∀ S', RB m0 a0 (edF (5 * q + 3) (nI (5 * p + 3)) 0 (edF (5 * p + 0) (nI (5 * q + 0)) 0 E)) W S' → P none S') : pv_go rq_T51 3 (pv_call rq_mt (d + 4)) P (187, bsL p x (nI q), [], S) := by
  obtain ⟨m, a, rfl, hR⟩ := hS
  have L1 := edF_len (5 * p + 0) (nI (5 * q + 0)) 0 E
  refine pv_run [] 40 ?_
  refine rc_pnt (d + 3) (rs m a) q 0 _ ?_
  refine rc_go (f := 5 * p + 0) (d + 2) ⟨m, a, rfl, hR⟩ (by omega) (by omega) (nI (5 * q + 0)) _ (fun S1 hS1 => ?_)
  obtain ⟨m1, a1, rfl, hR1⟩ := hS1
  refine rc_pnt (d + 3) (rs m1 a1) q 3 _ ?_
  exact rc_go (f := 5 * q + 3) (d + 2) ⟨m1, a1, rfl, hR1⟩ (by omega) (by omega) _ _ h
set_option maxRecDepth 100000 in
theorem bs_291 (d : Nat) {p q r : Nat} (hp : p < 260) (hq : q < 260) (hr : r < 260) {E : eL_T} {W : wL_T} {S : pv_S} (hS : RB m0 a0 E W S) (hE : E.length + 8 < 9000) (P : pv_R) (h : ∀ S', RB m0 a0 (edF (5 * r + 3) (nI (5 * q + 0)) 0 (enF q (nI (5 * r + 0)) (nI (5 * p + 3)) (edF (5 * p + 0) (nI (5 * q + 0)) 0 E))) W S' → P none S') : pv_go rq_T51 3 (pv_call rq_mt (d + 4)) P (291, bsL p (nI q) (nI r), [], S) := by
  obtain ⟨m, a, rfl, hR⟩ := hS
  have L1 := edF_len (5 * p + 0) (nI (5 * q + 0)) 0 E
  have L2 := enF_len q (nI (5 * r + 0)) (nI (5 * p + 3)) (edF (5 * p + 0) (nI (5 * q + 0)) 0 E)
  refine pv_run [] 60 ?_
  refine rc_pnt (d + 3) (rs m a) q 0 _ ?_
  refine rc_go (f := 5 * p + 0) (d + 2) ⟨m, a, rfl, hR⟩ (by omega) (by omega) (nI (5 * q + 0)) _ (fun S1 hS1 => ?_)
  obtain ⟨m1, a1, rfl, hR1⟩ := hS1
  refine rc_pnt (d + 3) (rs m1 a1) r 0 _ ?_
  refine rc_ends (d + 1) ⟨m1, a1, rfl, hR1⟩ (by omega) (by omega) _ _ _ (fun S2 hS2 => ?_)
  obtain ⟨m2, a2, rfl, hR2⟩ := hS2
  refine rc_pnt (d + 3) (rs m2 a2) r 3 _ ?_
  refine rc_pnt (d + 3) (rs m2 a2) q 0 _ ?_
  exact rc_go (f := 5 * r + 3) (d + 2) ⟨m2, a2, rfl, hR2⟩ (by omega) (by omega) _ _ h
set_option maxRecDepth 100000 in
theorem bs_334 (d : Nat) {p q r : Nat} (hp : p < 260) (hq : q < 260) (hr : r < 260) {E : eL_T} {W : wL_T} {S : pv_S} (hS : RB m0 a0 E W S) (hE : E.length + 8 < 9000) (P : pv_R) (h : ∀ S', RB m0 a0 (enF q (nI (5 * r + 0)) (nI (5 * p + 3)) (edF (5 * r + 3) (nI (5 * q + 0)) 0 (edF (5 * p + 0) (nI (5 * r + 0)) 0 E))) W S' → P none S') : pv_go rq_T51 3 (pv_call rq_mt (d + 4)) P (334, bsL p (nI q) (nI r), [], S) := by
  obtain ⟨m, a, rfl, hR⟩ := hS
  have L1 := edF_len (5 * p + 0) (nI (5 * r + 0)) 0 E
  have L2 := edF_len (5 * r + 3) (nI (5 * q + 0)) 0 (edF (5 * p + 0) (nI (5 * r + 0)) 0 E)
  refine pv_run [] 60 ?_
  refine rc_pnt (d + 3) (rs m a) r 0 _ ?_
  refine rc_go (f := 5 * p + 0) (d + 2) ⟨m, a, rfl, hR⟩ (by omega) (by omega) (nI (5 * r + 0)) _ (fun S1 hS1 => ?_)
  obtain ⟨m1, a1, rfl, hR1⟩ := hS1
  refine rc_pnt (d + 3) (rs m1 a1) r 3 _ ?_
  refine rc_pnt (d + 3) (rs m1 a1) q 0 _ ?_
  refine rc_go (f := 5 * r + 3) (d + 2) ⟨m1, a1, rfl, hR1⟩ (by omega) (by omega) (nI (5 * q + 0)) _ (fun S2 hS2 => ?_)
  obtain ⟨m2, a2, rfl, hR2⟩ := hS2
  refine rc_pnt (d + 3) (rs m2 a2) r 0 _ ?_
  exact rc_ends (d + 1) ⟨m2, a2, rfl, hR2⟩ (by omega) (by omega) _ _ _ h
set_option maxRecDepth 100000 in
theorem bs_377 (d : Nat) {N p q r u : Nat} (hN : N ≤ 260) (hs : m0 r_nodes = nI N) (hb : bRow a0 N) (hp : p < 260) (hq : q < 260) (hr : r < 260) (hu : u < 260) (eu : rchG a0 (nI p) 0 N 0 1 = u + 1) {E : eL_T} {W : wL_T} {S : pv_S} (hS : RB m0 a0 E W S) (hE : E.length + 8 < 9000) (P : pv_R) (h : ∀ S', RB m0 a0 (enF u (nI (5 * q + 0)) (nI (5 * q + 0)) (edF (5 * r + 3) (nI (5 * u + 0)) 0 (enF q (nI (5 * r + 0)) (nI (5 * p + 3)) (edF (5 * p + 0) (nI (5 * q + 0)) 0 E)))) W S' → P none S') : pv_go rq_T51 3 (pv_call rq_mt (d + 4)) P (377, bsL p (nI q) (nI r), [], S) := by
  obtain ⟨m, a, rfl, hR⟩ := hS
  have L1 := edF_len (5 * p + 0) (nI (5 * q + 0)) 0 E
  have L2 := enF_len q (nI (5 * r + 0)) (nI (5 * p + 3)) (edF (5 * p + 0) (nI (5 * q + 0)) 0 E)
  have L3 := edF_len (5 * r + 3) (nI (5 * u + 0)) 0 (enF q (nI (5 * r + 0)) (nI (5 * p + 3)) (edF (5 * p + 0) (nI (5 * q + 0)) 0 E))
  have eu' : rchG a (nI p) 0 N 0 1 = u + 1 := by
    rw [rchG_c (hR.1.2 45 (by omega)) (hR.1.2 5 (by omega)) (hR.1.2 8 (by omega)), eu]
  refine pv_run [386] 60 ?_
  refine rc_child (d + 3) m a (k := 1) hN ((hR.1.1 2 (by omega)).trans hs) (by intro i hi; rw [hR.1.2 45 (by omega)]; exact hb i hi) (by omega) (nI p) 0 _ ?_
  rw [eu', oI_s u]
  refine pv_run [] 60 ?_
  refine rc_pnt (d + 3) (rs m a) q 0 _ ?_
  refine rc_go (f := 5 * p + 0) (d + 2) ⟨m, a, rfl, hR⟩ (by omega) (by omega) (nI (5 * q + 0)) _ (fun S1 hS1 => ?_)
  obtain ⟨m1, a1, rfl, hR1⟩ := hS1
  refine rc_pnt (d + 3) (rs m1 a1) r 0 _ ?_
  refine rc_ends (d + 1) ⟨m1, a1, rfl, hR1⟩ (by omega) (by omega) _ _ _ (fun S2 hS2 => ?_)
  obtain ⟨m2, a2, rfl, hR2⟩ := hS2
  refine rc_pnt (d + 3) (rs m2 a2) r 3 _ ?_
  refine rc_pnt (d + 3) (rs m2 a2) u 0 _ ?_
  refine rc_go (f := 5 * r + 3) (d + 2) ⟨m2, a2, rfl, hR2⟩ (by omega) (by omega) (nI (5 * u + 0)) _ (fun S3 hS3 => ?_)
  obtain ⟨m3, a3, rfl, hR3⟩ := hS3
  refine rc_pnt (d + 3) (rs m3 a3) q 0 _ ?_
  refine rc_pnt (d + 3) (rs m3 a3) q 0 _ ?_
  exact rc_ends (d + 1) ⟨m3, a3, rfl, hR3⟩ (by omega) (by omega) _ _ _ h
set_option maxRecDepth 100000 in
theorem bs_447 (d : Nat) {N p q : Nat} (y : Int32) (hN : N ≤ 260) (hp : p < 260) (hq : q < 260) (hs : m0 r_nodes = nI N) (hb : bRow a0 N) {E : eL_T} {W : wL_T} {S : pv_S} (hS : RB m0 a0 E W S) (hE : E.length + 3 * N + 4 < 9000) (P : pv_R) (h : ∀ S', RB m0 a0 (bcF a0 N p q (nI (5 * p + 3)) E) W S' → P none S') : pv_go rq_T51 3 (pv_call rq_mt (d + 4)) P (447, bsL p (nI q) y, [], S) := by
  obtain ⟨m, a, rfl, hR⟩ := hS
  refine pv_run [] 40 ?_
  exact rc_buildCases d hN hp hq hs hb (nI (5 * p + 3)) ⟨m, a, rfl, hR⟩ hE _ h
set_option maxRecDepth 100000 in
theorem bs_212 (d : Nat) {N p q r o1 : Nat} (hN : N ≤ 260) (hs : m0 r_nodes = nI N) (hb : bRow a0 N) (hp : p < 260) (hq : q < 260) (hr : r < 260) (eu : rchG a0 (nI p) 1 N 0 1 = o1) {E : eL_T} {W : wL_T} {S : pv_S} (hS : RB m0 a0 E W S) (hE : E.length + 8 < 9000) (P : pv_R) (h : ∀ S', RB m0 a0 (ifF p (q + 1) (r + 1) o1 E) W S' → P none S') : pv_go rq_T51 3 (pv_call rq_mt (d + 4)) P (212, bsL p (nI q) (nI r), [], S) := by
  have ho : o1 ≤ N := by rw [← eu]; exact rchG_le hb _ _ N 0 1 (by omega)
  obtain ⟨m, a, rfl, hR⟩ := hS
  unfold ifF at h
  rw [show q + 1 - 1 = q from rfl, show r + 1 - 1 = r from rfl] at h
  have L1 := edF_len (5 * p + 0) (nI (5 * q + 0)) 0 E
  have eu' : rchG a (nI p) 1 N 0 1 = o1 := by
    rw [rchG_c (hR.1.2 45 (by omega)) (hR.1.2 5 (by omega)) (hR.1.2 8 (by omega)), eu]
  refine pv_run [221] 60 ?_
  refine rc_child (d + 3) m a (k := 1) hN ((hR.1.1 2 (by omega)).trans hs) (by intro i hi; rw [hR.1.2 45 (by omega)]; exact hb i hi) (by omega) (nI p) 1 _ ?_
  rw [eu']
  cases o1 with
  | zero =>
    rw [if_pos rfl] at h
    have L2 := enF_len q (nI (5 * r + 0)) (nI (5 * p + 3)) (edF (5 * p + 0) (nI (5 * q + 0)) 0 E)
    refine pv_run [] 60 ?_
    refine rc_pnt (d + 3) (rs m a) q 0 _ ?_
    refine rc_go (f := 5 * p + 0) (d + 2) ⟨m, a, rfl, hR⟩ (by omega) (by omega) (nI (5 * q + 0)) _ (fun S1 hS1 => ?_)
    obtain ⟨m1, a1, rfl, hR1⟩ := hS1
    refine rc_pnt (d + 3) (rs m1 a1) r 0 _ ?_
    refine And.intro (fun _ => ?_) (fun z => absurd rfl z)
    refine rc_ends (d + 1) ⟨m1, a1, rfl, hR1⟩ (by omega) (by omega) _ _ _ (fun S2 hS2 => ?_)
    obtain ⟨m2, a2, rfl, hR2⟩ := hS2
    refine rc_pnt (d + 3) (rs m2 a2) r 3 _ ?_
    refine rc_go (f := 5 * r + 3) (d + 2) ⟨m2, a2, rfl, hR2⟩ (by omega) (by omega) _ _ (fun S3 hS3 => ?_)
    obtain ⟨m3, a3, rfl, hR3⟩ := hS3
    exact And.intro (fun _ => h _ ⟨m3, a3, rfl, hR3⟩) (fun z => absurd rfl z)
  | succ u =>
    rw [if_neg (by omega), show u + 1 - 1 = u from rfl] at h
    have L2 := enF_len q (nI (5 * r + 0)) (nI (5 * u + 0)) (edF (5 * p + 0) (nI (5 * q + 0)) 0 E)
    have L3 := edF_len (5 * r + 3) (nI (5 * p + 3)) 0 (enF q (nI (5 * r + 0)) (nI (5 * u + 0)) (edF (5 * p + 0) (nI (5 * q + 0)) 0 E))
    have ne : ¬ nI u = -1 := nI_ne_m1 (by omega)
    rw [oI_s u]
    refine pv_run [] 60 ?_
    refine rc_pnt (d + 3) (rs m a) q 0 _ ?_
    refine rc_go (f := 5 * p + 0) (d + 2) ⟨m, a, rfl, hR⟩ (by omega) (by omega) (nI (5 * q + 0)) _ (fun S1 hS1 => ?_)
    obtain ⟨m1, a1, rfl, hR1⟩ := hS1
    refine rc_pnt (d + 3) (rs m1 a1) r 0 _ ?_
    refine And.intro (fun z => absurd z ne) (fun _ => ?_)
    refine rc_pnt (d + 3) (rs m1 a1) u 0 _ ?_
    refine rc_ends (d + 1) ⟨m1, a1, rfl, hR1⟩ (by omega) (by omega) _ _ _ (fun S2 hS2 => ?_)
    obtain ⟨m2, a2, rfl, hR2⟩ := hS2
    refine rc_pnt (d + 3) (rs m2 a2) r 3 _ ?_
    refine rc_go (f := 5 * r + 3) (d + 2) ⟨m2, a2, rfl, hR2⟩ (by omega) (by omega) (nI (5 * p + 3)) _ (fun S3 hS3 => ?_)
    obtain ⟨m3, a3, rfl, hR3⟩ := hS3
    refine And.intro (fun z => absurd z ne) (fun _ => ?_)
    refine rc_pnt (d + 3) (rs m3 a3) u 3 _ ?_
    exact rc_go (f := 5 * u + 3) (d + 2) ⟨m3, a3, rfl, hR3⟩ (by omega) (by omega) _ _ h
end RB9
