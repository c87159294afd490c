section RB10
variable {m0 : Nat → Int32} {a0 : Nat → Nat → Int32}
abbrev btL (p : Nat) (x y z : Int32) : pv_L := [(0, .ref 0), (1, .int (nI p)), (2, .int (nI (5 * p + 0))), (3, .int (nI (5 * p + 3))), (4, .int x), (5, .int y), (6, .int z)]
theorem mul3k {q k : Nat} : (1301 : Int32) + 3 * nI q + nI k = nI (1301 + 3 * q + k) := by rw [mul3, nI_add]
set_option maxRecDepth 100000 in
theorem bs_512 (d : Nat) {N p : Nat} (x y z : Int32) (hN : N ≤ 260) (hp : p < 260) (hs : m0 r_nodes = nI N) (hb : bRow a0 N) {E : eL_T} {W : wL_T} {S : pv_S} (hS : RB m0 a0 E W S) (hE : E.length + N + 1 < 9000) (P : pv_R) (h : ∀ S', RB m0 a0 (if a0 r_hasEnd p = 0 then E else cnF a0 N (nI p) 2 (1301 + 3 * p + 1) (nI (1301 + 3 * p + 2)) E) W S' → P none S') : pv_go rq_T51 3 (pv_call rq_mt (d + 4)) P (512, btL p x y z, [], S) := by
  obtain ⟨m, a, rfl, hR⟩ := hS
  have i1 : vp_in (nI p) 260 := vp_in_nI (by omega) (by decide)
  have cp : (nI p).toNatClampNeg = p := nI_clamp (by omega)
  have eq : ∀ x : Int32, a r_hasEnd (nI p).toNatClampNeg = x ↔ a0 r_hasEnd p = x := by intro x; rw [cp, hR.1.2 16 (by omega)]
  refine pv_run [] 60 ?_
  refine And.intro i1 ?_
  refine And.intro (fun w => ?_) (fun w => ?_)
  · rw [if_pos ((eq 0).mp w)] at h
    exact h _ ⟨m, a, rfl, hR⟩
  · rw [if_neg (fun u => w ((eq 0).mpr u))] at h
    have g := rc_chain (f := 1301 + 3 * p + 1) (d + 1) hN hs hb ⟨m, a, rfl, hR⟩ hE (by omega) (nI p) 2 (nI (1301 + 3 * p + 2)) (fun o S' => o = none ∧ P none S') (fun S1 hS1 => ⟨rfl, h S1 hS1⟩)
    have g : pv_call rq_mt (d + 4) rq_m_R_chain [.ref 0, .int (nI p), .int 2, .int ((1301 : Int32) + 3 * nI p + nI 1), .int ((1301 : Int32) + 3 * nI p + nI 2)] (rs m a) (fun o S' => o = none ∧ P none S') := by rw [mul3k, mul3k]; exact g
    refine pv_call_cm _ _ _ _ _ _ _ ?_ g
    rintro o S' ⟨rfl, hg⟩
    exact hg
set_option maxRecDepth 100000 in
theorem bs_488 (d : Nat) {N p : Nat} (x y z : Int32) (hN : N ≤ 260) (hp : p < 260) (hs : m0 r_nodes = nI N) (hb : bRow a0 N) {E : eL_T} {W : wL_T} {S : pv_S} (hS : RB m0 a0 E W S) (hE : E.length + 2 * N + 2 < 9000) (P : pv_R) (h : ∀ S', RB m0 a0 ((fun E2 => if a0 r_hasEnd p = 0 then E2 else cnF a0 N (nI p) 2 (1301 + 3 * p + 1) (nI (1301 + 3 * p + 2)) E2) (if a0 r_hasCatch p = 0 then E else cnF a0 N (nI p) 1 (1301 + 3 * p) z E)) W S' → P none S') : pv_go rq_T51 3 (pv_call rq_mt (d + 4)) P (488, btL p x y z, [], S) := by
  obtain ⟨m, a, rfl, hR⟩ := hS
  have i1 : vp_in (nI p) 260 := vp_in_nI (by omega) (by decide)
  have cp : (nI p).toNatClampNeg = p := nI_clamp (by omega)
  have L1 := cnF_len a0 N (nI p) 1 (1301 + 3 * p) z E
  have eq : ∀ x : Int32, a r_hasCatch (nI p).toNatClampNeg = x ↔ a0 r_hasCatch p = x := by intro x; rw [cp, hR.1.2 15 (by omega)]
  refine pv_run [512] 60 ?_
  refine And.intro i1 ?_
  refine And.intro (fun w => ?_) (fun w => ?_)
  · rw [if_pos ((eq 0).mp w)] at h
    exact bs_512 d x y z hN hp hs hb ⟨m, a, rfl, hR⟩ (by omega) P h
  · rw [if_neg (fun u => w ((eq 0).mpr u))] at h
    have g := rc_chain (f := 1301 + 3 * p) (d + 1) hN hs hb ⟨m, a, rfl, hR⟩ (by omega) (by omega) (nI p) 1 z (fun o S' => o = none ∧ pv_go rq_T51 3 (pv_call rq_mt (d + 4)) P (512, btL p x y z, [], S')) (fun S1 hS1 => ⟨rfl, bs_512 d x y z hN hp hs hb hS1 (by omega) P h⟩)
    have g : pv_call rq_mt (d + 4) rq_m_R_chain [.ref 0, .int (nI p), .int 1, .int ((1301 : Int32) + 3 * nI p), .int z] (rs m a) (fun o S' => o = none ∧ pv_go rq_T51 3 (pv_call rq_mt (d + 4)) P (512, btL p x y z, [], S')) := by rw [mul3]; exact g
    refine pv_call_cm _ _ _ _ _ _ _ ?_ g
    rintro o S' ⟨rfl, hg⟩
    exact hg
set_option maxRecDepth 100000 in
theorem bs_479 (d : Nat) {N p : Nat} (x y z : Int32) (hN : N ≤ 260) (hp : p < 260) (hs : m0 r_nodes = nI N) (hb : bRow a0 N) {E : eL_T} {W : wL_T} {S : pv_S} (hS : RB m0 a0 E W S) (hE : E.length + 3 * N + 3 < 9000) (P : pv_R) (h : ∀ S', RB m0 a0 (ttF a0 N p z E) W S' → P none S') : pv_go rq_T51 3 (pv_call rq_mt (d + 4)) P (479, btL p x y z, [], S) := by
  obtain ⟨m, a, rfl, hR⟩ := hS
  have L1 := cnF_len a0 N (nI p) 0 (5 * p + 0) z E
  refine pv_run [488] 60 ?_
  refine rc_chain (f := 5 * p + 0) (d + 1) hN hs hb ⟨m, a, rfl, hR⟩ (by omega) (by omega) (nI p) 0 z _ (fun S1 hS1 => ?_)
  exact bs_488 d x y z hN hp hs hb hS1 (by omega) P h
set_option maxRecDepth 100000 in
theorem bs_458 (d : Nat) {N p : Nat} (x y : Int32) (hN : N ≤ 260) (hp : p < 260) (hs : m0 r_nodes = nI N) (hb : bRow a0 N) {E : eL_T} {W : wL_T} (hW : wOK W) {S : pv_S} (hS : RB m0 a0 E W S) (hE : E.length + 3 * N + 3 < 9000) (P : pv_R) (h : ∀ S', RB m0 a0 (ttF a0 N p (tvF a0 p W).1 E) (tvF a0 p W).2 S' → P none S') : pv_go rq_T51 3 (pv_call rq_mt (d + 4)) P (458, bsL p x y, [], S) := by
  obtain ⟨m, a, rfl, hR⟩ := hS
  have i1 : vp_in (nI p) 260 := vp_in_nI (by omega) (by decide)
  have cp : (nI p).toNatClampNeg = p := nI_clamp (by omega)
  have eq : ∀ x : Int32, a r_hasEnd (nI p).toNatClampNeg = x ↔ a0 r_hasEnd p = x := by intro x; rw [cp, hR.1.2 16 (by omega)]
  unfold tvF at h
  refine pv_run [479] 60 ?_
  refine And.intro i1 ?_
  refine And.intro (fun w => ?_) (fun w => ?_)
  · rw [if_pos ((eq 0).mp w)] at h
    exact bs_479 d x y (nI (5 * p + 3)) hN hp hs hb ⟨m, a, rfl, hR⟩ (by omega) P h
  · rw [if_neg (fun u => w ((eq 0).mpr u))] at h
    refine rc_way (t := p) (c := 0) (d + 3) ⟨m, a, rfl, hR⟩ hW (by omega) (by omega) _ (fun S1 hS1 => ?_)
    exact bs_479 d x y _ hN hp hs hb hS1 (by omega) P h
set_option maxRecDepth 100000 in
theorem bs_614 (d : Nat) {N p k c0 c : Nat} (y : Int32) (hN : N ≤ 260) (hp : p < N) (hs : m0 r_nodes = nI N) (hb : bRow a0 N) (hk : lnA a0 k (a0 r_around p)) (hc : c < 1000) (hc0 : c0 ≤ N) {E : eL_T} {W : wL_T} (hW : wOK W) {S : pv_S} (hS : RB m0 a0 E W S) (hE : E.length + 8 < 9000) (P : pv_R) (h : ∀ S', RB m0 a0 (if c0 = 0 then edF (5 * p + 0) (lvR a0 N c k p (a0 r_around p) W).1 0 E else enF (c0 - 1) (lvR a0 N c k p (a0 r_around p) W).1 (lvR a0 N c k p (a0 r_around p) W).1 (edF (5 * p + 0) (nI (5 * (c0 - 1) + 0)) 0 E)) (lvR a0 N c k p (a0 r_around p) W).2 S' → P none S') : pv_go rq_T51 3 (pv_call rq_mt (d + 4)) P (614, btL p (oI c0) y (nI c), [], S) := by
  obtain ⟨m, a, rfl, hR⟩ := hS
  cases c0 with
  | zero =>
    rw [if_pos rfl] at h
    refine pv_run [] 60 ?_
    refine rc_leave (d + 2) hN hs hb hW hp hc hk ⟨m, a, rfl, hR⟩ _ (fun S1 hS1 => ?_)
    obtain ⟨m1, a1, rfl, hR1⟩ := hS1
    refine And.intro (fun _ => ?_) (fun z => absurd rfl z)
    exact rc_go (f := 5 * p + 0) (d + 2) ⟨m1, a1, rfl, hR1⟩ (by omega) (by omega) _ _ h
  | succ q =>
    rw [if_neg (by omega), show q + 1 - 1 = q from rfl] at h
    have ne : ¬ nI q = -1 := nI_ne_m1 (by omega)
    have L1 := edF_len (5 * p + 0) (nI (5 * q + 0)) 0 E
    show pv_go rq_T51 3 (pv_call rq_mt (d + 4)) P (614, [(0, .ref 0), (1, .int (nI p)), (2, .int (nI (5 * p + 0))), (3, .int (nI (5 * p + 3))), (4, .int (oI (q + 1))), (5, .int y), (6, .int (nI c))], [], rs m a)
    rw [oI_s q]
    refine pv_run [] 60 ?_
    refine rc_leave (d + 2) hN hs hb hW hp hc hk ⟨m, a, rfl, hR⟩ _ (fun S1 hS1 => ?_)
    obtain ⟨m1, a1, rfl, hR1⟩ := hS1
    refine And.intro (fun z => absurd z ne) (fun _ => ?_)
    refine rc_pnt (d + 3) (rs m1 a1) q 0 _ ?_
    refine rc_go (f := 5 * p + 0) (d + 2) ⟨m1, a1, rfl, hR1⟩ (by omega) (by omega) (nI (5 * q + 0)) _ (fun S2 hS2 => ?_)
    obtain ⟨m2, a2, rfl, hR2⟩ := hS2
    exact rc_ends (d + 1) ⟨m2, a2, rfl, hR2⟩ (by omega) (by omega) _ _ _ h
theorem mul2 {q k : Nat} : nI k + 2 * nI q = nI (k + 2 * q) := by
  rw [← nI_add]
  congr 1
  induction q with
  | zero => rfl
  | succ p ih =>
    rw [← nI_1, Int32.mul_add, ih, Int32.mul_one, show (2 : Int32) = nI 2 from rfl, nI_add]
    congr 1
set_option maxRecDepth 100000 in
theorem bs_548 (d : Nat) {N p k c0 : Nat} (y : Int32) (hN : N ≤ 260) (hp : p < N) (hs : m0 r_nodes = nI N) (hb : bRow a0 N) (hk : lnA a0 k (a0 r_around p)) (ht : ¬ a0 r_sort p = 82 → ¬ a0 r_sort p = 88 → a0 r_target p = nI (dN (a0 r_target p)) ∧ dN (a0 r_target p) < 260) (hc0 : c0 ≤ N) {E : eL_T} {W : wL_T} (hW : wOK W) {S : pv_S} (hS : RB m0 a0 E W S) (hE : E.length + 8 < 9000) (P : pv_R) (h : ∀ S', RB m0 a0 (if c0 = 0 then edF (5 * p + 0) (lvR a0 N (cdF a0 p) k p (a0 r_around p) W).1 0 E else enF (c0 - 1) (lvR a0 N (cdF a0 p) k p (a0 r_around p) W).1 (lvR a0 N (cdF a0 p) k p (a0 r_around p) W).1 (edF (5 * p + 0) (nI (5 * (c0 - 1) + 0)) 0 E)) (lvR a0 N (cdF a0 p) k p (a0 r_around p) W).2 S' → P none S') : pv_go rq_T51 3 (pv_call rq_mt (d + 4)) P (548, bsL p (oI c0) y, [], S) := by
  have hcl : cdF a0 p < 1000 := by
    unfold cdF
    split
    · omega
    · rename_i n1
      split
      · omega
      · rename_i n2
        have := (ht n1 n2).2
        split <;> omega
  have g := bs_614 (c := cdF a0 p) d y hN hp hs hb hk hcl hc0 hW hS hE P h
  obtain ⟨m, a, rfl, hR⟩ := hS
  have i1 : vp_in (nI p) 260 := vp_in_nI (by omega) (by decide)
  have cp : (nI p).toNatClampNeg = p := nI_clamp (by omega)
  have eq : ∀ x : Int32, a r_sort (nI p).toNatClampNeg = x ↔ a0 r_sort p = x := by intro x; rw [cp, hR.1.2 3 (by omega)]
  have et : a r_target (nI p).toNatClampNeg = a0 r_target p := by rw [cp, hR.1.2 12 (by omega)]
  unfold cdF at g
  refine pv_run [614] 60 ?_
  refine And.intro i1 ?_
  refine And.intro (fun z => ?_) (fun z => ?_)
  · rw [if_pos ((eq 82).mp z)] at g
    exact g
  have z := fun u => z ((eq 82).mpr u)
  rw [if_neg z] at g
  refine And.intro i1 ?_
  refine And.intro (fun w => ?_) (fun w => ?_)
  · rw [if_pos ((eq 88).mp w)] at g
    exact g
  have w := fun u => w ((eq 88).mpr u)
  rw [if_neg w] at g
  have ht := ht z w
  refine And.intro i1 ?_
  refine And.intro (fun v => ?_) (fun v => ?_)
  · rw [if_pos ((eq 66).mp v), ← mul2, ← ht.1, ← et] at g
    refine And.intro i1 ?_
    exact g
  · rw [if_neg (fun u => v ((eq 66).mpr u)), ← mul2, ← ht.1, ← et] at g
    refine And.intro i1 ?_
    exact g
end RB10
