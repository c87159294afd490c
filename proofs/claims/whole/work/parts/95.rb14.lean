def eOK (a : Nat → Nat → Int32) (N p : Nat) : Prop :=
  ((a r_sort p = 33 ∨ a r_sort p = 61 ∨ a r_sort p = 38 ∨ a r_sort p = 124 ∨ a r_sort p = 63) → 1 ≤ rchG a (nI p) 0 N 0 0) ∧ ((a r_sort p = 38 ∨ a r_sort p = 124 ∨ a r_sort p = 63) → 1 ≤ rchG a (nI p) 0 N 0 1) ∧ (a r_sort p = 63 → 1 ≤ rchG a (nI p) 0 N 0 2)
/-- what the building of the graph needs of the rows -/
def bdOK (a : Nat → Nat → Int32) (N : Nat) (K : Nat → Nat) : Prop :=
  bRow a N ∧ (∀ p, p < N → lnA a (K p) (a r_around p) ∧ ∀ q, q < 260 → a r_around p = nI q → q < N) ∧ (∀ p, p < N → (¬ a r_isStmt p = 0 → knS (a r_sort p) ∧ chOK a N p) ∧ (a r_isStmt p = 0 → eOK a N p))
/-- an invariant of the ways -/
def gOK (a : Nat → Nat → Int32) (N : Nat) (G : wL_T → Prop) (okC : Nat → Prop) : Prop :=
  G [] ∧ (∀ W, G W → W.length < 1500 ∧ ∀ x ∈ W, x.1 < N ∧ x.2 < 1000 ∧ okC x.2) ∧ (∀ t c W, G W → t < N → a r_sort t = 84 → ¬ a r_hasEnd t = 0 → okC c → G (wyF t c W).2) ∧ okC 0 ∧ okC 2 ∧ (∀ p, p < N → ¬ a r_isStmt p = 0 → isLv (a r_sort p) → okC (cdF a p))
theorem gOK_w {a : Nat → Nat → Int32} {N : Nat} {G : wL_T → Prop} {okC : Nat → Prop} (hN : N ≤ 260) (hG : gOK a N G okC) {W : wL_T} (h : G W) : wOK W := by
  obtain ⟨h1, h2⟩ := hG.2.1 W h
  refine ⟨h1, fun x hx => ?_⟩
  have := h2 x hx
  omega
theorem lvA_T {a : Nat → Nat → Int32} {N : Nat} {K : Nat → Nat} (hb : bdOK a N K) (c : Nat) : ∀ (k inner : Nat) (x : Int32) (t : Nat), lnA a k x → (∀ q, q < 260 → x = nI q → q < N) → lvA a N c k inner x = .inr t → t < N ∧ a r_sort t = 84 ∧ ¬ a r_hasEnd t = 0
  | 0, _, _, _, _, _, h => by cases h
  | k + 1, inner, x, t, hx, hq, h => by
    obtain ⟨q, ⟨rfl, hq2⟩, hx2⟩ := hx
    have hqN := hq q hq2 rfl
    have ed : dN (nI q) = q := nI_clamp (by omega)
    unfold lvA at h
    rw [ed] at h
    split at h
    · cases h
    · split at h
      · rename_i z
        cases h
        exact ⟨hqN, z.1, z.2.1⟩
      · split at h
        · cases h
        · exact lvA_T hb c k _ _ t hx2 (hb.2.1 q hqN).2 h
theorem lvA_G {a : Nat → Nat → Int32} {N : Nat} {K : Nat → Nat} (hb : bdOK a N K) {G : wL_T → Prop} {okC : Nat → Prop} (hG : gOK a N G okC) {c p : Nat} (hc : okC c) (hp : p < N) {W : wL_T} (h : G W) : G (lvR a N c (K p) p (a r_around p) W).2 := by
  rw [lvR_go]
  cases hA : lvA a N c (K p) p (a r_around p) with
  | inl v => exact h
  | inr t =>
    obtain ⟨h1, h2, h3⟩ := lvA_T hb c (K p) p _ t (hb.2.1 p hp).1 (hb.2.1 p hp).2 hA
    exact hG.2.2.1 t c W h h1 h2 h3 hc
theorem g_ite {c : Prop} [Decidable c] {A B : eL_T × wL_T} {G : wL_T → Prop} (h1 : c → G A.2) (h2 : ¬ c → G B.2) : G (if c then A else B).2 := by
  by_cases h : c
  · rw [if_pos h]; exact h1 h
  · rw [if_neg h]; exact h2 h
theorem bsF_G {a : Nat → Nat → Int32} {N : Nat} {K : Nat → Nat} (hb : bdOK a N K) {G : wL_T → Prop} {okC : Nat → Prop} (hG : gOK a N G okC) {p : Nat} (hp : p < N) (hs : ¬ a r_isStmt p = 0) (c0 o0 c1 o1 : Nat) (E : eL_T) {W : wL_T} (h : G W) : G (bsF a N (K p) p c0 o0 c1 o1 E W).2 := by
  unfold bsF
  refine g_ite (fun _ => h) (fun n1 => ?_)
  refine g_ite (fun _ => h) (fun n2 => ?_)
  refine g_ite (fun _ => h) (fun n3 => ?_)
  refine g_ite (fun _ => h) (fun n4 => ?_)
  refine g_ite (fun _ => h) (fun n5 => ?_)
  refine g_ite (fun _ => h) (fun n6 => ?_)
  refine g_ite (fun _ => h) (fun n7 => ?_)
  refine g_ite (fun z => ?_) (fun n8 => ?_)
  · show G (tvF a p W).2
    unfold tvF
    by_cases he : a r_hasEnd p = 0
    · rw [if_pos he]; exact h
    · rw [if_neg he]; exact hG.2.2.1 p 0 W h hp z he hG.2.2.2.1
  refine g_ite (fun _ => h) (fun n9 => ?_)
  refine g_ite (fun _ => h) (fun n10 => ?_)
  refine lvA_G hb hG (hG.2.2.2.2.2 p hp hs ?_) hp h
  rcases ((hb.2.2 p hp).1 hs).1 with e | e | e | e | e | e | e | e | e | e | e | e | e | e | e
  · exact absurd (Or.inl e) n1
  · exact absurd (Or.inr e) n1
  · exact absurd e n2
  · exact absurd e n3
  · exact absurd e n4
  · exact absurd e n5
  · exact absurd e n6
  · exact absurd e n7
  · exact absurd e n8
  · exact absurd e n9
  · exact absurd e n10
  · exact Or.inl e
  · exact Or.inr (Or.inl e)
  · exact Or.inr (Or.inr (Or.inl e))
  · exact Or.inr (Or.inr (Or.inr e))
theorem trB_G {a : Nat → Nat → Int32} {N : Nat} {K : Nat → Nat} (hb : bdOK a N K) {G : wL_T → Prop} {okC : Nat → Prop} (hG : gOK a N G okC) {p : Nat} (hp : p < N) (E : eL_T) {W : wL_T} (h : G W) : G (trB a N (K p) p E W).2 := by
  have h2 := hG.2.2.2.2.1
  unfold trB
  refine g_ite (fun _ => ?_) (fun _ => h)
  refine g_ite (fun _ => ?_) (fun _ => lvA_G hb hG h2 hp h)
  exact lvA_G hb hG h2 hp (lvA_G hb hG h2 hp (lvA_G hb hG h2 hp h))
/-- the edges of node p -/
def stB (a : Nat → Nat → Int32) (N k p : Nat) (E : eL_T) (W : wL_T) : eL_T × wL_T :=
  (fun r : eL_T × wL_T => trB a N k p r.1 r.2) (if a r_isStmt p = 0 then (beF a p (rchG a (nI p) 0 N 0 0) (rchG a (nI p) 0 N 0 1) (rchG a (nI p) 0 N 0 2) E, W) else bsF a N k p (rchG a (nI p) 0 N 0 0) (rchG a (nI p) 1 N 0 0) (rchG a (nI p) 0 N 0 1) (rchG a (nI p) 1 N 0 1) E W)
def bdG (a : Nat → Nat → Int32) (N : Nat) (K : Nat → Nat) : Nat → Nat → eL_T → wL_T → eL_T × wL_T
  | 0, _, E, W => (E, W)
  | j + 1, p, E, W => bdG a N K j (p + 1) (stB a N (K p) p E W).1 (stB a N (K p) p E W).2
theorem stB_G {a : Nat → Nat → Int32} {N : Nat} {K : Nat → Nat} (hb : bdOK a N K) {G : wL_T → Prop} {okC : Nat → Prop} (hG : gOK a N G okC) {p : Nat} (hp : p < N) (E : eL_T) {W : wL_T} (h : G W) : G (stB a N (K p) p E W).2 := by
  unfold stB
  refine trB_G hb hG hp _ ?_
  exact g_ite (fun _ => h) (fun z => bsF_G hb hG hp z _ _ _ _ _ h)
theorem stB_len (a : Nat → Nat → Int32) (N k p : Nat) (E : eL_T) (W : wL_T) : (stB a N k p E W).1.length ≤ E.length + 3 * cC a (nI p) N 0 + 12 := by
  unfold stB
  refine Nat.le_trans (trB_len _ _ _ _ _ _) ?_
  have : (if a r_isStmt p = 0 then (beF a p (rchG a (nI p) 0 N 0 0) (rchG a (nI p) 0 N 0 1) (rchG a (nI p) 0 N 0 2) E, W) else bsF a N k p (rchG a (nI p) 0 N 0 0) (rchG a (nI p) 1 N 0 0) (rchG a (nI p) 0 N 0 1) (rchG a (nI p) 1 N 0 1) E W).1.length ≤ E.length + 3 * cC a (nI p) N 0 + 8 :=
    len_ite (fun _ => Nat.le_trans (beF_len _ _ _ _ _ _) (by omega)) (fun _ => bsF_len _ _ _ _ _ _ _ _ _ _)
  omega
section RB14
variable {m0 : Nat → Int32} {a0 : Nat → Nat → Int32}
abbrev bdL (p : Nat) : pv_L := [(0, .ref 0), (1, .int (nI p))]
set_option maxRecDepth 100000 in
theorem bd_88 (d : Nat) {N p : Nat} {K : Nat → Nat} (hN : N ≤ 260) (hp : p < N) (hs : m0 r_nodes = nI N) (hb : bdOK a0 N K) {G : wL_T → Prop} {okC : Nat → Prop} (hG : gOK a0 N G okC) {E : eL_T} {W : wL_T} (hW : G W) {S : pv_S} (hS : RB m0 a0 E W S) (hE : E.length + 8 < 9000) (P : pv_R) (h : ∀ S', RB m0 a0 (trB a0 N (K p) p E W).1 (trB a0 N (K p) p E W).2 S' → pv_go rq_T49 3 (pv_call rq_mt (d + 5)) P (58, bdL (p + 1), [], S')) : pv_go rq_T49 3 (pv_call rq_mt (d + 5)) P (88, bdL p, [], S) := by
  have hbr := hb.1
  have hk := (hb.2.1 p hp).1
  have h2 := hG.2.2.2.2.1
  have w1 := gOK_w hN hG hW
  have gW1 := lvA_G hb hG h2 hp hW
  have w2 := gOK_w hN hG gW1
  have gW2 := lvA_G hb hG h2 hp gW1
  have w3 := gOK_w hN hG gW2
  have g152 : ∀ S', RB m0 a0 (trB a0 N (K p) p E W).1 (trB a0 N (K p) p E W).2 S' → pv_go rq_T49 3 (pv_call rq_mt (d + 5)) P (152, bdL p, [], S') := by
    intro S' hS'
    have g := h S' hS'
    obtain ⟨m, a, rfl, hR⟩ := hS'
    refine pv_run [58] 10 ?_
    show pv_go rq_T49 3 (pv_call rq_mt (d + 5)) P (58, [(0, .ref 0), (1, .int (nI p + 1))], [], rs m a)
    rw [nI_1]
    exact g
  unfold trB at g152
  obtain ⟨m, a, rfl, hR⟩ := hS
  have s5 : a r_around = a0 r_around := hR.1.2 5 (by omega)
  have s3 : a r_sort = a0 r_sort := hR.1.2 3 (by omega)
  have et : triF a (K p) (a r_around p) ↔ trN a0 (K p) (a0 r_around p) = 1 := by
    rw [← trN_iff, s5]
    have : ∀ (k : Nat) (x : Int32), triF a k x ↔ triF a0 k x := by
      intro k
      induction k with
      | zero => intro x; exact Iff.rfl
      | succ k ih =>
        intro x
        show (a r_sort (dN x) = 84 ∨ triF a k (a r_around (dN x))) ↔ (a0 r_sort (dN x) = 84 ∨ triF a0 k (a0 r_around (dN x)))
        rw [s3, s5, ih]
    exact this _ _
  have i1 : vp_in (nI p) 260 := vp_in_nI (by omega) (by decide)
  have cp : (nI p).toNatClampNeg = p := nI_clamp (by omega)
  refine pv_run [152] 60 ?_
  refine rc_isTried (d + 4) m a (by omega) (lnA_congr (a := a0) s5 (K p) _ (by rw [s5]; exact hk)) _ (fun z => ?_) (fun z => ?_)
  · rw [if_pos (et.mp z)] at g152
    refine And.intro (fun u => absurd u (by decide)) (fun _ => ?_)
    refine rc_pnt (d + 4) (rs m a) p 0 _ ?_
    refine rc_leave (d + 3) hN hs hbr w1 hp (c := 2) (by omega) hk ⟨m, a, rfl, hR⟩ _ (fun S1 hS1 => ?_)
    obtain ⟨m1, a1, rfl, hR1⟩ := hS1
    refine rc_go (f := 5 * p + 0) (d + 3) ⟨m1, a1, rfl, hR1⟩ (by omega) (by omega) _ _ (fun S2 hS2 => ?_)
    have L1 := edF_len (5 * p + 0) (lvR a0 N 2 (K p) p (a0 r_around p) W).1 0 E
    obtain ⟨m2, a2, rfl, hR2⟩ := hS2
    refine And.intro i1 ?_
    have e3 : a2 r_sort (nI p).toNatClampNeg = a0 r_sort p := by rw [cp, hR2.1.2 3 (by omega)]
    refine And.intro (fun y => ?_) (fun y => ?_)
    · have y : a2 r_sort (nI p).toNatClampNeg = 61 := y
      rw [e3] at y
      rw [if_pos y] at g152
      refine rc_pnt (d + 4) (rs m2 a2) p 1 _ ?_
      refine rc_leave (d + 3) hN hs hbr w2 hp (c := 2) (by omega) hk ⟨m2, a2, rfl, hR2⟩ _ (fun S3 hS3 => ?_)
      obtain ⟨m3, a3, rfl, hR3⟩ := hS3
      refine rc_go (f := 5 * p + 1) (d + 3) ⟨m3, a3, rfl, hR3⟩ (by omega) (by omega) _ _ (fun S4 hS4 => ?_)
      have L2 := edF_len (5 * p + 1) (lvR a0 N 2 (K p) p (a0 r_around p) (lvR a0 N 2 (K p) p (a0 r_around p) W).2).1 0 (edF (5 * p + 0) (lvR a0 N 2 (K p) p (a0 r_around p) W).1 0 E)
      obtain ⟨m4, a4, rfl, hR4⟩ := hS4
      refine rc_pnt (d + 4) (rs m4 a4) p 2 _ ?_
      refine rc_leave (d + 3) hN hs hbr w3 hp (c := 2) (by omega) hk ⟨m4, a4, rfl, hR4⟩ _ (fun S5 hS5 => ?_)
      obtain ⟨m5, a5, rfl, hR5⟩ := hS5
      exact rc_go (f := 5 * p + 2) (d + 3) ⟨m5, a5, rfl, hR5⟩ (by omega) (by omega) _ _ g152
    · have y : ¬ a2 r_sort (nI p).toNatClampNeg = 61 := y
      rw [e3] at y
      rw [if_neg y] at g152
      exact g152 _ ⟨m2, a2, rfl, hR2⟩
  · rw [if_neg (fun u => z (et.mpr u))] at g152
    exact And.intro (fun _ => g152 _ ⟨m, a, rfl, hR⟩) (fun u => absurd rfl u)
set_option maxRecDepth 100000 in
theorem bd_58 (d : Nat) {N : Nat} {K : Nat → Nat} (hN : N ≤ 260) (hs : m0 r_nodes = nI N) (hb : bdOK a0 N K) {G : wL_T → Prop} {okC : Nat → Prop} (hG : gOK a0 N G okC) (P : pv_R) : ∀ (j p : Nat) (E : eL_T) (W : wL_T) (S : pv_S), p + j = N → G W → E.length ≤ N + 1 + 3 * sC a0 N 0 p + 12 * p → RB m0 a0 E W S → (∀ S', RB m0 a0 (bdG a0 N K j p E W).1 (bdG a0 N K j p E W).2 S' → G (bdG a0 N K j p E W).2 → pv_go rq_T49 3 (pv_call rq_mt (d + 5)) P (158, bdL N, [], S')) → pv_go rq_T49 3 (pv_call rq_mt (d + 5)) P (58, bdL p, [], S) := by
  intro j
  induction j with
  | zero =>
    intro p E W S hpj hW hE hS h
    have e : p = N := by omega
    subst e
    have g := h S hS hW
    obtain ⟨m, a, rfl, hR⟩ := hS
    have le : m 2 ≤ nI p := by rw [hR.1.1 2 (by omega), show m0 2 = nI p from hs]; exact Int32.le_refl _
    refine pv_run [158] 20 ?_
    exact And.intro (fun _ => g) (fun q => absurd le q)
  | succ j ih =>
    intro p E W S hpj hW hE hS h
    have hp : p < N := by omega
    have hsc := sC_le a0 N 0 p (by omega)
    have hsl := stB_len a0 N (K p) p E W
    have e1 : sC a0 N 0 (p + 1) = sC a0 N 0 p + cC a0 (nI p) N 0 := rfl
    have nxt : ∀ S', RB m0 a0 (stB a0 N (K p) p E W).1 (stB a0 N (K p) p E W).2 S' → pv_go rq_T49 3 (pv_call rq_mt (d + 5)) P (58, bdL (p + 1), [], S') := fun S' hS' => ih (p + 1) _ _ S' (by omega) (stB_G hb hG hp E hW) (by omega) hS' h
    unfold stB at nxt
    have hl : (if a0 r_isStmt p = 0 then (beF a0 p (rchG a0 (nI p) 0 N 0 0) (rchG a0 (nI p) 0 N 0 1) (rchG a0 (nI p) 0 N 0 2) E, W) else bsF a0 N (K p) p (rchG a0 (nI p) 0 N 0 0) (rchG a0 (nI p) 1 N 0 0) (rchG a0 (nI p) 0 N 0 1) (rchG a0 (nI p) 1 N 0 1) E W).1.length ≤ E.length + 3 * cC a0 (nI p) N 0 + 8 :=
      len_ite (fun _ => Nat.le_trans (beF_len _ _ _ _ _ _) (by omega)) (fun _ => bsF_len _ _ _ _ _ _ _ _ _ _)
    have hsc2 := sC_le a0 N 0 (p + 1) (by omega)
    have hg : G (if a0 r_isStmt p = 0 then (beF a0 p (rchG a0 (nI p) 0 N 0 0) (rchG a0 (nI p) 0 N 0 1) (rchG a0 (nI p) 0 N 0 2) E, W) else bsF a0 N (K p) p (rchG a0 (nI p) 0 N 0 0) (rchG a0 (nI p) 1 N 0 0) (rchG a0 (nI p) 0 N 0 1) (rchG a0 (nI p) 1 N 0 1) E W).2 := g_ite (fun _ => hW) (fun z => bsF_G hb hG hp z _ _ _ _ _ hW)
    have g88 : ∀ S', RB m0 a0 (if a0 r_isStmt p = 0 then (beF a0 p (rchG a0 (nI p) 0 N 0 0) (rchG a0 (nI p) 0 N 0 1) (rchG a0 (nI p) 0 N 0 2) E, W) else bsF a0 N (K p) p (rchG a0 (nI p) 0 N 0 0) (rchG a0 (nI p) 1 N 0 0) (rchG a0 (nI p) 0 N 0 1) (rchG a0 (nI p) 1 N 0 1) E W).1 (if a0 r_isStmt p = 0 then (beF a0 p (rchG a0 (nI p) 0 N 0 0) (rchG a0 (nI p) 0 N 0 1) (rchG a0 (nI p) 0 N 0 2) E, W) else bsF a0 N (K p) p (rchG a0 (nI p) 0 N 0 0) (rchG a0 (nI p) 1 N 0 0) (rchG a0 (nI p) 0 N 0 1) (rchG a0 (nI p) 1 N 0 1) E W).2 S' → pv_go rq_T49 3 (pv_call rq_mt (d + 5)) P (88, bdL p, [], S') := fun S' hS' => bd_88 d hN hp hs hb hG hg hS' (by omega) P nxt
    obtain ⟨m, a, rfl, hR⟩ := hS
    have nle : ¬ m 2 ≤ nI p := by
      rw [hR.1.1 2 (by omega), show m0 2 = nI N from hs, nI_leI (by omega) (by omega)]
      omega
    have i1 : vp_in (nI p) 260 := vp_in_nI (by omega) (by decide)
    have cp : (nI p).toNatClampNeg = p := nI_clamp (by omega)
    have e8 : a r_isStmt (nI p).toNatClampNeg = a0 r_isStmt p := by rw [cp, hR.1.2 8 (by omega)]
    refine pv_run [88] 40 ?_
    refine And.intro (fun z => absurd z nle) (fun _ => ?_)
    refine And.intro i1 ?_
    refine And.intro (fun z => ?_) (fun z => ?_)
    · have z : a r_isStmt (nI p).toNatClampNeg = 0 := z
      rw [e8] at z
      rw [if_pos z] at g88
      obtain ⟨g1, g2, g3⟩ := (hb.2.2 p hp).2 z
      exact rc_buildE (d + 1) hN hp hs hb.1 g1 g2 g3 ⟨m, a, rfl, hR⟩ (by omega) _ g88
    · have z : ¬ a r_isStmt (nI p).toNatClampNeg = 0 := z
      rw [e8] at z
      rw [if_neg z] at g88
      obtain ⟨g1, g2⟩ := (hb.2.2 p hp).1 z
      exact rc_buildStmt d hN hp hs hb.1 (hb.2.1 p hp).1 g1 g2 (gOK_w hN hG hW) ⟨m, a, rfl, hR⟩ (by omega) _ g88
end RB14
