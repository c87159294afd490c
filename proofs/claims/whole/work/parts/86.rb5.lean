/-- where a walk goes that leaves with this code, along the nodes around -/
def lvR (a : Nat → Nat → Int32) (N code : Nat) : Nat → Nat → Int32 → wL_T → Int32 × wL_T
  | 0, _, _, W => (-1, W)
  | k + 1, inner, x, W =>
    if a r_sort (dN x) = 84 ∧ code = 2 ∧ a r_part inner = 0 ∧ ¬ a r_hasCatch (dN x) = 0 then (nI (1301 + 3 * dN x), W)
    else if a r_sort (dN x) = 84 ∧ ¬ a r_hasEnd (dN x) = 0 ∧ a r_part inner < 2 then (nI (wyF (dN x) code W).1, (wyF (dN x) code W).2)
    else if 2 < code ∧ dN x = (code - 3) / 2 then ((if code % 2 = 1 then nI (5 * dN x + 3) else 5 * oI (rchG a (nI (dN x)) 0 N 0 (if a r_sort (dN x) = 70 then 1 else 0)) + 0), W)
    else lvR a N code k (dN x) (a r_around (dN x)) W
theorem div2 {x : Nat} (h : x < 1000) : nI x / 2 = nI (x / 2) := by
  have : ∀ x : Fin 1000, nI x.1 / 2 = nI (x.1 / 2) := by decide +kernel
  exact this ⟨x, h⟩
theorem rem2 {x : Nat} (h : x < 1000) : nI x - nI x / 2 * 2 = nI (x % 2) := by
  have : ∀ x : Fin 1000, nI x.1 - nI x.1 / 2 * 2 = nI (x.1 % 2) := by decide +kernel
  exact this ⟨x, h⟩
theorem mul3 {q : Nat} : (1301 : Int32) + 3 * nI q = nI (1301 + 3 * q) := by
  rw [← nI_add]
  congr 1
  induction q with
  | zero => rfl
  | succ p ih =>
    rw [← nI_1, Int32.mul_add, ih, Int32.mul_one, show (3 : Int32) = nI 3 from rfl, nI_add]
    congr 1
section RB5
variable {m0 : Nat → Int32} {a0 : Nat → Nat → Int32}
abbrev lvQ (p c : Nat) (inner x : Int32) : pv_L := [(0, .ref 0), (1, .int (nI p)), (2, .int (nI c)), (3, .int inner), (4, .int x)]
set_option maxRecDepth 100000 in
theorem rl_149 (d : Nat) (m : Nat → Int32) (a : Nat → Nat → Int32) (p c : Nat) (inner : Int32) {q : Nat} (hq : q < 260) (P : pv_R) (h : pv_go rq_T48 0 (pv_call rq_mt d) P (10, lvQ p c (nI q) (a r_around q), [], rs m a)) : pv_go rq_T48 0 (pv_call rq_mt d) P (149, lvQ p c inner (nI q), [], rs m a) := by
  have i1 : vp_in (nI q) 260 := vp_in_nI (by omega) (by decide)
  have c1 : (nI q).toNatClampNeg = q := nI_clamp (by omega)
  refine pv_run [10] 20 ?_
  refine And.intro i1 ?_
  show pv_go rq_T48 0 (pv_call rq_mt d) P (10, [(0, .ref 0), (1, .int (nI p)), (2, .int (nI c)), (3, .int (nI q)), (4, .int (a r_around (nI q).toNatClampNeg))], [], rs m a)
  rw [c1]
  exact h
set_option maxRecDepth 100000 in
theorem rl_89 (d : Nat) (m : Nat → Int32) (a : Nat → Nat → Int32) {N : Nat} (hN : N ≤ 260) (hs : m r_nodes = nI N) (hb : bRow a N) (p : Nat) {c q : Nat} (hc : c < 1000) (hq : q < 260) (inner : Int32) (P : pv_R)
    (h1 : 2 < c ∧ q = (c - 3) / 2 → P (some (.int (if c % 2 = 1 then nI (5 * q + 3) else 5 * oI (rchG a (nI q) 0 N 0 (if a r_sort q = 70 then 1 else 0)) + 0))) (rs m a))
    (h0 : ¬ (2 < c ∧ q = (c - 3) / 2) → pv_go rq_T48 0 (pv_call rq_mt (d + 1)) P (149, lvQ p c inner (nI q), [], rs m a)) : pv_go rq_T48 0 (pv_call rq_mt (d + 1)) P (89, lvQ p c inner (nI q), [], rs m a) := by
  have i1 : vp_in (nI q) 260 := vp_in_nI (by omega) (by decide)
  have c1 : (nI q).toNatClampNeg = q := nI_clamp (by omega)
  refine pv_run [149] 60 ?_
  refine And.intro (fun z => ?_) (fun z => ?_)
  · have z : nI c ≤ 2 := z
    rw [show (2 : Int32) = nI 2 from rfl, nI_leI (by omega) (by omega)] at z
    exact h0 (by omega)
  · have z : ¬ nI c ≤ 2 := z
    rw [show (2 : Int32) = nI 2 from rfl, nI_leI (by omega) (by omega)] at z
    have e3 : nI c - 3 = nI (c - 3) := by
      have : nI (c - 3) + nI 3 = nI c := by rw [nI_add, Nat.sub_add_cancel (by omega)]
      rw [← this, show (3 : Int32) = nI 3 from rfl, Int32.add_sub_cancel]
    refine And.intro (by decide) ?_
    refine And.intro (fun y => ?_) (fun y => ?_)
    · have y : nI q = (nI c - 3) / 2 := y
      rw [e3, div2 (by omega), nI_eq (by omega) (by omega)] at y
      have h1 := h1 ⟨by omega, y⟩
      refine And.intro (by decide) ?_
      refine And.intro (fun u => ?_) (fun u => ?_)
      · have u : nI c - nI c / 2 * 2 = 1 := u
        rw [rem2 hc, show (1 : Int32) = nI 1 from rfl, nI_eq (by omega) (by omega)] at u
        rw [if_pos u] at h1
        exact rc_pnt d (rs m a) q 3 _ h1
      · have u : ¬ nI c - nI c / 2 * 2 = 1 := u
        rw [rem2 hc, show (1 : Int32) = nI 1 from rfl, nI_eq (by omega) (by omega)] at u
        rw [if_neg u] at h1
        refine And.intro i1 ?_
        refine And.intro (fun v => ?_) (fun v => ?_)
        · have v : a r_sort (nI q).toNatClampNeg = 70 := v
          rw [c1] at v
          rw [if_pos v] at h1
          refine rc_child d m a (k := 1) hN hs hb (by omega) (nI q) 0 _ ?_
          exact rc_point d (rs m a) _ 0 _ h1
        · have v : ¬ a r_sort (nI q).toNatClampNeg = 70 := v
          rw [c1] at v
          rw [if_neg v] at h1
          refine rc_child d m a (k := 0) hN hs hb (by omega) (nI q) 0 _ ?_
          exact rc_point d (rs m a) _ 0 _ h1
    · have y : ¬ nI q = (nI c - 3) / 2 := y
      rw [e3, div2 (by omega), nI_eq (by omega) (by omega)] at y
      exact h0 (fun u => y u.2)
set_option maxRecDepth 100000 in
theorem rl_61 (d : Nat) (m : Nat → Int32) (a : Nat → Nat → Int32) (p : Nat) {c q r : Nat} (hq : q < 260) (hr : r < 260) (P : pv_R)
    (h1 : ¬ a r_hasEnd q = 0 ∧ a r_part r < 2 → pv_call rq_mt d rq_m_R_way [.ref 0, .int (nI q), .int (nI c)] (rs m a) (fun o S => ∃ v, o = some (.int v) ∧ P (some (.int v)) S))
    (h0 : ¬ (¬ a r_hasEnd q = 0 ∧ a r_part r < 2) → pv_go rq_T48 0 (pv_call rq_mt d) P (89, lvQ p c (nI r) (nI q), [], rs m a)) : pv_go rq_T48 0 (pv_call rq_mt d) P (61, lvQ p c (nI r) (nI q), [], rs m a) := by
  have i1 : vp_in (nI q) 260 := vp_in_nI (by omega) (by decide)
  have c1 : (nI q).toNatClampNeg = q := nI_clamp (by omega)
  have i2 : vp_in (nI r) 260 := vp_in_nI (by omega) (by decide)
  have c2 : (nI r).toNatClampNeg = r := nI_clamp (by omega)
  refine pv_run [89] 40 ?_
  refine And.intro i1 ?_
  refine And.intro (fun z => ?_) (fun z => ?_)
  · have z : a r_hasEnd (nI q).toNatClampNeg = 0 := z
    rw [c1] at z
    exact h0 (fun u => u.1 z)
  · have z : ¬ a r_hasEnd (nI q).toNatClampNeg = 0 := z
    rw [c1] at z
    refine And.intro i2 ?_
    refine And.intro (fun y => ?_) (fun y => ?_)
    · have y : 2 ≤ a r_part (nI r).toNatClampNeg := y
      rw [c2] at y
      exact h0 (fun u => absurd u.2 (Int32.not_lt.mpr y))
    · have y : ¬ 2 ≤ a r_part (nI r).toNatClampNeg := y
      rw [c2] at y
      refine pv_call_cm _ _ _ _ _ _ _ ?_ (h1 ⟨z, Int32.not_le.mp y⟩)
      rintro o S ⟨v, rfl, hv⟩
      exact hv
set_option maxRecDepth 100000 in
theorem rl_10 (d : Nat) {N : Nat} (hN : N ≤ 260) (hs : m0 r_nodes = nI N) (hb : bRow a0 N) {E : eL_T} {W : wL_T} (hW : wOK W) (p : Nat) {c : Nat} (hc : c < 1000) (P : pv_R) : ∀ (k inner : Nat) (x : Int32), inner < 260 → lnA a0 k x → ∀ S, RB m0 a0 E W S → (∀ S', RB m0 a0 E (lvR a0 N c k inner x W).2 S' → P (some (.int (lvR a0 N c k inner x W).1)) S') → pv_go rq_T48 0 (pv_call rq_mt (d + 1)) P (10, lvQ p c (nI inner) x, [], S) := by
  intro k
  induction k with
  | zero =>
    intro inner x hi hx S hS h
    have hx : x = -1 := hx
    subst hx
    have g := h S hS
    refine pv_run [] 20 ?_
    exact And.intro (fun _ => g) (fun q => absurd rfl q)
  | succ k ih =>
    intro inner x hi hx S hS h
    obtain ⟨q, ⟨rfl, hq⟩, hx2⟩ := hx
    have e0 : lvR a0 N c (k + 1) inner (nI q) W = (if a0 r_sort q = 84 ∧ c = 2 ∧ a0 r_part inner = 0 ∧ ¬ a0 r_hasCatch q = 0 then (nI (1301 + 3 * q), W)
    else if a0 r_sort q = 84 ∧ ¬ a0 r_hasEnd q = 0 ∧ a0 r_part inner < 2 then (nI (wyF q c W).1, (wyF q c W).2)
    else if 2 < c ∧ q = (c - 3) / 2 then ((if c % 2 = 1 then nI (5 * q + 3) else 5 * oI (rchG a0 (nI q) 0 N 0 (if a0 r_sort q = 70 then 1 else 0)) + 0), W)
    else lvR a0 N c k q (a0 r_around q) W) := by
      have ed : dN (nI q) = q := nI_clamp (by omega)
      show (if a0 r_sort (dN (nI q)) = 84 ∧ c = 2 ∧ a0 r_part inner = 0 ∧ ¬ a0 r_hasCatch (dN (nI q)) = 0 then (nI (1301 + 3 * dN (nI q)), W)
    else if a0 r_sort (dN (nI q)) = 84 ∧ ¬ a0 r_hasEnd (dN (nI q)) = 0 ∧ a0 r_part inner < 2 then (nI (wyF (dN (nI q)) c W).1, (wyF (dN (nI q)) c W).2)
    else if 2 < c ∧ dN (nI q) = (c - 3) / 2 then ((if c % 2 = 1 then nI (5 * dN (nI q) + 3) else 5 * oI (rchG a0 (nI (dN (nI q))) 0 N 0 (if a0 r_sort (dN (nI q)) = 70 then 1 else 0)) + 0), W)
    else lvR a0 N c k (dN (nI q)) (a0 r_around (dN (nI q))) W) = _
      rw [ed]
    rw [e0] at h
    obtain ⟨m, a, rfl, hR⟩ := hS
    have st : ∀ j, ¬ ((46 ≤ j ∧ j ≤ 49) ∨ j = 52 ∨ j = 53) → a j = a0 j := hR.1.2
    have s3 : a r_sort = a0 r_sort := st 3 (by omega)
    have s6 : a r_part = a0 r_part := st 6 (by omega)
    have s15 : a r_hasCatch = a0 r_hasCatch := st 15 (by omega)
    have s16 : a r_hasEnd = a0 r_hasEnd := st 16 (by omega)
    have s5 : a r_around = a0 r_around := st 5 (by omega)
    have s8 : a r_isStmt = a0 r_isStmt := st 8 (by omega)
    have s45 : a r_byNumber = a0 r_byNumber := st 45 (by omega)
    have hsm : m r_nodes = nI N := (hR.1.1 2 (by omega)).trans hs
    have hba : bRow a N := by intro i hi2; rw [s45]; exact hb i hi2
    have rch_eq : ∀ (p' s' : Int32) (j i k' : Nat), rchG a p' s' j i k' = rchG a0 p' s' j i k' := by
      intro p' s' j
      induction j with
      | zero => intro i k'; rfl
      | succ j ihj =>
        intro i k'
        unfold rchG
        rw [s45, s5, s8, ihj, ihj]
    have i1 : vp_in (nI q) 260 := vp_in_nI (by omega) (by decide)
    have c1 : (nI q).toNatClampNeg = q := nI_clamp (by omega)
    have i2 : vp_in (nI inner) 260 := vp_in_nI (by omega) (by decide)
    have c2 : (nI inner).toNatClampNeg = inner := nI_clamp (by omega)
    have g89 : ¬ (a0 r_sort q = 84 ∧ c = 2 ∧ a0 r_part inner = 0 ∧ ¬ a0 r_hasCatch q = 0) → ¬ (a0 r_sort q = 84 ∧ ¬ a0 r_hasEnd q = 0 ∧ a0 r_part inner < 2) → pv_go rq_T48 0 (pv_call rq_mt (d + 1)) P (89, lvQ p c (nI inner) (nI q), [], rs m a) := by
      intro n1 n2
      rw [if_neg n1, if_neg n2] at h
      refine rl_89 d m a hN hsm hba p hc hq (nI inner) P (fun z => ?_) (fun z => ?_)
      · rw [if_pos z] at h
        rw [rch_eq, s3]
        exact h _ ⟨m, a, rfl, hR⟩
      · rw [if_neg z] at h
        refine rl_149 (d + 1) m a p c (nI inner) hq P ?_
        rw [s5]
        exact ih q (a0 r_around q) hq hx2 _ ⟨m, a, rfl, hR⟩ h
    have g61 : a0 r_sort q = 84 → ¬ (a0 r_sort q = 84 ∧ c = 2 ∧ a0 r_part inner = 0 ∧ ¬ a0 r_hasCatch q = 0) → pv_go rq_T48 0 (pv_call rq_mt (d + 1)) P (61, lvQ p c (nI inner) (nI q), [], rs m a) := by
      intro n0 n1
      refine rl_61 (d + 1) m a p hq hi P (fun z => ?_) (fun z => ?_)
      · rw [s16, s6] at z
        rw [if_neg n1, if_pos ⟨n0, z⟩] at h
        exact rc_way d ⟨m, a, rfl, hR⟩ hW (by omega) (by omega) _ (fun S' hS' => ⟨_, rfl, h S' hS'⟩)
      · rw [s16, s6] at z
        exact g89 n1 (fun u => z u.2)
    refine pv_run [61, 89] 60 ?_
    refine And.intro (fun z => ?_) (fun _ => ?_)
    · have z : nI q = -1 := z
      exact absurd z (nI_ne_m1 (by omega))
    refine And.intro i1 ?_
    refine And.intro (fun z => ?_) (fun z => ?_)
    · have z : a r_sort (nI q).toNatClampNeg = 84 := z
      rw [c1, s3] at z
      refine And.intro (fun y => ?_) (fun y => ?_)
      · have y : nI c = 2 := y
        rw [show (2 : Int32) = nI 2 from rfl, nI_eq (by omega) (by omega)] at y
        refine And.intro i2 ?_
        refine And.intro (fun u => ?_) (fun u => ?_)
        · have u : a r_part (nI inner).toNatClampNeg = 0 := u
          rw [c2, s6] at u
          refine And.intro i1 ?_
          refine And.intro (fun v => ?_) (fun v => ?_)
          · have v : a r_hasCatch (nI q).toNatClampNeg = 0 := v
            rw [c1, s15] at v
            exact g61 z (fun t => t.2.2.2 v)
          · have v : ¬ a r_hasCatch (nI q).toNatClampNeg = 0 := v
            rw [c1, s15] at v
            rw [if_pos ⟨z, y, u, v⟩] at h
            have g := h _ ⟨m, a, rfl, hR⟩
            have g : P (some (.int ((1301 : Int32) + 3 * nI q))) (rs m a) := by rw [mul3]; exact g
            exact g
        · have u : ¬ a r_part (nI inner).toNatClampNeg = 0 := u
          rw [c2, s6] at u
          exact g61 z (fun t => u t.2.2.1)
      · have y : ¬ nI c = 2 := y
        rw [show (2 : Int32) = nI 2 from rfl, nI_eq (by omega) (by omega)] at y
        exact g61 z (fun t => y t.2.1)
    · have z : ¬ a r_sort (nI q).toNatClampNeg = 84 := z
      rw [c1, s3] at z
      exact g89 (fun t => z t.1) (fun t => z t.1)
set_option maxRecDepth 100000 in
theorem rc_leave (d : Nat) {N p k : Nat} (hN : N ≤ 260) (hs : m0 r_nodes = nI N) (hb : bRow a0 N) {E : eL_T} {W : wL_T} (hW : wOK W) (hp : p < N) {c : Nat} (hc : c < 1000) (hk : lnA a0 k (a0 r_around p)) {S : pv_S} (hS : RB m0 a0 E W S) (P : pv_R) (h : ∀ S', RB m0 a0 E (lvR a0 N c k p (a0 r_around p) W).2 S' → P (some (.int (lvR a0 N c k p (a0 r_around p) W).1)) S') : pv_call rq_mt (d + 2) rq_m_R_leave [.ref 0, .int (nI p), .int (nI c)] S P := by
  obtain ⟨m, a, rfl, hR⟩ := hS
  have i1 : vp_in (nI p) 260 := vp_in_nI (by omega) (by decide)
  have c1 : (nI p).toNatClampNeg = p := nI_clamp (by omega)
  have s5 : a r_around = a0 r_around := hR.1.2 5 (by omega)
  have g := rl_10 d hN hs hb hW p hc P k p (a0 r_around p) (by omega) hk _ ⟨m, a, rfl, hR⟩ h
  refine pv_call_of rfl rfl rfl (pv_run [10] 20 ?_)
  refine And.intro i1 ?_
  show pv_go rq_T48 0 (pv_call rq_mt (d + 1)) P (10, [(0, .ref 0), (1, .int (nI p)), (2, .int (nI c)), (3, .int (nI p)), (4, .int (a r_around (nI p).toNatClampNeg))], [], rs m a)
  rw [c1, s5]
  exact g
end RB5
