section CM
variable {l : Nat → Nat → Int64} {w : Int64}
/-- the way out from a place that ended before p: steps, the last place left, where it stands -/
def puA (a : Nat → Nat → Int32) (N p : Nat) : Nat → Nat → Nat → Nat → Nat → Prop
  | 0, s, o, s', o' => s = s' ∧ o = o'
  | j + 1, _, o, s', o' => ∃ q r e, (o = q + 1 ∧ q < N) ∧ (a c_P_end q = nI e ∧ e ≤ p) ∧ (a c_P_around q = oI r ∧ r ≤ 241) ∧ puA a N p j (q + 1) r s' o'
abbrev kL5 (p s o k : Nat) : pv_L := [(0, .ref 2), (1, .int (nI p)), (2, .int (oI s)), (3, .int (oI o)), (4, .int (nI k))]
set_option maxRecDepth 100000 in
theorem lk_19 (d : Nat) (m : Nat → Int32) (a : Nat → Nat → Int32) {N p s' o' : Nat} (hN : N ≤ 241) (hp : p < N) (hs : m c_P_size = nI N) (hstop : o' = 0 ∨ ∃ q e, (o' = q + 1 ∧ q < N) ∧ (a c_P_end q = nI e ∧ p < e ∧ e ≤ 241)) (P : pv_R)
    (h : ∀ k, pv_go cq_T22 3 (pv_call cq_mt (d + 1)) P (60, kL5 p s' o' k, [], cs m a l w)) : ∀ (j k s o : Nat), puA a N p j s o s' o' → k + j ≤ 241 → pv_go cq_T22 3 (pv_call cq_mt (d + 1)) P (19, kL5 p s o k, [], cs m a l w) := by
  intro j
  induction j with
  | zero =>
    intro k s o hpu hk
    obtain ⟨rfl, rfl⟩ := hpu
    have h := h k
    rcases hstop with rfl | ⟨q, e, ⟨rfl, hq⟩, he, hpe, he2⟩
    · refine pv_run [60] 40 ?_
      refine And.intro (fun _ => h) (fun _ => ?_)
      refine cc_hasNo d m a _ ?_
      exact And.intro (fun _ => h) (fun q => absurd rfl q)
    · have i1 : vp_in (nI q) 241 := vp_in_nI (by omega) (by decide)
      have c1 : (nI q).toNatClampNeg = q := nI_clamp (by omega)
      have h : pv_go cq_T22 3 (pv_call cq_mt (d + 1)) P (60, [(0, .ref 2), (1, .int (nI p)), (2, .int (oI s)), (3, .int (nI q)), (4, .int (nI k))], [], cs m a l w) := by rw [← oI_s q]; exact h
      show pv_go cq_T22 3 (pv_call cq_mt (d + 1)) P (19, [(0, .ref 2), (1, .int (nI p)), (2, .int (oI s)), (3, .int (oI (q + 1))), (4, .int (nI k))], [], cs m a l w)
      rw [oI_s q]
      refine pv_run [60] 40 ?_
      refine And.intro (fun _ => h) (fun _ => ?_)
      refine cc_has d m a (p := q) (b := N) (by omega) (by omega) hs _ (fun _ => ?_) (fun r => absurd hq r)
      refine And.intro (fun r => absurd r (by decide)) (fun _ => ?_)
      refine And.intro i1 ?_
      refine And.intro (fun _ => h) (fun r => ?_)
      have r : ¬ nI p < a c_P_end (nI q).toNatClampNeg := r
      rw [c1, he, nI_ltI (by omega) (by omega)] at r
      exact absurd hpe r
  | succ j ih =>
    intro k s o hpu hk
    obtain ⟨q, r, e, ⟨rfl, hq⟩, ⟨he, hpe⟩, ⟨hr, hr2⟩, hpu⟩ := hpu
    have i1 : vp_in (nI q) 241 := vp_in_nI (by omega) (by decide)
    have c1 : (nI q).toNatClampNeg = q := nI_clamp (by omega)
    show pv_go cq_T22 3 (pv_call cq_mt (d + 1)) P (19, [(0, .ref 2), (1, .int (nI p)), (2, .int (oI s)), (3, .int (oI (q + 1))), (4, .int (nI k))], [], cs m a l w)
    rw [oI_s q]
    have nk : ¬ (241 : Int32) ≤ nI k := by
      rw [show (241 : Int32) = nI 241 from rfl, nI_leI (by omega) (by omega)]
      omega
    refine pv_run [60, 19] 40 ?_
    refine And.intro (fun z => absurd z nk) (fun _ => ?_)
    refine cc_has d m a (p := q) (b := N) (by omega) (by omega) hs _ (fun _ => ?_) (fun r => absurd hq r)
    refine And.intro (fun r => absurd r (by decide)) (fun _ => ?_)
    refine And.intro i1 ?_
    refine And.intro (fun z => ?_) (fun _ => ?_)
    · exfalso
      have z : nI p < a c_P_end (nI q).toNatClampNeg := z
      rw [c1, he, nI_ltI (by omega) (by omega)] at z
      omega
    refine And.intro i1 ?_
    show pv_go cq_T22 3 (pv_call cq_mt (d + 1)) P (19, [(0, .ref 2), (1, .int (nI p)), (2, .int (nI q)), (3, .int (a c_P_around (nI q).toNatClampNeg)), (4, .int (nI k + 1))], [], cs m a l w)
    rw [c1, hr, nI_1, ← oI_s q]
    exact ih (k + 1) (q + 1) r hpu (by omega)
set_option maxRecDepth 100000 in
theorem lk_60 (d : Nat) (m : Nat → Int32) (a : Nat → Nat → Int32) {N p s o k : Nat} (hN : N ≤ 241) (hp : p < N) (hs : m c_P_size = nI N) (hsp : s ≤ p) (P : pv_R)
    (h : pv_go cq_T22 3 (pv_call cq_mt (d + 1)) P (93, kL5 p s o k, [], cs m (up2 (up2 a c_P_around p (oI o)) c_P_part p (if s = 0 then 0 else a c_P_part (s - 1) + 1)) l w)) : pv_go cq_T22 3 (pv_call cq_mt (d + 1)) P (60, kL5 p s o k, [], cs m a l w) := by
  have i1 : vp_in (nI p) 241 := vp_in_nI (by omega) (by decide)
  have c1 : (nI p).toNatClampNeg = p := nI_clamp (by omega)
  have g : pv_go cq_T22 3 (pv_call cq_mt (d + 1)) P (67, kL5 p s o k, [], cs m (up2 a c_P_around p (oI o)) l w) := by
    generalize ha1 : up2 a c_P_around p (oI o) = a1 at h
    have r8 : a1 c_P_part = a c_P_part := by rw [← ha1]; exact up2_row (by decide)
    cases s with
    | zero =>
      rw [if_pos rfl] at h
      refine pv_run [93] 40 ?_
      refine cc_hasNo d m a1 _ ?_
      refine And.intro (fun _ => ?_) (fun q => absurd rfl q)
      refine And.intro i1 ?_
      show pv_go cq_T22 3 (pv_call cq_mt (d + 1)) P (93, kL5 p 0 o k, [], cs m (up2 a1 c_P_part (nI p).toNatClampNeg 0) l w)
      rw [c1]
      exact h
    | succ q =>
      rw [if_neg (by omega), show q + 1 - 1 = q from rfl, ← r8] at h
      have i2 : vp_in (nI q) 241 := vp_in_nI (by omega) (by decide)
      have c2 : (nI q).toNatClampNeg = q := nI_clamp (by omega)
      have h : pv_go cq_T22 3 (pv_call cq_mt (d + 1)) P (93, [(0, .ref 2), (1, .int (nI p)), (2, .int (nI q)), (3, .int (oI o)), (4, .int (nI k))], [], cs m (up2 a1 c_P_part p (a1 c_P_part q + 1)) l w) := by rw [← oI_s q]; exact h
      show pv_go cq_T22 3 (pv_call cq_mt (d + 1)) P (67, [(0, .ref 2), (1, .int (nI p)), (2, .int (oI (q + 1))), (3, .int (oI o)), (4, .int (nI k))], [], cs m a1 l w)
      rw [oI_s q]
      refine pv_run [93] 40 ?_
      refine cc_has d m a1 (p := q) (b := N) (by omega) (by omega) hs _ (fun _ => ?_) (fun r => absurd (show q < N by omega) r)
      refine And.intro (fun r => absurd r (by decide)) (fun _ => ?_)
      refine And.intro i2 ?_
      refine And.intro i1 ?_
      show pv_go cq_T22 3 (pv_call cq_mt (d + 1)) P (93, [(0, .ref 2), (1, .int (nI p)), (2, .int (nI q)), (3, .int (oI o)), (4, .int (nI k))], [], cs m (up2 a1 c_P_part (nI p).toNatClampNeg (a1 c_P_part (nI q).toNatClampNeg + 1)) l w)
      rw [c1, c2]
      exact h
  refine pv_run [67] 20 ?_
  refine And.intro i1 ?_
  show pv_go cq_T22 3 (pv_call cq_mt (d + 1)) P (67, kL5 p s o k, [], cs m (up2 a c_P_around (nI p).toNatClampNeg (oI o)) l w)
  rw [c1]
  exact g
set_option maxRecDepth 100000 in
theorem lk_93 (d : Nat) (m : Nat → Int32) (a : Nat → Nat → Int32) {N p s o k : Nat} (hN : N ≤ 241) (hp : p < N) (hs : m c_P_size = nI N) (hop : o ≤ p) (P : pv_R)
    (h : pv_go cq_T22 3 (pv_call cq_mt (d + 1)) P (117, kL5 p s o k, [], cs m (up2 a c_P_tryAround p (if o = 0 then -1 else a c_P_tryAround (o - 1))) l w)) : pv_go cq_T22 3 (pv_call cq_mt (d + 1)) P (93, kL5 p s o k, [], cs m a l w) := by
  have i1 : vp_in (nI p) 241 := vp_in_nI (by omega) (by decide)
  have c1 : (nI p).toNatClampNeg = p := nI_clamp (by omega)
  cases o with
  | zero =>
    rw [if_pos rfl] at h
    refine pv_run [117] 40 ?_
    refine cc_hasNo d m a _ ?_
    refine And.intro (fun _ => ?_) (fun q => absurd rfl q)
    refine And.intro i1 ?_
    show pv_go cq_T22 3 (pv_call cq_mt (d + 1)) P (117, kL5 p s 0 k, [], cs m (up2 a c_P_tryAround (nI p).toNatClampNeg (-1)) l w)
    rw [c1]
    exact h
  | succ q =>
    rw [if_neg (by omega), show q + 1 - 1 = q from rfl] at h
    have i2 : vp_in (nI q) 241 := vp_in_nI (by omega) (by decide)
    have c2 : (nI q).toNatClampNeg = q := nI_clamp (by omega)
    have h : pv_go cq_T22 3 (pv_call cq_mt (d + 1)) P (117, [(0, .ref 2), (1, .int (nI p)), (2, .int (oI s)), (3, .int (nI q)), (4, .int (nI k))], [], cs m (up2 a c_P_tryAround p (a c_P_tryAround q)) l w) := by rw [← oI_s q]; exact h
    show pv_go cq_T22 3 (pv_call cq_mt (d + 1)) P (93, [(0, .ref 2), (1, .int (nI p)), (2, .int (oI s)), (3, .int (oI (q + 1))), (4, .int (nI k))], [], cs m a l w)
    rw [oI_s q]
    refine pv_run [117] 40 ?_
    refine cc_has d m a (p := q) (b := N) (by omega) (by omega) hs _ (fun _ => ?_) (fun r => absurd (show q < N by omega) r)
    refine And.intro (fun r => absurd r (by decide)) (fun _ => ?_)
    refine And.intro i2 ?_
    refine And.intro i1 ?_
    show pv_go cq_T22 3 (pv_call cq_mt (d + 1)) P (117, [(0, .ref 2), (1, .int (nI p)), (2, .int (oI s)), (3, .int (nI q)), (4, .int (nI k))], [], cs m (up2 a c_P_tryAround (nI p).toNatClampNeg (a c_P_tryAround (nI q).toNatClampNeg)) l w)
    rw [c1, c2]
    exact h
set_option maxRecDepth 100000 in
theorem lk_117 (d : Nat) (m : Nat → Int32) (a : Nat → Nat → Int32) {N p s o k : Nat} (hN : N ≤ 241) (hp : p < N) (hs : m c_P_size = nI N) (hop : o ≤ p) (P : pv_R)
    (h : pv_go cq_T22 3 (pv_call cq_mt (d + 1)) P (141, kL5 p s o k, [], cs m (up2 a c_P_tryPart p (if o = 0 then -1 else a c_P_tryPart (o - 1))) l w)) : pv_go cq_T22 3 (pv_call cq_mt (d + 1)) P (117, kL5 p s o k, [], cs m a l w) := by
  have i1 : vp_in (nI p) 241 := vp_in_nI (by omega) (by decide)
  have c1 : (nI p).toNatClampNeg = p := nI_clamp (by omega)
  cases o with
  | zero =>
    rw [if_pos rfl] at h
    refine pv_run [141] 40 ?_
    refine cc_hasNo d m a _ ?_
    refine And.intro (fun _ => ?_) (fun q => absurd rfl q)
    refine And.intro i1 ?_
    show pv_go cq_T22 3 (pv_call cq_mt (d + 1)) P (141, kL5 p s 0 k, [], cs m (up2 a c_P_tryPart (nI p).toNatClampNeg (-1)) l w)
    rw [c1]
    exact h
  | succ q =>
    rw [if_neg (by omega), show q + 1 - 1 = q from rfl] at h
    have i2 : vp_in (nI q) 241 := vp_in_nI (by omega) (by decide)
    have c2 : (nI q).toNatClampNeg = q := nI_clamp (by omega)
    have h : pv_go cq_T22 3 (pv_call cq_mt (d + 1)) P (141, [(0, .ref 2), (1, .int (nI p)), (2, .int (oI s)), (3, .int (nI q)), (4, .int (nI k))], [], cs m (up2 a c_P_tryPart p (a c_P_tryPart q)) l w) := by rw [← oI_s q]; exact h
    show pv_go cq_T22 3 (pv_call cq_mt (d + 1)) P (117, [(0, .ref 2), (1, .int (nI p)), (2, .int (oI s)), (3, .int (oI (q + 1))), (4, .int (nI k))], [], cs m a l w)
    rw [oI_s q]
    refine pv_run [141] 40 ?_
    refine cc_has d m a (p := q) (b := N) (by omega) (by omega) hs _ (fun _ => ?_) (fun r => absurd (show q < N by omega) r)
    refine And.intro (fun r => absurd r (by decide)) (fun _ => ?_)
    refine And.intro i2 ?_
    refine And.intro i1 ?_
    show pv_go cq_T22 3 (pv_call cq_mt (d + 1)) P (141, [(0, .ref 2), (1, .int (nI p)), (2, .int (oI s)), (3, .int (nI q)), (4, .int (nI k))], [], cs m (up2 a c_P_tryPart (nI p).toNatClampNeg (a c_P_tryPart (nI q).toNatClampNeg)) l w)
    rw [c1, c2]
    exact h
set_option maxRecDepth 100000 in
theorem lk_141 (d : Nat) (m : Nat → Int32) (a : Nat → Nat → Int32) {N p s o k : Nat} (hN : N ≤ 241) (hp : p < N) (hs : m c_P_size = nI N) (hop : o ≤ p) (P : pv_R)
    (h : pv_go cq_T22 3 (pv_call cq_mt (d + 3)) P (2, kL5 (p + 1) s o k, [], cs m (if ¬ o = 0 ∧ a c_P_sort (o - 1) = 84 then ltA a p (o - 1) (ltK a p (o - 1)) else a) l w)) : pv_go cq_T22 3 (pv_call cq_mt (d + 3)) P (141, kL5 p s o k, [], cs m a l w) := by
  have fin : ∀ a' : Nat → Nat → Int32, pv_go cq_T22 3 (pv_call cq_mt (d + 3)) P (2, kL5 (p + 1) s o k, [], cs m a' l w) → pv_go cq_T22 3 (pv_call cq_mt (d + 3)) P (166, kL5 p s o k, [], cs m a' l w) := by
    intro a' h
    refine pv_run [2] 10 ?_
    show pv_go cq_T22 3 (pv_call cq_mt (d + 3)) P (2, [(0, .ref 2), (1, .int (nI p + 1)), (2, .int (oI s)), (3, .int (oI o)), (4, .int (nI k))], [], cs m a' l w)
    rw [nI_1]
    exact h
  cases o with
  | zero =>
    rw [if_neg (fun q => q.1 rfl)] at h
    refine pv_run [166] 40 ?_
    refine cc_hasNo (d + 2) m a _ ?_
    exact And.intro (fun _ => fin a h) (fun q => absurd rfl q)
  | succ q =>
    rw [show q + 1 - 1 = q from rfl] at h
    have i2 : vp_in (nI q) 241 := vp_in_nI (by omega) (by decide)
    have c2 : (nI q).toNatClampNeg = q := nI_clamp (by omega)
    have fin : ∀ a' : Nat → Nat → Int32, pv_go cq_T22 3 (pv_call cq_mt (d + 3)) P (2, kL5 (p + 1) s (q + 1) k, [], cs m a' l w) → pv_go cq_T22 3 (pv_call cq_mt (d + 3)) P (166, [(0, .ref 2), (1, .int (nI p)), (2, .int (oI s)), (3, .int (nI q)), (4, .int (nI k))], [], cs m a' l w) := by
      intro a' h
      have this : pv_go cq_T22 3 (pv_call cq_mt (d + 3)) P (166, [(0, .ref 2), (1, .int (nI p)), (2, .int (oI s)), (3, .int (oI (q + 1))), (4, .int (nI k))], [], cs m a' l w) := fin a' h
      rw [oI_s q] at this
      exact this
    show pv_go cq_T22 3 (pv_call cq_mt (d + 3)) P (141, [(0, .ref 2), (1, .int (nI p)), (2, .int (oI s)), (3, .int (oI (q + 1))), (4, .int (nI k))], [], cs m a l w)
    rw [oI_s q]
    refine pv_run [166] 40 ?_
    refine cc_has (d + 2) m a (p := q) (b := N) (by omega) (by omega) hs _ (fun _ => ?_) (fun r => absurd (show q < N by omega) r)
    refine And.intro (fun r => absurd r (by decide)) (fun _ => ?_)
    refine And.intro i2 ?_
    refine And.intro (fun z => ?_) (fun z => ?_)
    · have z : a c_P_sort (nI q).toNatClampNeg = 84 := z
      rw [c2] at z
      rw [if_pos ⟨by omega, z⟩] at h
      exact cc_linkToTry d m a (t := q) (b := N) (by omega) hN hs (by omega) _ (fin _ h)
    · have z : ¬ a c_P_sort (nI q).toNatClampNeg = 84 := z
      rw [c2] at z
      rw [if_neg (fun r => z r.2)] at h
      exact fin a h
/-- one round of link -/
def lkA (a : Nat → Nat → Int32) (p s o : Nat) : Nat → Nat → Int32 :=
  let a1 := up2 (up2 a c_P_around p (oI o)) c_P_part p (if s = 0 then 0 else a c_P_part (s - 1) + 1)
  let a2 := up2 a1 c_P_tryAround p (if o = 0 then -1 else a c_P_tryAround (o - 1))
  let a3 := up2 a2 c_P_tryPart p (if o = 0 then -1 else a c_P_tryPart (o - 1))
  if ¬ o = 0 ∧ a c_P_sort (o - 1) = 84 then ltA a3 p (o - 1) (ltK a p (o - 1)) else a3
abbrev kLx (p : Nat) (L : pv_L) : pv_L := [(0, .ref 2), (1, .int (nI p))] ++ L
def kxOK (L : pv_L) : Prop := L = [] ∨ ∃ s o k : Nat, L = [(2, .int (oI s)), (3, .int (oI o)), (4, .int (nI k))]
set_option maxRecDepth 100000 in
theorem lk_step (d : Nat) (m : Nat → Int32) (a : Nat → Nat → Int32) {N p s' o' j : Nat} (hN : N ≤ 241) (hp : p < N) (hs : m c_P_size = nI N) (hsp : s' ≤ p) (hop : o' ≤ p) (hstop : o' = 0 ∨ ∃ q e, (o' = q + 1 ∧ q < N) ∧ (a c_P_end q = nI e ∧ p < e ∧ e ≤ 241)) (hpu : puA a N p j 0 p s' o') (hj : j ≤ 241) (P : pv_R)
    (h : ∀ L, kxOK L → pv_go cq_T22 3 (pv_call cq_mt (d + 3)) P (2, kLx (p + 1) L, [], cs m (lkA a p s' o') l w)) : ∀ L, kxOK L → pv_go cq_T22 3 (pv_call cq_mt (d + 3)) P (2, kLx p L, [], cs m a l w) := by
  intro L hL
  have nlt : ¬ m 4 ≤ nI p := by
    rw [show m 4 = nI N from hs, nI_leI (by omega) (by omega)]
    omega
  have r9 : (up2 (up2 a c_P_around p (oI o')) c_P_part p (if s' = 0 then 0 else a c_P_part (s' - 1) + 1)) c_P_tryAround = a c_P_tryAround := by rw [up2_row (by decide), up2_row (by decide)]
  have main : pv_go cq_T22 3 (pv_call cq_mt (d + 3)) P (19, kL5 p 0 p 0, [], cs m a l w) := by
    refine lk_19 (d + 2) m a hN hp hs hstop P (fun k => ?_) j 0 0 p hpu (by omega)
    refine lk_60 (d + 2) m a hN hp hs hsp P ?_
    refine lk_93 (d + 2) m _ hN hp hs hop P ?_
    rw [r9]
    refine lk_117 (d + 2) m _ hN hp hs hop P ?_
    refine lk_141 d m _ hN hp hs hop P ?_
    have h := h [(2, .int (oI s')), (3, .int (oI o')), (4, .int (nI k))] (Or.inr ⟨s', o', k, rfl⟩)
    unfold lkA at h
    simp only at h
    have e10 : (up2 (up2 (up2 a c_P_around p (oI o')) c_P_part p (if s' = 0 then 0 else a c_P_part (s' - 1) + 1)) c_P_tryAround p (if o' = 0 then -1 else a c_P_tryAround (o' - 1))) c_P_tryPart = a c_P_tryPart := by rw [up2_row (by decide), up2_row (by decide), up2_row (by decide)]
    rw [e10]
    generalize hA : up2 (up2 (up2 (up2 a c_P_around p (oI o')) c_P_part p (if s' = 0 then 0 else a c_P_part (s' - 1) + 1)) c_P_tryAround p (if o' = 0 then -1 else a c_P_tryAround (o' - 1))) c_P_tryPart p (if o' = 0 then -1 else a c_P_tryPart (o' - 1)) = A at h ⊢
    have r2 : A c_P_sort = a c_P_sort := by rw [← hA, up2_row (by decide), up2_row (by decide), up2_row (by decide), up2_row (by decide)]
    have r12 : A c_P_catchFrom = a c_P_catchFrom := by rw [← hA, up2_row (by decide), up2_row (by decide), up2_row (by decide), up2_row (by decide)]
    have r13 : A c_P_finallyFrom = a c_P_finallyFrom := by rw [← hA, up2_row (by decide), up2_row (by decide), up2_row (by decide), up2_row (by decide)]
    have rk : ltK A p (o' - 1) = ltK a p (o' - 1) := by unfold ltK; rw [r12, r13]
    rw [r2, rk]
    exact h
  have e1 : nI p - 1 = oI p := by
    cases p with
    | zero => rfl
    | succ q => rw [nI_pred, oI_s]
  have main : pv_go cq_T22 3 (pv_call cq_mt (d + 3)) P (19, [(0, .ref 2), (1, .int (nI p)), (2, .int (-1)), (3, .int (nI p - 1)), (4, .int 0)], [], cs m a l w) := by rw [e1]; exact main
  rcases hL with rfl | ⟨s, o, k, rfl⟩
  · refine pv_run [19] 40 ?_
    exact And.intro (fun q => absurd q nlt) (fun _ => main)
  · refine pv_run [19] 40 ?_
    exact And.intro (fun q => absurd q nlt) (fun _ => main)
set_option maxRecDepth 100000 in
theorem lk_end (d : Nat) (m : Nat → Int32) (a : Nat → Nat → Int32) {N : Nat} (hs : m c_P_size = nI N) (P : pv_R) (h : P none (cs m a l w)) : ∀ L, kxOK L → pv_go cq_T22 3 (pv_call cq_mt d) P (2, kLx N L, [], cs m a l w) := by
  intro L hL
  have le : m 4 ≤ nI N := by rw [show m 4 = nI N from hs]; exact Int32.le_refl _
  rcases hL with rfl | ⟨s, o, k, rfl⟩
  · refine pv_run [] 40 ?_
    exact And.intro (fun _ => h) (fun q => absurd le q)
  · refine pv_run [] 40 ?_
    exact And.intro (fun _ => h) (fun q => absurd le q)
set_option maxRecDepth 100000 in
theorem cc_link (d : Nat) (m : Nat → Int32) (a : Nat → Nat → Int32) (P : pv_R) (h : pv_go cq_T22 3 (pv_call cq_mt d) P (2, kLx 0 [], [], cs m a l w)) : pv_call cq_mt (d + 1) cq_m_Places_link [.ref 2] (cs m a l w) P := by
  refine pv_call_of rfl rfl rfl (pv_run [2] 10 ?_)
  exact h
end CM
