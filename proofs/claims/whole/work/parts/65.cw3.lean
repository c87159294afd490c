abbrev V2 : Type := Int32 × Int32
def ifV (a : Nat → Nat → Int32) (N p q : Nat) : V2 := if a c_P_part p = 0 then (oI (chF a N q 1), orV (chF a N q 2) (nI (241 + q))) else (nI (241 + q), nI (241 + q))
def lpV (a : Nat → Nat → Int32) (N p q t b : Nat) : V2 := if a c_P_part p = nI t then (oI (chF a N q b), nI (241 + q)) else if a c_P_part p = nI b then (oI (chF a N q (if a c_P_sort q = 87 then 0 else 1)), oI (chF a N q (if a c_P_sort q = 87 then 0 else 1))) else (oI (chF a N q t), oI (chF a N q t))
def tyV (a : Nat → Nat → Int32) (p t nx : Nat) : V2 := if ¬ nx = 0 ∧ a c_P_part (nx - 1) = a c_P_part p then (oI nx, oI nx) else if a c_P_part p = 2 then (nI 964, nI 964) else (endT a t, endT a t)
def exV (a : Nat → Nat → Int32) (N p q nx : Nat) : V2 := if a c_P_sort q = 33 then (nI (482 + q), nI (241 + q)) else if a c_P_sort q = 38 then (orV nx (nI (241 + q)), nI (482 + q)) else if a c_P_sort q = 124 then (nI (241 + q), orV nx (nI (482 + q))) else if a c_P_sort q = 63 ∧ a c_P_part p = 0 then (oI nx, oI (chF a N q 2)) else (nI (241 + q), nI (482 + q))
section CW3
variable {l : Nat → Nat → Int64} {w : Int64}
theorem pT_ (q : Nat) : (241 : Int32) + nI q = nI (241 + q) := nI_add 241 q
theorem pF_ (q : Nat) : (482 : Int32) + nI q = nI (482 + q) := nI_add 482 q
theorem pN_ (q : Nat) : (723 : Int32) + nI q = nI (723 + q) := nI_add 723 q
set_option maxRecDepth 100000 in
theorem cc_linkIf (d : Nat) (m : Nat → Int32) (a : Nat → Nat → Int32) {N p q : Nat} (hN : N ≤ 241) (hp : p < N) (hq : q < N) (hs : m c_P_size = nI N) (hE : eRow a N) (P : pv_R) (h : P none (cs m (wyA a p (ifV a N p q).1 (ifV a N p q).2) l w)) : pv_call cq_mt (d + 3) cq_m_Ways_linkIf [.ref 4, .int (nI p), .int (nI q)] (cs m a l w) P := by
  have i1 : vp_in (nI p) 241 := vp_in_nI (by omega) (by decide)
  have c1 : (nI p).toNatClampNeg = p := nI_clamp (by omega)
  have f1 := chF_le (a := a) (N := N) (p := q) (k := 1)
  have f2 := chF_le (a := a) (N := N) (p := q) (k := 2)
  unfold ifV at h
  refine pv_call_of rfl rfl rfl (pv_run [] 60 ?_)
  refine And.intro i1 ?_
  refine And.intro (fun z => ?_) (fun z => ?_)
  · have z : a c_P_part (nI p).toNatClampNeg = 0 := z
    rw [c1] at z
    rw [if_pos z] at h
    refine cc_child d m a (k := 1) hN hq (by omega) hs hE _ ?_
    refine cc_beginOf (d + 1) (cs m a l w) (by omega) _ ?_
    refine cc_child d m a (k := 2) hN hq (by omega) hs hE _ ?_
    refine cc_beginOr (d + 1) (cs m a l w) (by omega) _ _ ?_
    refine cc_send (d + 1) m a (by omega) _ _ _ ?_
    rw [pT_]
    exact h
  · have z : ¬ a c_P_part (nI p).toNatClampNeg = 0 := z
    rw [c1] at z
    rw [if_neg z] at h
    refine cc_sendBoth d m a (by omega) _ _ ?_
    rw [pT_]
    exact h
set_option maxRecDepth 100000 in
theorem ll_39 (d : Nat) (m : Nat → Int32) (a : Nat → Nat → Int32) {N p q t b : Nat} (hN : N ≤ 241) (hp : p < N) (hq : q < N) (ht : t ≤ 2) (hb : b ≤ 2) (hs : m c_P_size = nI N) (hE : eRow a N) (s : Int32) (P : pv_R) (h : P none (cs m (wyA a p (lpV a N p q t b).1 (lpV a N p q t b).2) l w)) : pv_go cq_T86 3 (pv_call cq_mt (d + 3)) P (39, [(0, .ref 4), (1, .int (nI p)), (2, .int (nI q)), (3, .int s), (4, .int (nI t)), (5, .int (nI b))], [], cs m a l w) := by
  have i1 : vp_in (nI p) 241 := vp_in_nI (by omega) (by decide)
  have c1 : (nI p).toNatClampNeg = p := nI_clamp (by omega)
  have f1 := chF_le (a := a) (N := N) (p := q) (k := b)
  have f2 := chF_le (a := a) (N := N) (p := q) (k := t)
  have f3 := chF_le (a := a) (N := N) (p := q) (k := if a c_P_sort q = 87 then 0 else 1)
  unfold lpV at h
  refine pv_run [] 60 ?_
  refine And.intro i1 ?_
  refine And.intro (fun z => ?_) (fun z => ?_)
  · have z : a c_P_part (nI p).toNatClampNeg = nI t := z
    rw [c1] at z
    rw [if_pos z] at h
    refine cc_child (d + 1) m a (k := b) hN hq (by omega) hs hE _ ?_
    refine cc_beginOf (d + 2) (cs m a l w) (by omega) _ ?_
    refine cc_send (d + 2) m a (by omega) _ _ _ ?_
    rw [pT_]
    exact h
  · have z : ¬ a c_P_part (nI p).toNatClampNeg = nI t := z
    rw [c1] at z
    rw [if_neg z] at h
    refine And.intro i1 ?_
    refine And.intro (fun y => ?_) (fun y => ?_)
    · have y : a c_P_part (nI p).toNatClampNeg = nI b := y
      rw [c1] at y
      rw [if_pos y] at h
      refine cc_nextRound d m a hN hq hs hE _ ?_
      refine cc_beginOf (d + 2) (cs m a l w) (by omega) _ ?_
      exact cc_sendBoth (d + 1) m a (by omega) _ _ h
    · have y : ¬ a c_P_part (nI p).toNatClampNeg = nI b := y
      rw [c1] at y
      rw [if_neg y] at h
      refine cc_child (d + 1) m a (k := t) hN hq (by omega) hs hE _ ?_
      refine cc_beginOf (d + 2) (cs m a l w) (by omega) _ ?_
      exact cc_sendBoth (d + 1) m a (by omega) _ _ h
def lpW (a : Nat → Nat → Int32) (N p q : Nat) : V2 := if a c_P_sort q = 68 then lpV a N p q 1 0 else if a c_P_sort q = 70 then lpV a N p q 0 2 else lpV a N p q 0 1
set_option maxRecDepth 100000 in
theorem cc_linkLoop (d : Nat) (m : Nat → Int32) (a : Nat → Nat → Int32) {N p q : Nat} (hN : N ≤ 241) (hp : p < N) (hq : q < N) (hs : m c_P_size = nI N) (hE : eRow a N) (P : pv_R) (h : P none (cs m (wyA a p (lpW a N p q).1 (lpW a N p q).2) l w)) : pv_call cq_mt (d + 4) cq_m_Ways_linkLoop [.ref 4, .int (nI p), .int (nI q)] (cs m a l w) P := by
  have i1 : vp_in (nI q) 241 := vp_in_nI (by omega) (by decide)
  have c1 : (nI q).toNatClampNeg = q := nI_clamp (by omega)
  unfold lpW at h
  refine pv_call_of rfl rfl rfl (pv_run [39] 60 ?_)
  refine And.intro i1 ?_
  refine And.intro (fun z => ?_) (fun z => ?_)
  · have z : a c_P_sort (nI q).toNatClampNeg = 68 := z
    have z' := z
    rw [c1] at z'
    rw [if_pos z'] at h
    refine And.intro (fun y => ?_) (fun _ => ?_)
    · have y : a c_P_sort (nI q).toNatClampNeg = 70 := y
      rw [z] at y
      exact absurd y (by decide)
    · exact ll_39 d m a (t := 1) (b := 0) hN hp hq (by omega) (by omega) hs hE _ P h
  · have z : ¬ a c_P_sort (nI q).toNatClampNeg = 68 := z
    rw [c1] at z
    rw [if_neg z] at h
    refine And.intro (fun y => ?_) (fun y => ?_)
    · have y : a c_P_sort (nI q).toNatClampNeg = 70 := y
      rw [c1] at y
      rw [if_pos y] at h
      exact ll_39 d m a (t := 0) (b := 2) hN hp hq (by omega) (by omega) hs hE _ P h
    · have y : ¬ a c_P_sort (nI q).toNatClampNeg = 70 := y
      rw [c1] at y
      rw [if_neg y] at h
      exact ll_39 d m a (t := 0) (b := 1) hN hp hq (by omega) (by omega) hs hE _ P h
abbrev teL (p t nx : Nat) : pv_L := [(0, .ref 4), (1, .int (nI p)), (2, .int (nI t)), (3, .int (oI nx))]
set_option maxRecDepth 100000 in
theorem te_44 (d : Nat) (m : Nat → Int32) (a : Nat → Nat → Int32) {N p t nx : Nat} (hN : N ≤ 241) (hp : p < N) (ht : t < N) (hs : m c_P_size = nI N) (P : pv_R) (h : P none (cs m (wyA a p (if a c_P_part p = 2 then (nI 964, nI 964) else (endT a t, endT a t) : V2).1 (if a c_P_part p = 2 then (nI 964, nI 964) else (endT a t, endT a t) : V2).2) l w)) : pv_go cq_T88 3 (pv_call cq_mt (d + 3)) P (44, teL p t nx, [], cs m a l w) := by
  have i1 : vp_in (nI p) 241 := vp_in_nI (by omega) (by decide)
  have c1 : (nI p).toNatClampNeg = p := nI_clamp (by omega)
  refine pv_run [] 60 ?_
  refine And.intro i1 ?_
  refine And.intro (fun z => ?_) (fun z => ?_)
  · have z : a c_P_part (nI p).toNatClampNeg = 2 := z
    rw [c1] at z
    rw [if_pos z] at h
    exact cc_sendBoth (d + 1) m a (by omega) _ _ h
  · have z : ¬ a c_P_part (nI p).toNatClampNeg = 2 := z
    rw [c1] at z
    rw [if_neg z] at h
    refine cc_endOfTry d m a hN ht hs _ ?_
    exact cc_sendBoth (d + 1) m a (by omega) _ _ h
set_option maxRecDepth 100000 in
theorem cc_linkTryEnd (d : Nat) (m : Nat → Int32) (a : Nat → Nat → Int32) {N p t nx : Nat} (hN : N ≤ 241) (hp : p < N) (ht : t < N) (hn : nx ≤ N) (hs : m c_P_size = nI N) (P : pv_R) (h : P none (cs m (wyA a p (tyV a p t nx).1 (tyV a p t nx).2) l w)) : pv_call cq_mt (d + 4) cq_m_Ways_linkTryEnd [.ref 4, .int (nI p), .int (nI t), .int (oI nx)] (cs m a l w) P := by
  have i1 : vp_in (nI p) 241 := vp_in_nI (by omega) (by decide)
  have c1 : (nI p).toNatClampNeg = p := nI_clamp (by omega)
  unfold tyV at h
  cases nx with
  | zero =>
    rw [if_neg (fun z => z.1 rfl)] at h
    have g := te_44 (l := l) (w := w) (nx := 0) d m a hN hp ht hs P h
    refine pv_call_of rfl rfl rfl (pv_run [44] 60 ?_)
    refine cc_hasNo (d + 2) m a _ ?_
    exact And.intro (fun _ => g) (fun z => absurd rfl z)
  | succ n =>
    have i2 : vp_in (nI n) 241 := vp_in_nI (by omega) (by decide)
    have c2 : (nI n).toNatClampNeg = n := nI_clamp (by omega)
    rw [show n + 1 - 1 = n from rfl] at h
    have g : ¬ a c_P_part n = a c_P_part p → pv_go cq_T88 3 (pv_call cq_mt (d + 3)) P (44, [(0, .ref 4), (1, .int (nI p)), (2, .int (nI t)), (3, .int (nI n))], [], cs m a l w) := by
      intro z
      rw [if_neg (fun y => z y.2)] at h
      have g : pv_go cq_T88 3 (pv_call cq_mt (d + 3)) P (44, [(0, .ref 4), (1, .int (nI p)), (2, .int (nI t)), (3, .int (oI (n + 1)))], [], cs m a l w) := te_44 (l := l) (w := w) (nx := n + 1) d m a hN hp ht hs P h
      rw [oI_s n] at g
      exact g
    rw [oI_s n]
    refine pv_call_of rfl rfl rfl (pv_run [44] 60 ?_)
    refine cc_has (d + 2) m a (p := n) (b := N) (by omega) (by omega) hs _ (fun _ => ?_) (fun r => absurd (show n < N by omega) r)
    refine And.intro (fun r => absurd r (by decide)) (fun _ => ?_)
    refine And.intro i2 ?_
    refine And.intro i1 ?_
    refine And.intro (fun z => ?_) (fun z => ?_)
    · have z : a c_P_part (nI n).toNatClampNeg = a c_P_part (nI p).toNatClampNeg := z
      rw [c1, c2] at z
      rw [if_pos ⟨by omega, z⟩] at h
      rw [← oI_s n]
      refine cc_beginOf (d + 2) (cs m a l w) (by omega) _ ?_
      exact cc_sendBoth (d + 1) m a (by omega) _ _ h
    · have z : ¬ a c_P_part (nI n).toNatClampNeg = a c_P_part (nI p).toNatClampNeg := z
      rw [c1, c2] at z
      exact g z
set_option maxRecDepth 100000 in
theorem cc_linkExpression (d : Nat) (m : Nat → Int32) (a : Nat → Nat → Int32) {N p q nx : Nat} (hN : N ≤ 241) (hp : p < N) (hq : q < N) (hn : nx ≤ N) (hs : m c_P_size = nI N) (hE : eRow a N) (P : pv_R) (h : P none (cs m (wyA a p (exV a N p q nx).1 (exV a N p q nx).2) l w)) : pv_call cq_mt (d + 3) cq_m_Ways_linkExpression [.ref 4, .int (nI p), .int (nI q), .int (oI nx)] (cs m a l w) P := by
  have i1 : vp_in (nI p) 241 := vp_in_nI (by omega) (by decide)
  have c1 : (nI p).toNatClampNeg = p := nI_clamp (by omega)
  have i2 : vp_in (nI q) 241 := vp_in_nI (by omega) (by decide)
  have c2 : (nI q).toNatClampNeg = q := nI_clamp (by omega)
  have f2 := chF_le (a := a) (N := N) (p := q) (k := 2)
  unfold exV at h
  refine pv_call_of rfl rfl rfl (pv_run [] 80 ?_)
  refine And.intro i2 ?_
  refine And.intro (fun z => ?_) (fun z33 => ?_)
  · have z : a c_P_sort (nI q).toNatClampNeg = 33 := z
    rw [c2] at z
    rw [if_pos z] at h
    refine cc_send (d + 1) m a (by omega) _ _ _ ?_
    rw [pT_, pF_]
    exact h
  have z33 : ¬ a c_P_sort (nI q).toNatClampNeg = 33 := z33
  rw [c2] at z33
  rw [if_neg z33] at h
  refine And.intro (fun z => ?_) (fun z38 => ?_)
  · have z : a c_P_sort (nI q).toNatClampNeg = 38 := z
    rw [c2] at z
    rw [if_pos z] at h
    refine cc_beginOr (d + 1) (cs m a l w) (by omega) _ _ ?_
    refine cc_send (d + 1) m a (by omega) _ _ _ ?_
    rw [pT_, pF_]
    exact h
  have z38 : ¬ a c_P_sort (nI q).toNatClampNeg = 38 := z38
  rw [c2] at z38
  rw [if_neg z38] at h
  refine And.intro (fun z => ?_) (fun z124 => ?_)
  · have z : a c_P_sort (nI q).toNatClampNeg = 124 := z
    rw [c2] at z
    rw [if_pos z] at h
    refine cc_beginOr (d + 1) (cs m a l w) (by omega) _ _ ?_
    refine cc_send (d + 1) m a (by omega) _ _ _ ?_
    rw [pT_, pF_]
    exact h
  have z124 : ¬ a c_P_sort (nI q).toNatClampNeg = 124 := z124
  rw [c2] at z124
  rw [if_neg z124] at h
  refine And.intro i2 ?_
  have other : ¬ (a c_P_sort q = 63 ∧ a c_P_part p = 0) → P none (cs m (wyA a p (241 + nI q) (482 + nI q)) l w) := by
    intro z
    rw [if_neg z] at h
    rw [pT_, pF_]
    exact h
  refine And.intro (fun z => ?_) (fun z => ?_)
  · have z : a c_P_sort (nI q).toNatClampNeg = 63 := z
    rw [c2] at z
    refine And.intro i1 ?_
    refine And.intro (fun y => ?_) (fun y => ?_)
    · have y : a c_P_part (nI p).toNatClampNeg = 0 := y
      rw [c1] at y
      rw [if_pos ⟨z, y⟩] at h
      refine cc_beginOf (d + 1) (cs m a l w) (by omega) _ ?_
      refine cc_child d m a (k := 2) hN hq (by omega) hs hE _ ?_
      refine cc_beginOf (d + 1) (cs m a l w) (by omega) _ ?_
      exact cc_send (d + 1) m a (by omega) _ _ _ h
    · have y : ¬ a c_P_part (nI p).toNatClampNeg = 0 := y
      rw [c1] at y
      exact cc_send (d + 1) m a (by omega) _ _ _ (other (fun z => y z.2))
  · have z : ¬ a c_P_sort (nI q).toNatClampNeg = 63 := z
    rw [c2] at z
    exact cc_send (d + 1) m a (by omega) _ _ _ (other (fun y => z y.1))
def leV (a : Nat → Nat → Int32) (N p q nx : Nat) : V2 :=
  if a c_P_sort q = 58 then (nI (241 + q), nI (241 + q)) else if a c_P_sort q = 59 then (nI (241 + q), nI (241 + q)) else if a c_P_sort q = 68 then lpW a N p q else if a c_P_sort q = 70 then lpW a N p q else if a c_P_sort q = 73 then ifV a N p q else if a c_P_sort q = 82 then (-1, -1) else if a c_P_sort q = 83 then (if a c_P_part p = 0 then (nI (723 + q), nI (723 + q)) else (orV nx (nI (241 + q)), orV nx (nI (241 + q)))) else if a c_P_sort q = 84 then tyV a p q nx else if a c_P_sort q = 87 then lpW a N p q else if a c_P_sort q = 88 then (-1, -1) else if a c_P_sort q = 123 then (orV nx (nI (241 + q)), orV nx (nI (241 + q))) else exV a N p q nx
set_option maxRecDepth 100000 in
theorem le_43 (d : Nat) (m : Nat → Int32) (a : Nat → Nat → Int32) {N p q nx : Nat} (hN : N ≤ 241) (hp : p < N) (hq : q < N) (hn : nx ≤ N) (hs : m c_P_size = nI N) (hE : eRow a N) (P : pv_R) (h : P none (cs m (wyA a p (leV a N p q nx).1 (leV a N p q nx).2) l w)) : pv_go cq_T83 3 (pv_call cq_mt (d + 4)) P (43, teL p q nx, [], cs m a l w) := by
  have i1 : vp_in (nI p) 241 := vp_in_nI (by omega) (by decide)
  have c1 : (nI p).toNatClampNeg = p := nI_clamp (by omega)
  have i2 : vp_in (nI q) 241 := vp_in_nI (by omega) (by decide)
  have c2 : (nI q).toNatClampNeg = q := nI_clamp (by omega)
  have eq : ∀ x : Int32, a c_P_sort (nI q).toNatClampNeg = x ↔ a c_P_sort q = x := by intro x; rw [c2]
  unfold leV at h
  have loop : ∀ v, v = lpW a N p q → P none (cs m (wyA a p v.1 v.2) l w) → pv_go cq_T83 3 (pv_call cq_mt (d + 4)) P (161, teL p q nx, [], cs m a l w) := by
    intro v hv h
    rw [hv] at h
    refine pv_run [] 40 ?_
    exact cc_linkLoop d m a hN hp hq hs hE _ h
  have T2 : P none (cs m (wyA a p (nI (241 + q)) (nI (241 + q))) l w) → pv_go cq_T83 3 (pv_call cq_mt (d + 4)) P (234, teL p q nx, [], cs m a l w) := by
    intro h
    refine pv_run [] 40 ?_
    refine cc_sendBoth (d + 2) m a (by omega) _ _ ?_
    rw [pT_]; exact h
  have N2 : P none (cs m (wyA a p (-1) (-1)) l w) → pv_go cq_T83 3 (pv_call cq_mt (d + 4)) P (247, teL p q nx, [], cs m a l w) := by
    intro h
    refine pv_run [] 40 ?_
    exact cc_sendBoth (d + 2) m a (by omega) _ _ h
  refine pv_run [161, 234, 247] 60 ?_
  refine And.intro i2 ?_
  refine And.intro (fun z => ?_) (fun z58 => ?_)
  · rw [if_pos ((eq 58).mp z)] at h; exact T2 h
  rw [if_neg (fun e => z58 ((eq 58).mpr e))] at h
  refine And.intro (fun z => ?_) (fun z59 => ?_)
  · rw [if_pos ((eq 59).mp z)] at h; exact T2 h
  rw [if_neg (fun e => z59 ((eq 59).mpr e))] at h
  refine And.intro (fun z => ?_) (fun z68 => ?_)
  · rw [if_pos ((eq 68).mp z)] at h; exact loop _ rfl h
  rw [if_neg (fun e => z68 ((eq 68).mpr e))] at h
  refine And.intro (fun z => ?_) (fun z70 => ?_)
  · rw [if_pos ((eq 70).mp z)] at h; exact loop _ rfl h
  rw [if_neg (fun e => z70 ((eq 70).mpr e))] at h
  refine And.intro (fun z => ?_) (fun z73 => ?_)
  · rw [if_pos ((eq 73).mp z)] at h
    exact cc_linkIf (d + 1) m a hN hp hq hs hE _ h
  rw [if_neg (fun e => z73 ((eq 73).mpr e))] at h
  refine And.intro (fun z => ?_) (fun z82 => ?_)
  · rw [if_pos ((eq 82).mp z)] at h; exact N2 h
  rw [if_neg (fun e => z82 ((eq 82).mpr e))] at h
  refine And.intro (fun z => ?_) (fun z83 => ?_)
  · rw [if_pos ((eq 83).mp z)] at h
    refine And.intro i1 ?_
    refine And.intro (fun y => ?_) (fun y => ?_)
    · have y : a c_P_part (nI p).toNatClampNeg = 0 := y
      rw [c1] at y
      rw [if_pos y] at h
      refine cc_sendBoth (d + 2) m a (by omega) _ _ ?_
      rw [pN_]; exact h
    · have y : ¬ a c_P_part (nI p).toNatClampNeg = 0 := y
      rw [c1] at y
      rw [if_neg y] at h
      refine cc_beginOr (d + 3) (cs m a l w) (by omega) _ _ ?_
      refine cc_sendBoth (d + 2) m a (by omega) _ _ ?_
      rw [pT_]; exact h
  rw [if_neg (fun e => z83 ((eq 83).mpr e))] at h
  refine And.intro (fun z => ?_) (fun z84 => ?_)
  · rw [if_pos ((eq 84).mp z)] at h
    exact cc_linkTryEnd d m a hN hp hq hn hs _ h
  rw [if_neg (fun e => z84 ((eq 84).mpr e))] at h
  refine And.intro (fun z => ?_) (fun z87 => ?_)
  · rw [if_pos ((eq 87).mp z)] at h; exact loop _ rfl h
  rw [if_neg (fun e => z87 ((eq 87).mpr e))] at h
  refine And.intro (fun z => ?_) (fun z88 => ?_)
  · rw [if_pos ((eq 88).mp z)] at h; exact N2 h
  rw [if_neg (fun e => z88 ((eq 88).mpr e))] at h
  refine And.intro (fun z => ?_) (fun z123 => ?_)
  · rw [if_pos ((eq 123).mp z)] at h
    refine cc_beginOr (d + 3) (cs m a l w) (by omega) _ _ ?_
    refine cc_sendBoth (d + 2) m a (by omega) _ _ ?_
    rw [pT_]; exact h
  rw [if_neg (fun e => z123 ((eq 123).mpr e))] at h
  exact cc_linkExpression (d + 1) m a hN hp hq hn hs hE _ h
def enV (a : Nat → Nat → Int32) (N p : Nat) : V2 := if a c_P_around p = -1 then (orV (nxF a N p) (nI 964), orV (nxF a N p) (nI 964)) else leV a N p (dN (a c_P_around p)) (nxF a N p)
set_option maxRecDepth 100000 in
theorem cc_linkEnds (d : Nat) (m : Nat → Int32) (a : Nat → Nat → Int32) {N p : Nat} (hN : N ≤ 241) (hp : p < N) (hA : a c_P_around p = -1 ∨ ∃ q, q < N ∧ a c_P_around p = nI q) (hs : m c_P_size = nI N) (hE : eRow a N) (P : pv_R) (h : P none (cs m (wyA a p (enV a N p).1 (enV a N p).2) l w)) : pv_call cq_mt (d + 5) cq_m_Ways_linkEnds [.ref 4, .int (nI p)] (cs m a l w) P := by
  have i1 : vp_in (nI p) 241 := vp_in_nI (by omega) (by decide)
  have c1 : (nI p).toNatClampNeg = p := nI_clamp (by omega)
  have hn := nxF_le (a := a) (N := N) (p := p)
  unfold enV at h
  have g : ∀ o, a c_P_around p = o → pv_go cq_T83 3 (pv_call cq_mt (d + 4)) P (19, [(0, .ref 4), (1, .int (nI p)), (2, .int o), (3, .int (oI (nxF a N p)))], [], cs m a l w) := by
    intro o ho
    rcases hA with e | ⟨q, hq, e⟩
    · rw [if_pos e] at h
      rw [e] at ho
      subst ho
      refine pv_run [43] 40 ?_
      refine cc_hasNo (d + 3) m a _ ?_
      refine And.intro (fun _ => ?_) (fun z => absurd rfl z)
      refine cc_beginOr (d + 3) (cs m a l w) (by omega) _ _ ?_
      exact cc_sendBoth (d + 2) m a (by omega) _ _ h
    · have ne : ¬ a c_P_around p = -1 := by rw [e]; exact nI_ne_m1 (by omega)
      rw [if_neg ne, e, show dN (nI q) = q from nI_clamp (by omega)] at h
      rw [e] at ho
      subst ho
      have g := le_43 (l := l) (w := w) d m a hN hp hq hn hs hE P h
      refine pv_run [43] 40 ?_
      refine cc_has (d + 3) m a (p := q) (b := N) (by omega) (by omega) hs _ (fun _ => ?_) (fun r => absurd hq r)
      exact And.intro (fun z => absurd z (by decide)) (fun _ => g)
  refine pv_call_of rfl rfl rfl (pv_run [19] 40 ?_)
  refine And.intro i1 ?_
  refine cc_next (d + 2) m a hN hp hs hE _ ?_
  show pv_go cq_T83 3 (pv_call cq_mt (d + 4)) P (19, [(0, .ref 4), (1, .int (nI p)), (2, .int (a c_P_around (nI p).toNatClampNeg)), (3, .int (oI (nxF a N p)))], [], cs m a l w)
  rw [c1]
  exact g _ rfl
end CW3
