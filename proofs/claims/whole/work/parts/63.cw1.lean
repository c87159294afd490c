/-! the class's ways: contracts -/
abbrev dN (x : Int32) : Nat := x.toNatClampNeg
def eRow (a : Nat → Nat → Int32) (N : Nat) : Prop := ∀ q, q < N → a c_P_end q = nI (dN (a c_P_end q)) ∧ dN (a c_P_end q) ≤ 241
def chG (a : Nat → Nat → Int32) (N e : Nat) : Nat → Nat → Nat
  | 0, c => c
  | k + 1, c => if c < N ∧ c < e then chG a N e k (dN (a c_P_end c)) else c
/-- place k right within p (0: none, else one more) -/
def chF (a : Nat → Nat → Int32) (N p k : Nat) : Nat := if chG a N (dN (a c_P_end p)) k (p + 1) < N ∧ chG a N (dN (a c_P_end p)) k (p + 1) < dN (a c_P_end p) then chG a N (dN (a c_P_end p)) k (p + 1) + 1 else 0
def nxF (a : Nat → Nat → Int32) (N p : Nat) : Nat := if dN (a c_P_end p) < N ∧ a c_P_around (dN (a c_P_end p)) = a c_P_around p then dN (a c_P_end p) + 1 else 0
def fiF (a : Nat → Nat → Int32) (N t x : Nat) (k : Int32) : Nat := if x < N ∧ x < dN (a c_P_end t) ∧ a c_P_part x = k then x + 1 else 0
section CW
variable {l : Nat → Nat → Int64} {w : Int64}
abbrev chL (p k c i : Nat) : pv_L := [(0, .ref 2), (1, .int (nI p)), (2, .int (nI k)), (3, .int (nI c)), (4, .int (nI i))]
set_option maxRecDepth 100000 in
theorem ch_54 (d : Nat) (m : Nat → Int32) (a : Nat → Nat → Int32) {N p k c i : Nat} (hN : N ≤ 241) (hp : p < N) (hc : c ≤ 241) (hs : m c_P_size = nI N) (hE : eRow a N) (P : pv_R) (h : P (some (.int (oI (if c < N ∧ c < dN (a c_P_end p) then c + 1 else 0)))) (cs m a l w)) : pv_go cq_T27 0 (pv_call cq_mt (d + 1)) P (54, chL p k c i, [], cs m a l w) := by
  have i1 : vp_in (nI p) 241 := vp_in_nI (by omega) (by decide)
  have c1 : (nI p).toNatClampNeg = p := nI_clamp (by omega)
  have e1 := hE p hp
  refine pv_run [] 40 ?_
  refine cc_has d m a (p := c) (b := N) (by omega) (by omega) hs _ (fun q => ?_) (fun q => ?_)
  · refine And.intro (fun r => absurd r (by decide)) (fun _ => ?_)
    refine And.intro i1 ?_
    refine And.intro (fun r => ?_) (fun r => ?_)
    · have r : a c_P_end (nI p).toNatClampNeg ≤ nI c := r
      rw [c1, e1.1, nI_leI (by omega) (by omega)] at r
      rw [if_neg (by omega)] at h
      exact h
    · have r : ¬ a c_P_end (nI p).toNatClampNeg ≤ nI c := r
      rw [c1, e1.1, nI_leI (by omega) (by omega)] at r
      rw [if_pos ⟨q, by omega⟩, oI_s] at h
      exact h
  · refine And.intro (fun _ => ?_) (fun r => absurd rfl r)
    rw [if_neg (by omega)] at h
    exact h
set_option maxRecDepth 100000 in
theorem ch_17 (d : Nat) (m : Nat → Int32) (a : Nat → Nat → Int32) {N p k : Nat} (hN : N ≤ 241) (hp : p < N) (hk : k ≤ 241) (hs : m c_P_size = nI N) (hE : eRow a N) (P : pv_R) : ∀ (j i c : Nat), i + j = k → c ≤ 241 → P (some (.int (oI (if chG a N (dN (a c_P_end p)) j c < N ∧ chG a N (dN (a c_P_end p)) j c < dN (a c_P_end p) then chG a N (dN (a c_P_end p)) j c + 1 else 0)))) (cs m a l w) → pv_go cq_T27 0 (pv_call cq_mt (d + 1)) P (17, chL p k c i, [], cs m a l w) := by
  intro j
  induction j with
  | zero =>
    intro i c hi hc h
    have e : i = k := by omega
    subst e
    have g := ch_54 (k := i) (i := i) d m a hN hp hc hs hE P h
    refine pv_run [54] 20 ?_
    exact And.intro (fun _ => g) (fun q => absurd (Int32.le_refl _) q)
  | succ j ih =>
    intro i c hi hc h
    have i1 : vp_in (nI p) 241 := vp_in_nI (by omega) (by decide)
    have c1 : (nI p).toNatClampNeg = p := nI_clamp (by omega)
    have e1 := hE p hp
    have nlt : ¬ nI k ≤ nI i := by rw [nI_leI (by omega) (by omega)]; omega
    have out : ¬ (c < N ∧ c < dN (a c_P_end p)) → pv_go cq_T27 0 (pv_call cq_mt (d + 1)) P (54, chL p k c i, [], cs m a l w) := by
      intro q
      have eG : chG a N (dN (a c_P_end p)) (j + 1) c = c := if_neg q
      rw [eG] at h
      exact ch_54 d m a hN hp hc hs hE P h
    refine pv_run [54, 17] 40 ?_
    refine And.intro (fun q => absurd q nlt) (fun _ => ?_)
    refine cc_has d m a (p := c) (b := N) (by omega) (by omega) hs _ (fun q => ?_) (fun q => ?_)
    · have i2 : vp_in (nI c) 241 := vp_in_nI (by omega) (by decide)
      have c2 : (nI c).toNatClampNeg = c := nI_clamp (by omega)
      have e2 := hE c q
      refine And.intro (fun r => absurd r (by decide)) (fun _ => ?_)
      refine And.intro i1 ?_
      refine And.intro (fun r => ?_) (fun r => ?_)
      · have r : a c_P_end (nI p).toNatClampNeg ≤ nI c := r
        rw [c1, e1.1, nI_leI (by omega) (by omega)] at r
        exact out (by omega)
      · have r : ¬ a c_P_end (nI p).toNatClampNeg ≤ nI c := r
        rw [c1, e1.1, nI_leI (by omega) (by omega)] at r
        have eG : chG a N (dN (a c_P_end p)) (j + 1) c = chG a N (dN (a c_P_end p)) j (dN (a c_P_end c)) := if_pos ⟨q, by omega⟩
        rw [eG] at h
        refine And.intro i2 ?_
        have g := ih (i + 1) (dN (a c_P_end c)) (by omega) e2.2 h
        show pv_go cq_T27 0 (pv_call cq_mt (d + 1)) P (17, [(0, .ref 2), (1, .int (nI p)), (2, .int (nI k)), (3, .int (a c_P_end (nI c).toNatClampNeg)), (4, .int (nI i + 1))], [], cs m a l w)
        rw [c2, nI_1, e2.1]
        exact g
    · refine And.intro (fun _ => out (by omega)) (fun r => absurd rfl r)
set_option maxRecDepth 100000 in
theorem cc_child (d : Nat) (m : Nat → Int32) (a : Nat → Nat → Int32) {N p k : Nat} (hN : N ≤ 241) (hp : p < N) (hk : k ≤ 241) (hs : m c_P_size = nI N) (hE : eRow a N) (P : pv_R) (h : P (some (.int (oI (chF a N p k)))) (cs m a l w)) : pv_call cq_mt (d + 2) cq_m_Places_child [.ref 2, .int (nI p), .int (nI k)] (cs m a l w) P := by
  refine pv_call_of rfl rfl rfl (pv_run [17] 40 ?_)
  refine cc_has d m a (p := p) (b := N) (by omega) (by omega) hs _ (fun q => ?_) (fun q => absurd hp q)
  refine And.intro (fun r => absurd r (by decide)) (fun _ => ?_)
  have g := ch_17 (l := l) (w := w) d m a hN hp hk hs hE P k 0 (p + 1) (by omega) (by omega) h
  show pv_go cq_T27 0 (pv_call cq_mt (d + 1)) P (17, [(0, .ref 2), (1, .int (nI p)), (2, .int (nI k)), (3, .int (nI p + 1)), (4, .int (nI 0))], [], cs m a l w)
  rw [nI_1]
  exact g
set_option maxRecDepth 100000 in
theorem cc_next (d : Nat) (m : Nat → Int32) (a : Nat → Nat → Int32) {N p : Nat} (hN : N ≤ 241) (hp : p < N) (hs : m c_P_size = nI N) (hE : eRow a N) (P : pv_R) (h : P (some (.int (oI (nxF a N p)))) (cs m a l w)) : pv_call cq_mt (d + 2) cq_m_Places_next [.ref 2, .int (nI p)] (cs m a l w) P := by
  have i1 : vp_in (nI p) 241 := vp_in_nI (by omega) (by decide)
  have c1 : (nI p).toNatClampNeg = p := nI_clamp (by omega)
  have e1 := hE p hp
  unfold nxF at h
  generalize dN (a c_P_end p) = e at *
  have g : pv_go cq_T28 0 (pv_call cq_mt (d + 1)) P (19, [(0, .ref 2), (1, .int (nI p)), (2, .int (nI e))], [], cs m a l w) := by
    refine pv_run [] 40 ?_
    refine cc_has d m a (p := e) (b := N) (by omega) (by omega) hs _ (fun q => ?_) (fun q => ?_)
    · have i2 : vp_in (nI e) 241 := vp_in_nI (by omega) (by decide)
      have c2 : (nI e).toNatClampNeg = e := nI_clamp (by omega)
      refine And.intro (fun r => absurd r (by decide)) (fun _ => ?_)
      refine And.intro i2 ?_
      refine And.intro i1 ?_
      refine And.intro (fun r => ?_) (fun r => ?_)
      · have r : a c_P_around (nI e).toNatClampNeg = a c_P_around (nI p).toNatClampNeg := r
        rw [c1, c2] at r
        rw [if_pos ⟨q, r⟩, oI_s] at h
        exact h
      · have r : ¬ a c_P_around (nI e).toNatClampNeg = a c_P_around (nI p).toNatClampNeg := r
        rw [c1, c2] at r
        rw [if_neg (fun z => r z.2)] at h
        exact h
    · refine And.intro (fun _ => ?_) (fun r => absurd rfl r)
      rw [if_neg (fun z => q z.1)] at h
      exact h
  refine pv_call_of rfl rfl rfl (pv_run [19] 40 ?_)
  refine cc_has d m a (p := p) (b := N) (by omega) (by omega) hs _ (fun q => ?_) (fun q => absurd hp q)
  refine And.intro (fun r => absurd r (by decide)) (fun _ => ?_)
  refine And.intro i1 ?_
  show pv_go cq_T28 0 (pv_call cq_mt (d + 1)) P (19, [(0, .ref 2), (1, .int (nI p)), (2, .int (a c_P_end (nI p).toNatClampNeg))], [], cs m a l w)
  rw [c1, e1.1]
  exact g
set_option maxRecDepth 100000 in
theorem fi_41 (d : Nat) (m : Nat → Int32) (a : Nat → Nat → Int32) {N t x : Nat} (k : Int32) (hN : N ≤ 241) (ht : t < N) (hx : x ≤ 241) (hs : m c_P_size = nI N) (hE : eRow a N) (P : pv_R) (h : P (some (.int (oI (fiF a N t x k)))) (cs m a l w)) : pv_go cq_T26 0 (pv_call cq_mt (d + 1)) P (41, [(0, .ref 2), (1, .int (nI t)), (2, .int k), (3, .int (nI x))], [], cs m a l w) := by
  have i1 : vp_in (nI t) 241 := vp_in_nI (by omega) (by decide)
  have c1 : (nI t).toNatClampNeg = t := nI_clamp (by omega)
  have e1 := hE t ht
  unfold fiF at h
  refine pv_run [] 40 ?_
  refine cc_has d m a (p := x) (b := N) (by omega) (by omega) hs _ (fun q => ?_) (fun q => ?_)
  · have i2 : vp_in (nI x) 241 := vp_in_nI (by omega) (by decide)
    have c2 : (nI x).toNatClampNeg = x := nI_clamp (by omega)
    refine And.intro (fun r => absurd r (by decide)) (fun _ => ?_)
    refine And.intro i1 ?_
    refine And.intro (fun r => ?_) (fun r => ?_)
    · have r : a c_P_end (nI t).toNatClampNeg ≤ nI x := r
      rw [c1, e1.1, nI_leI (by omega) (by omega)] at r
      rw [if_neg (fun z => by omega)] at h
      exact h
    · have r : ¬ a c_P_end (nI t).toNatClampNeg ≤ nI x := r
      rw [c1, e1.1, nI_leI (by omega) (by omega)] at r
      refine And.intro i2 ?_
      refine And.intro (fun z => ?_) (fun z => ?_)
      · have z : a c_P_part (nI x).toNatClampNeg = k := z
        rw [c2] at z
        rw [if_pos ⟨q, by omega, z⟩, oI_s] at h
        exact h
      · have z : ¬ a c_P_part (nI x).toNatClampNeg = k := z
        rw [c2] at z
        rw [if_neg (fun y => z y.2.2)] at h
        exact h
  · refine And.intro (fun _ => ?_) (fun r => absurd rfl r)
    rw [if_neg (fun z => q z.1)] at h
    exact h
set_option maxRecDepth 100000 in
theorem cc_firstIn0 (d : Nat) (m : Nat → Int32) (a : Nat → Nat → Int32) {N t : Nat} (hN : N ≤ 241) (ht : t < N) (hs : m c_P_size = nI N) (hE : eRow a N) (P : pv_R) (h : P (some (.int (oI (fiF a N t (t + 1) 0)))) (cs m a l w)) : pv_call cq_mt (d + 2) cq_m_Places_firstIn [.ref 2, .int (nI t), .int 0] (cs m a l w) P := by
  have g := fi_41 (l := l) (w := w) d m a (x := t + 1) 0 hN ht (by omega) hs hE P h
  refine pv_call_of rfl rfl rfl (pv_run [41] 40 ?_)
  refine cc_has d m a (p := t) (b := N) (by omega) (by omega) hs _ (fun q => ?_) (fun q => absurd ht q)
  refine And.intro (fun r => absurd r (by decide)) (fun _ => ?_)
  refine And.intro (fun r => absurd r (by decide)) (fun _ => ?_)
  refine And.intro (fun r => absurd r (by decide)) (fun _ => ?_)
  show pv_go cq_T26 0 (pv_call cq_mt (d + 1)) P (41, [(0, .ref 2), (1, .int (nI t)), (2, .int 0), (3, .int (nI t + 1))], [], cs m a l w)
  rw [nI_1]
  exact g
set_option maxRecDepth 100000 in
theorem cc_firstIn1 (d : Nat) (m : Nat → Int32) (a : Nat → Nat → Int32) {N t x : Nat} (hN : N ≤ 241) (ht : t < N) (hx : a c_P_catchFrom t = nI x ∧ x ≤ 241) (hs : m c_P_size = nI N) (hE : eRow a N) (P : pv_R) (h : P (some (.int (oI (fiF a N t x 1)))) (cs m a l w)) : pv_call cq_mt (d + 2) cq_m_Places_firstIn [.ref 2, .int (nI t), .int 1] (cs m a l w) P := by
  have i1 : vp_in (nI t) 241 := vp_in_nI (by omega) (by decide)
  have c1 : (nI t).toNatClampNeg = t := nI_clamp (by omega)
  have g := fi_41 (l := l) (w := w) d m a (x := x) 1 hN ht hx.2 hs hE P h
  refine pv_call_of rfl rfl rfl (pv_run [41] 40 ?_)
  refine cc_has d m a (p := t) (b := N) (by omega) (by omega) hs _ (fun q => ?_) (fun q => absurd ht q)
  refine And.intro (fun r => absurd r (by decide)) (fun _ => ?_)
  refine And.intro (fun _ => ?_) (fun r => absurd rfl r)
  refine And.intro i1 ?_
  show pv_go cq_T26 0 (pv_call cq_mt (d + 1)) P (41, [(0, .ref 2), (1, .int (nI t)), (2, .int 1), (3, .int (a c_P_catchFrom (nI t).toNatClampNeg))], [], cs m a l w)
  rw [c1, hx.1]
  exact g
set_option maxRecDepth 100000 in
theorem cc_firstIn2 (d : Nat) (m : Nat → Int32) (a : Nat → Nat → Int32) {N t x : Nat} (hN : N ≤ 241) (ht : t < N) (hx : a c_P_finallyFrom t = nI x ∧ x ≤ 241) (hs : m c_P_size = nI N) (hE : eRow a N) (P : pv_R) (h : P (some (.int (oI (fiF a N t x 2)))) (cs m a l w)) : pv_call cq_mt (d + 2) cq_m_Places_firstIn [.ref 2, .int (nI t), .int 2] (cs m a l w) P := by
  have i1 : vp_in (nI t) 241 := vp_in_nI (by omega) (by decide)
  have c1 : (nI t).toNatClampNeg = t := nI_clamp (by omega)
  have g := fi_41 (l := l) (w := w) d m a (x := x) 2 hN ht hx.2 hs hE P h
  refine pv_call_of rfl rfl rfl (pv_run [41] 40 ?_)
  refine cc_has d m a (p := t) (b := N) (by omega) (by omega) hs _ (fun q => ?_) (fun q => absurd ht q)
  refine And.intro (fun r => absurd r (by decide)) (fun _ => ?_)
  refine And.intro (fun r => absurd r (by decide)) (fun _ => ?_)
  refine And.intro (fun _ => ?_) (fun r => absurd rfl r)
  refine And.intro i1 ?_
  show pv_go cq_T26 0 (pv_call cq_mt (d + 1)) P (41, [(0, .ref 2), (1, .int (nI t)), (2, .int 2), (3, .int (a c_P_finallyFrom (nI t).toNatClampNeg))], [], cs m a l w)
  rw [c1, hx.1]
  exact g
theorem oI_m1 {k : Nat} (hk : k < 2 ^ 20) : oI k = -1 ↔ k = 0 := by
  cases k with
  | zero => exact ⟨fun _ => rfl, fun _ => rfl⟩
  | succ k => rw [oI_s]; exact ⟨fun q => absurd q (nI_ne_m1 (by omega)), fun q => by omega⟩
set_option maxRecDepth 100000 in
theorem cc_beginOf (d : Nat) (S : pv_S) {k : Nat} (hk : k < 2 ^ 20) (P : pv_R) (h : P (some (.int (oI k))) S) : pv_call cq_mt (d + 1) cq_m_Ways_beginOf [.int (oI k)] S P := by
  refine pv_call_of rfl rfl rfl (pv_run [] 20 ?_)
  refine And.intro (fun q => ?_) (fun q => ?_)
  · have q : oI k = -1 := q
    rw [q] at h
    exact h
  · have h : P (some (.int (0 + oI k))) S := by rw [Int32.zero_add]; exact h
    exact h
set_option maxRecDepth 100000 in
theorem cc_beginOr (d : Nat) (S : pv_S) {k : Nat} (hk : k < 2 ^ 20) (y : Int32) (P : pv_R) (h : P (some (.int (if k = 0 then y else oI k))) S) : pv_call cq_mt (d + 1) cq_m_Ways_beginOr [.int (oI k), .int y] S P := by
  refine pv_call_of rfl rfl rfl (pv_run [] 20 ?_)
  refine And.intro (fun q => ?_) (fun q => ?_)
  · have q : oI k = -1 := q
    rw [if_pos ((oI_m1 hk).mp q)] at h
    exact h
  · have q : ¬ oI k = -1 := q
    rw [if_neg (fun e => q ((oI_m1 hk).mpr e))] at h
    have h : P (some (.int (0 + oI k))) S := by rw [Int32.zero_add]; exact h
    exact h
def wyA (a : Nat → Nat → Int32) (p : Nat) (x y : Int32) : Nat → Nat → Int32 := up2 (up2 a c_Y_trueTo p x) c_Y_falseTo p y
set_option maxRecDepth 100000 in
theorem cc_send (d : Nat) (m : Nat → Int32) (a : Nat → Nat → Int32) {p : Nat} (hp : p < 241) (x y : Int32) (P : pv_R) (h : P none (cs m (wyA a p x y) l w)) : pv_call cq_mt (d + 1) cq_m_Ways_send [.ref 4, .int (nI p), .int x, .int y] (cs m a l w) P := by
  have i1 : vp_in (nI p) 241 := vp_in_nI (by omega) (by decide)
  have c1 : (nI p).toNatClampNeg = p := nI_clamp (by omega)
  refine pv_call_of rfl rfl rfl (pv_run [] 20 ?_)
  refine And.intro i1 ?_
  refine And.intro i1 ?_
  have h2 : P none (cs m (wyA a (nI p).toNatClampNeg x y) l w) := by rw [c1]; exact h
  exact h2
set_option maxRecDepth 100000 in
theorem cc_sendBoth (d : Nat) (m : Nat → Int32) (a : Nat → Nat → Int32) {p : Nat} (hp : p < 241) (x : Int32) (P : pv_R) (h : P none (cs m (wyA a p x x) l w)) : pv_call cq_mt (d + 2) cq_m_Ways_sendBoth [.ref 4, .int (nI p), .int x] (cs m a l w) P := by
  refine pv_call_of rfl rfl rfl (pv_run [] 20 ?_)
  exact cc_send d m a hp x x _ h
set_option maxRecDepth 100000 in
theorem cc_nextRound (d : Nat) (m : Nat → Int32) (a : Nat → Nat → Int32) {N t : Nat} (hN : N ≤ 241) (ht : t < N) (hs : m c_P_size = nI N) (hE : eRow a N) (P : pv_R) (h : P (some (.int (oI (chF a N t (if a c_P_sort t = 87 then 0 else 1))))) (cs m a l w)) : pv_call cq_mt (d + 3) cq_m_Ways_nextRound [.ref 4, .int (nI t)] (cs m a l w) P := by
  have i1 : vp_in (nI t) 241 := vp_in_nI (by omega) (by decide)
  have c1 : (nI t).toNatClampNeg = t := nI_clamp (by omega)
  refine pv_call_of rfl rfl rfl (pv_run [31] 40 ?_)
  refine cc_has (d + 1) m a (p := t) (b := N) (by omega) (by omega) hs _ (fun q => ?_) (fun q => absurd ht q)
  refine And.intro (fun r => absurd r (by decide)) (fun _ => ?_)
  refine And.intro i1 ?_
  refine And.intro (fun r => ?_) (fun r => ?_)
  · have r : a c_P_sort (nI t).toNatClampNeg = 87 := r
    rw [c1] at r
    rw [if_pos r] at h
    refine pv_run [] 20 ?_
    refine And.intro (fun z => absurd z (by decide)) (fun _ => ?_)
    exact cc_child d m a (k := 0) hN ht (by omega) hs hE _ h
  · have r : ¬ a c_P_sort (nI t).toNatClampNeg = 87 := r
    rw [c1] at r
    rw [if_neg r] at h
    refine pv_run [] 20 ?_
    refine And.intro (fun _ => ?_) (fun z => absurd rfl z)
    exact cc_child d m a (k := 1) hN ht (by omega) hs hE _ h
set_option maxRecDepth 100000 in
theorem cc_endOfTry (d : Nat) (m : Nat → Int32) (a : Nat → Nat → Int32) {N t : Nat} (hN : N ≤ 241) (ht : t < N) (hs : m c_P_size = nI N) (P : pv_R) (h : P (some (.int (if a c_P_finallyFrom t = -1 then nI (241 + t) else nI (723 + t)))) (cs m a l w)) : pv_call cq_mt (d + 3) cq_m_Ways_endOfTry [.ref 4, .int (nI t)] (cs m a l w) P := by
  have e1 : (241 : Int32) + nI t = nI (241 + t) := nI_add 241 t
  have e2 : (723 : Int32) + nI t = nI (723 + t) := nI_add 723 t
  refine pv_call_of rfl rfl rfl (pv_run [] 40 ?_)
  refine cc_hasFinally d m a ht hN hs _ (fun q => ?_) (fun q => ?_)
  · refine And.intro (fun r => absurd r (by decide)) (fun _ => ?_)
    rw [if_neg q, ← e2] at h
    exact h
  · refine And.intro (fun _ => ?_) (fun r => absurd rfl r)
    rw [if_pos q, ← e1] at h
    exact h
end CW
