/-- rows up to 24 the same -/
def Lo (a a' : Nat → Nat → Int32) : Prop := ∀ j, j < 25 → a' j = a j
theorem Lo_up (a : Nat → Nat → Int32) {j i : Nat} (x : Int32) (hj : 25 ≤ j) : Lo a (up2 a j i x) := fun k hk => up2_row (by omega)
theorem Lo_trans {a a' a'' : Nat → Nat → Int32} (h : Lo a a') (h2 : Lo a' a'') : Lo a a'' := fun j hj => (h2 j hj).trans (h j hj)
theorem eRow_Lo {a a' : Nat → Nat → Int32} {N : Nat} (h : Lo a a') (hE : eRow a N) : eRow a' N := by
  intro q hq
  rw [h c_P_end (by decide)]
  exact hE q hq
theorem chG_Lo {a a' : Nat → Nat → Int32} (h : Lo a a') (N e : Nat) : ∀ k c, chG a' N e k c = chG a N e k c
  | 0, _ => rfl
  | k + 1, c => by
    unfold chG
    rw [h c_P_end (by decide), chG_Lo h N e k]
theorem chF_Lo {a a' : Nat → Nat → Int32} (h : Lo a a') (N p k : Nat) : chF a' N p k = chF a N p k := by
  unfold chF
  rw [h c_P_end (by decide), chG_Lo h]
theorem nxF_Lo {a a' : Nat → Nat → Int32} (h : Lo a a') (N p : Nat) : nxF a' N p = nxF a N p := by
  unfold nxF
  rw [h c_P_end (by decide), h c_P_around (by decide)]
theorem fiF_Lo {a a' : Nat → Nat → Int32} (h : Lo a a') (N t x : Nat) (k : Int32) : fiF a' N t x k = fiF a N t x k := by
  unfold fiF
  rw [h c_P_end (by decide), h c_P_part (by decide)]
theorem chG_le {a : Nat → Nat → Int32} {N e : Nat} (hE : eRow a N) : ∀ k c, c ≤ 241 → chG a N e k c ≤ 241
  | 0, _, h => h
  | k + 1, c, h => by
    unfold chG
    split
    · next q => exact chG_le hE k _ (hE c q.1).2
    · exact h
theorem chF_le {a : Nat → Nat → Int32} {N p k : Nat} : chF a N p k ≤ N := by
  unfold chF
  split
  · next q => omega
  · exact Nat.zero_le _
theorem nxF_le {a : Nat → Nat → Int32} {N p : Nat} : nxF a N p ≤ N := by
  unfold nxF
  split
  · next q => omega
  · exact Nat.zero_le _
theorem fiF_le {a : Nat → Nat → Int32} {N t x : Nat} {k : Int32} : fiF a N t x k ≤ N := by
  unfold fiF
  split
  · next q => omega
  · exact Nat.zero_le _
def endT (a : Nat → Nat → Int32) (t : Nat) : Int32 := if a c_P_finallyFrom t = -1 then nI (241 + t) else nI (723 + t)
def orV (k : Nat) (y : Int32) : Int32 := if k = 0 then y else oI k
section CW2
variable {l : Nat → Nat → Int64} {w : Int64}
set_option maxRecDepth 100000 in
theorem cc_partOfTry0 (d : Nat) (m : Nat → Int32) (a : Nat → Nat → Int32) {N t : Nat} (hN : N ≤ 241) (ht : t < N) (hs : m c_P_size = nI N) (hE : eRow a N) (P : pv_R) (h : P (some (.int (orV (fiF a N t (t + 1) 0) (endT a t)))) (cs m a l w)) : pv_call cq_mt (d + 4) cq_m_Ways_partOfTry [.ref 4, .int (nI t), .int 0] (cs m a l w) P := by
  have hf := fiF_le (a := a) (N := N) (t := t) (x := t + 1) (k := 0)
  refine pv_call_of rfl rfl rfl (pv_run [] 40 ?_)
  refine cc_firstIn0 (d + 1) m a hN ht hs hE _ ?_
  refine cc_endOfTry d m a hN ht hs _ ?_
  exact cc_beginOr (d + 2) (cs m a l w) (by omega) _ _ h
set_option maxRecDepth 100000 in
theorem cc_partOfTry1 (d : Nat) (m : Nat → Int32) (a : Nat → Nat → Int32) {N t x : Nat} (hN : N ≤ 241) (ht : t < N) (hx : a c_P_catchFrom t = nI x ∧ x ≤ 241) (hs : m c_P_size = nI N) (hE : eRow a N) (P : pv_R) (h : P (some (.int (orV (fiF a N t x 1) (endT a t)))) (cs m a l w)) : pv_call cq_mt (d + 4) cq_m_Ways_partOfTry [.ref 4, .int (nI t), .int 1] (cs m a l w) P := by
  have hf := fiF_le (a := a) (N := N) (t := t) (x := x) (k := 1)
  refine pv_call_of rfl rfl rfl (pv_run [] 40 ?_)
  refine cc_firstIn1 (d + 1) m a hN ht hx hs hE _ ?_
  refine cc_endOfTry d m a hN ht hs _ ?_
  exact cc_beginOr (d + 2) (cs m a l w) (by omega) _ _ h
def ctV (a : Nat → Nat → Int32) (N p : Nat) : Int32 := if a c_P_catchFrom p = -1 then -1 else orV (fiF a N p (dN (a c_P_catchFrom p)) 1) (endT a p)
def fnV (a : Nat → Nat → Int32) (N p : Nat) : Int32 := if a c_P_finallyFrom p = -1 then -1 else oI (fiF a N p (dN (a c_P_finallyFrom p)) 2)
def tRow (a : Nat → Nat → Int32) (p : Nat) : Prop := (a c_P_catchFrom p = -1 ∨ ∃ x, a c_P_catchFrom p = nI x ∧ x ≤ 241) ∧ (a c_P_finallyFrom p = -1 ∨ ∃ x, a c_P_finallyFrom p = nI x ∧ x ≤ 241)
theorem endT_Lo {a a' : Nat → Nat → Int32} (h : Lo a a') (t : Nat) : endT a' t = endT a t := by
  unfold endT
  rw [h c_P_finallyFrom (by decide)]
theorem fnV_Lo {a a' : Nat → Nat → Int32} (h : Lo a a') (N p : Nat) : fnV a' N p = fnV a N p := by
  unfold fnV
  rw [h c_P_finallyFrom (by decide), fiF_Lo h]
set_option maxRecDepth 100000 in
theorem lt2_27 (d : Nat) (m : Nat → Int32) (a : Nat → Nat → Int32) {N p : Nat} (hN : N ≤ 241) (hp : p < N) (hs : m c_P_size = nI N) (hE : eRow a N) (hT : tRow a p) (P : pv_R) (h : P none (cs m (up2 a c_Y_finallyTo p (fnV a N p)) l w)) : pv_go cq_T82 3 (pv_call cq_mt (d + 4)) P (27, [(0, .ref 4), (1, .int (nI p))], [], cs m a l w) := by
  have i1 : vp_in (nI p) 241 := vp_in_nI (by omega) (by decide)
  have c1 : (nI p).toNatClampNeg = p := nI_clamp (by omega)
  unfold fnV at h
  refine pv_run [] 40 ?_
  refine cc_hasFinally (d + 2) m a hp hN hs _ (fun q => ?_) (fun q => ?_)
  · refine And.intro (fun r => absurd r (by decide)) (fun _ => ?_)
    obtain ⟨x, hx, hx2⟩ := hT.2.resolve_left q
    rw [if_neg q, hx, show dN (nI x) = x from nI_clamp (by omega)] at h
    have hf := fiF_le (a := a) (N := N) (t := p) (x := x) (k := 2)
    refine cc_firstIn2 (d + 2) m a hN hp ⟨hx, hx2⟩ hs hE _ ?_
    refine cc_beginOf (d + 3) (cs m a l w) (by omega) _ ?_
    refine And.intro i1 ?_
    have h2 : P none (cs m (up2 a c_Y_finallyTo (nI p).toNatClampNeg (oI (fiF a N p x 2))) l w) := by rw [c1]; exact h
    exact h2
  · refine And.intro (fun _ => ?_) (fun r => absurd rfl r)
    rw [if_pos q] at h
    refine And.intro i1 ?_
    have h2 : P none (cs m (up2 a c_Y_finallyTo (nI p).toNatClampNeg (-1)) l w) := by rw [c1]; exact h
    exact h2
set_option maxRecDepth 100000 in
theorem cc_linkTry (d : Nat) (m : Nat → Int32) (a : Nat → Nat → Int32) {N p : Nat} (hN : N ≤ 241) (hp : p < N) (hs : m c_P_size = nI N) (hE : eRow a N) (hT : tRow a p) (P : pv_R) (h : P none (cs m (up2 (up2 a c_Y_catchTo p (ctV a N p)) c_Y_finallyTo p (fnV a N p)) l w)) : pv_call cq_mt (d + 5) cq_m_Ways_linkTry [.ref 4, .int (nI p)] (cs m a l w) P := by
  have i1 : vp_in (nI p) 241 := vp_in_nI (by omega) (by decide)
  have c1 : (nI p).toNatClampNeg = p := nI_clamp (by omega)
  have go : ∀ v : Int32, v = ctV a N p → pv_go cq_T82 3 (pv_call cq_mt (d + 4)) P (27, [(0, .ref 4), (1, .int (nI p))], [], cs m (up2 a c_Y_catchTo p v) l w) := by
    intro v hv
    have hl : Lo a (up2 a c_Y_catchTo p v) := Lo_up a v (by decide)
    refine lt2_27 d m _ hN hp hs (eRow_Lo hl hE) ?_ P ?_
    · unfold tRow
      rw [hl c_P_catchFrom (by decide), hl c_P_finallyFrom (by decide)]
      exact hT
    · rw [fnV_Lo hl, hv]; exact h
  unfold ctV at go
  refine pv_call_of rfl rfl rfl (pv_run [27] 40 ?_)
  refine cc_hasCatch (d + 2) m a hp hN hs _ (fun q => ?_) (fun q => ?_)
  · refine And.intro (fun r => absurd r (by decide)) (fun _ => ?_)
    obtain ⟨x, hx, hx2⟩ := hT.1.resolve_left q
    rw [if_neg q, hx, show dN (nI x) = x from nI_clamp (by omega)] at go
    refine cc_partOfTry1 d m a hN hp ⟨hx, hx2⟩ hs hE _ ?_
    refine And.intro i1 ?_
    have g := go _ rfl
    show pv_go cq_T82 3 (pv_call cq_mt (d + 4)) P (27, [(0, .ref 4), (1, .int (nI p))], [], cs m (up2 a c_Y_catchTo (nI p).toNatClampNeg (orV (fiF a N p x 1) (endT a p))) l w)
    rw [c1]
    exact g
  · refine And.intro (fun _ => ?_) (fun r => absurd rfl r)
    rw [if_pos q] at go
    refine And.intro i1 ?_
    have g := go _ rfl
    show pv_go cq_T82 3 (pv_call cq_mt (d + 4)) P (27, [(0, .ref 4), (1, .int (nI p))], [], cs m (up2 a c_Y_catchTo (nI p).toNatClampNeg (-1)) l w)
    rw [c1]
    exact g
def bgV (a : Nat → Nat → Int32) (N p : Nat) : Int32 := if a c_P_sort p = 66 then nI (241 + dN (a c_P_target p)) else if a c_P_sort p = 67 then oI (chF a N (dN (a c_P_target p)) (if a c_P_sort (dN (a c_P_target p)) = 87 then 0 else 1)) else if a c_P_sort p = 84 then orV (fiF a N p (p + 1) 0) (endT a p) else if a c_P_sort p = 123 then orV (chF a N p 0) (nI (241 + p)) else oI (chF a N p 0)
set_option maxRecDepth 100000 in
theorem cc_linkBegin (d : Nat) (m : Nat → Int32) (a : Nat → Nat → Int32) {N p : Nat} (hN : N ≤ 241) (hp : p < N) (hs : m c_P_size = nI N) (hE : eRow a N) (hJ : a c_P_sort p = 66 ∨ a c_P_sort p = 67 → ∃ t, t < N ∧ a c_P_target p = nI t) (P : pv_R) (h : P none (cs m (up2 a c_Y_beginTo p (bgV a N p)) l w)) : pv_call cq_mt (d + 5) cq_m_Ways_linkBegin [.ref 4, .int (nI p)] (cs m a l w) P := by
  have i1 : vp_in (nI p) 241 := vp_in_nI (by omega) (by decide)
  have c1 : (nI p).toNatClampNeg = p := nI_clamp (by omega)
  have fin : ∀ v : Int32, v = bgV a N p → P none (cs m (up2 a c_Y_beginTo (nI p).toNatClampNeg v) l w) := by
    intro v hv
    rw [c1, hv]; exact h
  unfold bgV at fin
  refine pv_call_of rfl rfl rfl (pv_run [] 60 ?_)
  refine And.intro i1 ?_
  refine And.intro (fun q => ?_) (fun q66 => ?_)
  · have q : a c_P_sort (nI p).toNatClampNeg = 66 := q
    rw [c1] at q
    obtain ⟨t, ht, et⟩ := hJ (Or.inl q)
    have g := fin (241 + a c_P_target (nI p).toNatClampNeg) (by rw [c1, if_pos q, et, show dN (nI t) = t from nI_clamp (by omega)]; exact nI_add 241 t)
    refine And.intro i1 ?_
    refine And.intro i1 ?_
    exact g
  have q66 : ¬ a c_P_sort (nI p).toNatClampNeg = 66 := q66
  rw [c1] at q66
  simp only [if_neg q66] at fin
  refine And.intro (fun q => ?_) (fun q67 => ?_)
  · have q : a c_P_sort (nI p).toNatClampNeg = 67 := q
    rw [c1] at q
    obtain ⟨t, ht, et⟩ := hJ (Or.inr q)
    refine And.intro i1 ?_
    have g2 : pv_call cq_mt (d + 4) cq_m_Ways_nextRound [.ref 4, .int (nI t)] (cs m a l w) (fun o S => ∃ v, o = some (.int v) ∧ S = cs m a l w ∧ v = oI (chF a N t (if a c_P_sort t = 87 then 0 else 1))) := cc_nextRound (d + 1) m a hN ht hs hE _ ⟨_, rfl, rfl, rfl⟩
    have g3 : pv_call cq_mt (d + 4) cq_m_Ways_nextRound [.ref 4, .int (a c_P_target (nI p).toNatClampNeg)] (cs m a l w) (fun o S => ∃ v, o = some (.int v) ∧ S = cs m a l w ∧ v = oI (chF a N t (if a c_P_sort t = 87 then 0 else 1))) := by rw [c1, et]; exact g2
    refine pv_call_cm _ _ _ _ _ _ _ ?_ g3
    rintro o S ⟨v, rfl, rfl, rfl⟩
    have hf := chF_le (a := a) (N := N) (p := t) (k := if a c_P_sort t = 87 then 0 else 1)
    refine cc_beginOf (d + 3) (cs m a l w) (by omega) _ ?_
    have g := fin (oI (chF a N t (if a c_P_sort t = 87 then 0 else 1))) (by rw [if_pos q, et, show dN (nI t) = t from nI_clamp (by omega)])
    exact And.intro i1 g
  have q67 : ¬ a c_P_sort (nI p).toNatClampNeg = 67 := q67
  rw [c1] at q67
  simp only [if_neg q67] at fin
  refine And.intro (fun q => ?_) (fun q84 => ?_)
  · have q : a c_P_sort (nI p).toNatClampNeg = 84 := q
    rw [c1] at q
    refine cc_partOfTry0 d m a hN hp hs hE _ ?_
    have g := fin (orV (fiF a N p (p + 1) 0) (endT a p)) (by rw [if_pos q])
    exact And.intro i1 g
  have q84 : ¬ a c_P_sort (nI p).toNatClampNeg = 84 := q84
  rw [c1] at q84
  simp only [if_neg q84] at fin
  have hf := chF_le (a := a) (N := N) (p := p) (k := 0)
  refine And.intro (fun q => ?_) (fun q123 => ?_)
  · have q : a c_P_sort (nI p).toNatClampNeg = 123 := q
    rw [c1] at q
    refine cc_child (d + 2) m a (k := 0) hN hp (by omega) hs hE _ ?_
    refine cc_beginOr (d + 3) (cs m a l w) (by omega) _ _ ?_
    have g := fin (if chF a N p 0 = 0 then 241 + nI p else oI (chF a N p 0)) (by rw [if_pos q, show (241 : Int32) + nI p = nI (241 + p) from nI_add 241 p]; rfl)
    exact And.intro i1 g
  · have q123 : ¬ a c_P_sort (nI p).toNatClampNeg = 123 := q123
    rw [c1] at q123
    refine cc_child (d + 2) m a (k := 0) hN hp (by omega) hs hE _ ?_
    refine cc_beginOf (d + 3) (cs m a l w) (by omega) _ ?_
    have g := fin (oI (chF a N p 0)) (by rw [if_neg q123])
    exact And.intro i1 g
end CW2
