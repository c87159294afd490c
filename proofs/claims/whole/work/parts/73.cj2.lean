abbrev twB (a : Nat → Nat → Int32) (N : Nat) (f : Nat → Int64) (p : Nat) (v : Int32) : Prop := bitI (aOn (stO f (chF a N p 0) 1)) v
def kdG (s nm : Int32) (fi : Nat → Int32) (ch V : Nat) (f : Nat → Int64) (p : Nat) : Int32 :=
  if stI s then (if rch (f p) then -1 else 3)
  else if 97 ≤ s ∧ s ≤ 122 then (if bitI (uOn (f p)) nm then 1 else -1)
  else if s = 61 ∧ (1 ≤ dO nm ∧ dO nm ≤ V) ∧ ¬ fi (dO nm - 1) = 0 ∧ bitI (aOn (stO f ch 1)) nm then 2 else -1
def kdF (a : Nat → Nat → Int32) (N V : Nat) (f : Nat → Int64) (p : Nat) : Int32 := kdG (a c_P_sort p) (a c_P_named p) (a c_V_isFinal) (chF a N p 0) V f p
theorem kd_eq {a : Nat → Nat → Int32} {N V : Nat} {f : Nat → Int64} {p : Nat} {k : Int32} (h : kdP a N V f p k) : k = kdF a N V f p := by
  unfold kdF kdG
  by_cases c1 : stI (a c_P_sort p)
  · rw [if_pos c1]
    by_cases c2 : rch (f p)
    · rw [if_pos c2]; exact (h.1 c1).1 c2
    · rw [if_neg c2]; exact (h.1 c1).2 c2
  · rw [if_neg c1]
    by_cases c2 : 97 ≤ a c_P_sort p ∧ a c_P_sort p ≤ 122
    · rw [if_pos c2]
      by_cases c3 : bitI (uOn (f p)) (a c_P_named p)
      · rw [if_pos c3]; exact (h.2.1 c1 c2).1 c3
      · rw [if_neg c3]; exact (h.2.1 c1 c2).2 c3
    · rw [if_neg c2]
      by_cases c3 : a c_P_sort p = 61 ∧ (1 ≤ dO (a c_P_named p) ∧ dO (a c_P_named p) ≤ V) ∧ ¬ a c_V_isFinal (dO (a c_P_named p) - 1) = 0 ∧ twB a N f p (a c_P_named p)
      · rw [if_pos c3]; exact (h.2.2 c1 c2).1 c3
      · rw [if_neg c3]; exact (h.2.2 c1 c2).2 c3
/-- rows but those of the judge the same -/
def Lx (a a' : Nat → Nat → Int32) : Prop := ∀ j, ¬ j = 1 → ¬ j = 22 → a' j = a j
theorem Lx_refl (a : Nat → Nat → Int32) : Lx a a := fun _ _ _ => rfl
theorem Lx_up {a a' : Nat → Nat → Int32} (h : Lx a a') {j i : Nat} (x : Int32) (hj : j = 1 ∨ j = 22) : Lx a (up2 a' j i x) := fun k h1 h2 => (up2_row (by omega)).trans (h k h1 h2)
theorem chG_Lx {a a' : Nat → Nat → Int32} (h : Lx a a') (N e : Nat) : ∀ k c, chG a' N e k c = chG a N e k c
  | 0, _ => rfl
  | k + 1, c => by
    unfold chG
    rw [h c_P_end (by decide) (by decide), chG_Lx h N e k]
theorem chF_Lx {a a' : Nat → Nat → Int32} (h : Lx a a') (N p k : Nat) : chF a' N p k = chF a N p k := by
  unfold chF
  rw [h c_P_end (by decide) (by decide), chG_Lx h]
theorem kdF_Lx {a a' : Nat → Nat → Int32} (h : Lx a a') (N V : Nat) (f : Nat → Int64) (p : Nat) : kdF a' N V f p = kdF a N V f p := by
  unfold kdF
  rw [h c_P_sort (by decide) (by decide), h c_P_named (by decide) (by decide), h c_V_isFinal (by decide) (by decide), chF_Lx h]
theorem eRow_Lx {a a' : Nat → Nat → Int32} {N : Nat} (h : Lx a a') (hE : eRow a N) : eRow a' N := by
  intro q hq
  rw [h c_P_end (by decide) (by decide)]
  exact hE q hq
theorem nRow_Lx {a a' : Nat → Nat → Int32} {N : Nat} (h : Lx a a') (hE : nRow a N) : nRow a' N := by
  intro q hq
  rw [h c_P_named (by decide) (by decide)]
  exact hE q hq
def wrgL (a : Nat → Nat → Int32) (N V : Nat) (f : Nat → Int64) : Nat → List Nat
  | 0 => []
  | p + 1 => if kdF a N V f p = -1 then wrgL a N V f p else wrgL a N V f p ++ [p]
theorem wrgL_len (a : Nat → Nat → Int32) (N V : Nat) (f : Nat → Int64) : ∀ p, (wrgL a N V f p).length ≤ p
  | 0 => Nat.le_refl _
  | p + 1 => by
    have := wrgL_len a N V f p
    unfold wrgL
    split
    · omega
    · rw [List.length_append]; show _ + 1 ≤ _; omega
def cbG (s nm : Int32) (ch V : Nat) (f : Nat → Int64) (v : Nat) : Prop := s = 61 ∧ (dO nm = v + 1 ∧ v < V) ∧ bitI (aOn (stO f ch 1)) nm
abbrev cbC (a : Nat → Nat → Int32) (N V : Nat) (f : Nat → Int64) (p v : Nat) : Prop := cbG (a c_P_sort p) (a c_P_named p) (chF a N p 0) V f v
def cbF (a : Nat → Nat → Int32) (N V : Nat) (f : Nat → Int64) : Nat → Nat → Int32
  | 0, v => a c_V_couldBeFinal v
  | p + 1, v => if a c_P_sort p = 61 ∧ (dO (a c_P_named p) = v + 1 ∧ v < V) ∧ bitI (aOn (stO f (chF a N p 0) 1)) (a c_P_named p) then 0 else cbF a N V f p v
/-- the judge has come to p -/
def jdO (a : Nat → Nat → Int32) (N V : Nat) (f : Nat → Int64) (p : Nat) (sz : Int32) (a' : Nat → Nat → Int32) : Prop := (Lx a a' ∧ sz = nI (wrgL a N V f p).length) ∧ (∀ (i x : Nat), (wrgL a N V f p)[i]? = some x → a' c_J_wrong i = nI x) ∧ ∀ v, v < 12 → a' c_V_couldBeFinal v = cbF a N V f p v
section CJ2
variable {m : Nat → Int32} {a : Nat → Nat → Int32} {l : Nat → Nat → Int64} {w : Int64}
def jdL (L : pv_L) : Prop := L = [] ∨ ∃ x, L = [(2, .int x)]
abbrev JS (m : Nat → Int32) (a : Nat → Nat → Int32) (l : Nat → Nat → Int64) (w : Int64) (sz : Int32) : pv_S := cs (upd m c_J_size sz) a l w
set_option maxRecDepth 100000 in
theorem jd_113 (d : Nat) (S : pv_S) (p : Nat) (x : Int32) (P : pv_R) (h : pv_go cq_T13 3 (pv_call cq_mt d) P (7, [(0, .ref 6), (1, .int (nI (p + 1))), (2, .int x)], [], S)) : pv_go cq_T13 3 (pv_call cq_mt d) P (113, [(0, .ref 6), (1, .int (nI p)), (2, .int x)], [], S) := by
  refine pv_run [7] 10 ?_
  show pv_go cq_T13 3 (pv_call cq_mt d) P (7, [(0, .ref 6), (1, .int (nI p + 1)), (2, .int x)], [], S)
  rw [nI_1]
  exact h
set_option maxRecDepth 100000 in
theorem jd_69 (d : Nat) {N V p : Nat} (hN : N ≤ 241) (hp : p < N) (hs : m c_P_size = nI N) (hE : eRow a N) (hV : V ≤ 12) (hvs : m c_V_size = nI V) (hn : nRow a N) (sz : Int32) (P : pv_R)
    (h1 : ∀ v, cbC a N V (l 0) p v → pv_go cq_T13 3 (pv_call cq_mt (d + 4)) P (7, [(0, .ref 6), (1, .int (nI (p + 1))), (2, .int (a c_P_named p))], [], JS m (up2 a c_V_couldBeFinal v 0) l w sz))
    (h0 : (∀ v, ¬ cbC a N V (l 0) p v) → pv_go cq_T13 3 (pv_call cq_mt (d + 4)) P (7, [(0, .ref 6), (1, .int (nI (p + 1))), (2, .int (a c_P_named p))], [], JS m a l w sz)) : pv_go cq_T13 3 (pv_call cq_mt (d + 4)) P (69, [(0, .ref 6), (1, .int (nI p)), (2, .int (a c_P_named p))], [], JS m a l w sz) := by
  have i1 : vp_in (nI p) 241 := vp_in_nI (by omega) (by decide)
  have c1 : (nI p).toNatClampNeg = p := nI_clamp (by omega)
  have hnp := hn p hp
  have no : (∀ v, ¬ cbC a N V (l 0) p v) → pv_go cq_T13 3 (pv_call cq_mt (d + 4)) P (113, [(0, .ref 6), (1, .int (nI p)), (2, .int (a c_P_named p))], [], JS m a l w sz) := fun q => jd_113 (d + 4) _ p _ P (h0 q)
  refine pv_run [113] 60 ?_
  refine And.intro i1 ?_
  refine And.intro (fun z => ?_) (fun z => ?_)
  · have z : a c_P_sort (nI p).toNatClampNeg = 61 := z
    rw [c1] at z
    have eN : oI (dO (a c_P_named p)) = a c_P_named p := hnp.1.symm
    have gv := cc_vhas (m := upd m c_J_size sz) (a := a) (l := l) (w := w) (d + 3) hV (k := dO (a c_P_named p)) (by omega) hvs (fun o S => (o = some (.int 1) ∧ S = JS m a l w sz ∧ 1 ≤ dO (a c_P_named p) ∧ dO (a c_P_named p) ≤ V) ∨ (o = some (.int 0) ∧ S = JS m a l w sz ∧ ¬ (1 ≤ dO (a c_P_named p) ∧ dO (a c_P_named p) ≤ V))) (fun k1 k2 => Or.inl ⟨rfl, rfl, k1, k2⟩) (fun k0 => Or.inr ⟨rfl, rfl, k0⟩)
    rw [eN] at gv
    refine pv_call_cm _ _ _ _ _ _ _ ?_ gv
    rintro o S (⟨rfl, rfl, k1, k2⟩ | ⟨rfl, rfl, k0⟩)
    · refine And.intro (fun y => absurd y (by decide)) (fun _ => ?_)
      refine cc_twice (m := upd m c_J_size sz) (a := a) (l := l) (w := w) (d + 1) hN hp hs hE (a c_P_named p) _ (fun x => ?_) (fun x => ?_)
      · refine And.intro (fun y => absurd y (by decide)) (fun _ => ?_)
        obtain ⟨v, hv⟩ := Nat.exists_eq_add_of_le' k1
        have ev : a c_P_named p = nI v := by rw [← eN, hv, oI_s]
        have i2 : vp_in (a c_P_named p) 12 := by rw [ev]; exact vp_in_nI (by omega) (by decide)
        have c2 : (a c_P_named p).toNatClampNeg = v := by rw [ev]; exact nI_clamp (by omega)
        have g := jd_113 (d + 4) _ p _ P (h1 v ⟨z, ⟨hv, by omega⟩, x⟩)
        refine And.intro ⟨i2, Or.inl rfl⟩ ?_
        show pv_go cq_T13 3 (pv_call cq_mt (d + 4)) P (113, [(0, .ref 6), (1, .int (nI p)), (2, .int (a c_P_named p))], [], JS m (up2 a c_V_couldBeFinal (a c_P_named p).toNatClampNeg 0) l w sz)
        rw [c2]
        exact g
      · exact And.intro (fun _ => no (fun v q => x q.2.2)) (fun y => absurd rfl y)
    · exact And.intro (fun _ => no (fun v q => k0 ⟨by have := q.2.1; omega, by have := q.2.1; omega⟩)) (fun y => absurd rfl y)
  · have z : ¬ a c_P_sort (nI p).toNatClampNeg = 61 := z
    rw [c1] at z
    exact no (fun v q => z q.1)
set_option maxRecDepth 100000 in
theorem jd_59 (d : Nat) {p : Nat} (hp : p < 241) (sz : Int32) (L : pv_L) (hL : jdL L) (P : pv_R) (h : pv_go cq_T13 3 (pv_call cq_mt d) P (69, [(0, .ref 6), (1, .int (nI p)), (2, .int (a c_P_named p))], [], JS m a l w sz)) : pv_go cq_T13 3 (pv_call cq_mt d) P (59, [(0, .ref 6), (1, .int (nI p))] ++ L, [], JS m a l w sz) := by
  have i1 : vp_in (nI p) 241 := vp_in_nI (by omega) (by decide)
  have c1 : (nI p).toNatClampNeg = p := nI_clamp (by omega)
  have h : pv_go cq_T13 3 (pv_call cq_mt d) P (69, [(0, .ref 6), (1, .int (nI p)), (2, .int (a c_P_named (nI p).toNatClampNeg))], [], JS m a l w sz) := by rw [c1]; exact h
  rcases hL with rfl | ⟨x, rfl⟩
  · refine pv_run [69] 20 ?_
    exact And.intro i1 h
  · refine pv_run [69] 20 ?_
    exact And.intro i1 h
theorem jdO_cb {a a1 : Nat → Nat → Int32} {N V p : Nat} {f : Nat → Int64} {sz : Int32} (hV : V ≤ 12) (h : (Lx a a1 ∧ sz = nI (wrgL a N V f (p + 1)).length) ∧ (∀ (i x : Nat), (wrgL a N V f (p + 1))[i]? = some x → a1 c_J_wrong i = nI x) ∧ ∀ v, v < 12 → a1 c_V_couldBeFinal v = cbF a N V f p v) : (∀ v, cbC a1 N V f p v → jdO a N V f (p + 1) sz (up2 a1 c_V_couldBeFinal v 0)) ∧ ((∀ v, ¬ cbC a1 N V f p v) → jdO a N V f (p + 1) sz a1) := by
  obtain ⟨⟨h1, h2⟩, h3, h4⟩ := h
  have ec : ∀ v, cbC a1 N V f p v ↔ cbC a N V f p v := by
    intro v
    unfold cbC
    rw [h1 c_P_sort (by decide) (by decide), h1 c_P_named (by decide) (by decide), chF_Lx h1]
  refine ⟨fun v hv => ⟨⟨Lx_up h1 _ (Or.inr rfl), h2⟩, fun i x hx => ?_, fun u hu => ?_⟩, fun hv => ⟨⟨h1, h2⟩, h3, fun u hu => ?_⟩⟩
  · rw [up2_row (by decide)]; exact h3 i x hx
  · have e : (cbC a N V f p u → cbF a N V f (p + 1) u = 0) ∧ (¬ cbC a N V f p u → cbF a N V f (p + 1) u = cbF a N V f p u) := ⟨fun q => if_pos q, fun q => if_neg q⟩
    by_cases c : u = v
    · subst c
      rw [up2_eq, e.1 ((ec _).mp hv)]
    · rw [up2_no (fun z => c z.2), e.2 (fun q => ?_)]
      · exact h4 u hu
      · have := (ec v).mp hv
        have a1 := this.2.1.1
        have a2 := q.2.1.1
        omega
  · have e : (cbC a N V f p u → cbF a N V f (p + 1) u = 0) ∧ (¬ cbC a N V f p u → cbF a N V f (p + 1) u = cbF a N V f p u) := ⟨fun q => if_pos q, fun q => if_neg q⟩
    rw [e.2 (fun q => hv u ((ec u).mpr q))]
    exact h4 u hu
set_option maxRecDepth 100000 in
theorem jd_7 (d : Nat) {N V : Nat} (hN : N ≤ 241) (hs : m c_P_size = nI N) (hE : eRow a N) (hV : V ≤ 12) (hvs : m c_V_size = nI V) (hn : nRow a N) (P : pv_R) (h : ∀ sz a', jdO a N V (l 0) N sz a' → P none (JS m a' l w sz)) : ∀ (j p : Nat) (sz : Int32) (a' : Nat → Nat → Int32), p + j = N → jdO a N V (l 0) p sz a' → ∀ L, jdL L → pv_go cq_T13 3 (pv_call cq_mt (d + 4)) P (7, [(0, .ref 6), (1, .int (nI p))] ++ L, [], JS m a' l w sz) := by
  intro j
  induction j with
  | zero =>
    intro p sz a' hp ho L hL
    have e : p = N := by omega
    subst e
    have le : (upd m c_J_size sz) 4 ≤ nI p := by
      show m 4 ≤ nI p
      rw [show m 4 = nI p from hs]; exact Int32.le_refl _
    rcases hL with rfl | ⟨x, rfl⟩
    · refine pv_run [] 20 ?_
      exact And.intro (fun _ => h sz a' ho) (fun z => absurd le z)
    · refine pv_run [] 20 ?_
      exact And.intro (fun _ => h sz a' ho) (fun z => absurd le z)
  | succ j ih =>
    intro p sz a' hp ho L hL
    have hpN : p < N := by omega
    have nle : ¬ (upd m c_J_size sz) 4 ≤ nI p := by
      show ¬ m 4 ≤ nI p
      rw [show m 4 = nI N from hs, nI_leI (by omega) (by omega)]
      omega
    have hlen := wrgL_len a N V (l 0) p
    have hx := ho.1.1
    have hE' := eRow_Lx hx hE
    have hn' := nRow_Lx hx hn
    have ek := kdF_Lx hx N V (l 0) p
    have ew : wrgL a N V (l 0) (p + 1) = if kdF a N V (l 0) p = -1 then wrgL a N V (l 0) p else wrgL a N V (l 0) p ++ [p] := rfl
    have go : ∀ (sz' : Int32) (a1 : Nat → Nat → Int32), ((Lx a a1 ∧ sz' = nI (wrgL a N V (l 0) (p + 1)).length) ∧ (∀ (i x : Nat), (wrgL a N V (l 0) (p + 1))[i]? = some x → a1 c_J_wrong i = nI x) ∧ ∀ v, v < 12 → a1 c_V_couldBeFinal v = cbF a N V (l 0) p v) → ∀ L, jdL L → pv_go cq_T13 3 (pv_call cq_mt (d + 4)) P (59, [(0, .ref 6), (1, .int (nI p))] ++ L, [], JS m a1 l w sz') := by
      intro sz' a1 hk L hL
      have hx1 := hk.1.1
      refine jd_59 (d + 4) (by omega) sz' L hL P ?_
      refine jd_69 d hN hpN hs (eRow_Lx hx1 hE) hV hvs (nRow_Lx hx1 hn) sz' P (fun v hv => ?_) (fun hv => ?_)
      · exact ih (p + 1) sz' _ (by omega) ((jdO_cb hV hk).1 v hv) [(2, .int (a1 c_P_named p))] (Or.inr ⟨_, rfl⟩)
      · exact ih (p + 1) sz' _ (by omega) ((jdO_cb hV hk).2 hv) [(2, .int (a1 c_P_named p))] (Or.inr ⟨_, rfl⟩)
    have body : ∀ k, k = kdF a N V (l 0) p → ∀ L, jdL L → (k = -1 → pv_go cq_T13 3 (pv_call cq_mt (d + 4)) P (59, [(0, .ref 6), (1, .int (nI p))] ++ L, [], JS m a' l w sz)) ∧ (¬ k = -1 → pv_go cq_T13 3 (pv_call cq_mt (d + 4)) P (27, [(0, .ref 6), (1, .int (nI p))] ++ L, [], JS m a' l w sz)) := by
      intro k hk L hL
      refine ⟨fun q => ?_, fun q => ?_⟩
      · rw [hk] at q
        rw [if_pos q] at ew
        exact go sz a' ⟨⟨hx, by rw [ew]; exact ho.1.2⟩, by rw [ew]; exact ho.2.1, ho.2.2⟩ L hL
      · rw [hk] at q
        rw [if_neg q] at ew
        have hsz := ho.1.2
        have nl : ¬ (241 : Int32) ≤ sz := by
          rw [hsz, show (241 : Int32) = nI 241 from rfl, nI_leI (by omega) (by omega)]
          omega
        have i2 : vp_in sz 241 := by rw [hsz]; exact vp_in_nI (by omega) (by decide)
        have c2 : sz.toNatClampNeg = (wrgL a N V (l 0) p).length := by rw [hsz]; exact nI_clamp (by omega)
        have g := go (sz + 1) (up2 a' c_J_wrong (wrgL a N V (l 0) p).length (nI p)) ⟨⟨Lx_up hx _ (Or.inl rfl), by rw [ew, List.length_append, hsz, nI_1]; rfl⟩, fun i x hix => ?_, fun v hv => by rw [up2_row (by decide)]; exact ho.2.2 v hv⟩ L hL
        · have eu : upd (upd m c_J_size sz) c_J_size (sz + 1) = upd m c_J_size (sz + 1) := upd_upd _ _ _ _
          have g : pv_go cq_T13 3 (pv_call cq_mt (d + 4)) P (59, [(0, .ref 6), (1, .int (nI p))] ++ L, [], cs (upd (upd m c_J_size sz) c_J_size (sz + 1)) (up2 a' c_J_wrong sz.toNatClampNeg (nI p)) l w) := by rw [eu, c2]; exact g
          rcases hL with rfl | ⟨x, rfl⟩
          · refine pv_run [59] 40 ?_
            refine And.intro (fun z => absurd z nl) (fun _ => ?_)
            refine And.intro i2 ?_
            exact g
          · refine pv_run [59] 40 ?_
            refine And.intro (fun z => absurd z nl) (fun _ => ?_)
            refine And.intro i2 ?_
            exact g
        · rw [ew] at hix
          by_cases c : i < (wrgL a N V (l 0) p).length
          · rw [List.getElem?_append_left c] at hix
            rw [up2_no (fun z => by omega)]
            exact ho.2.1 i x hix
          · rw [List.getElem?_append_right (by omega)] at hix
            have e0 : i - (wrgL a N V (l 0) p).length = 0 := by
              refine Decidable.byContradiction fun z => ?_
              obtain ⟨n, hn⟩ := Nat.exists_eq_succ_of_ne_zero z
              rw [hn] at hix
              simp at hix
            rw [e0] at hix
            have ex : p = x := by simpa using hix
            have ei : i = (wrgL a N V (l 0) p).length := by omega
            rw [ei, up2_eq, ex]
    rcases hL with rfl | ⟨x, rfl⟩
    · refine pv_run [27, 59] 40 ?_
      refine And.intro (fun z => absurd z nle) (fun _ => ?_)
      refine cc_kindAt (m := upd m c_J_size sz) (a := a') (l := l) (w := w) d hN hpN hs hE' hV hvs hn' _ (fun k hk => ?_)
      have hb := body k ((kd_eq hk).trans ek) [] (Or.inl rfl)
      exact And.intro hb.1 hb.2
    · refine pv_run [27, 59] 40 ?_
      refine And.intro (fun z => absurd z nle) (fun _ => ?_)
      refine cc_kindAt (m := upd m c_J_size sz) (a := a') (l := l) (w := w) d hN hpN hs hE' hV hvs hn' _ (fun k hk => ?_)
      have hb := body k ((kd_eq hk).trans ek) [(2, .int x)] (Or.inr ⟨x, rfl⟩)
      exact And.intro hb.1 hb.2
set_option maxRecDepth 100000 in
theorem cc_judgeAll (d : Nat) {N V : Nat} (hN : N ≤ 241) (hs : m c_P_size = nI N) (hE : eRow a N) (hV : V ≤ 12) (hvs : m c_V_size = nI V) (hn : nRow a N) (P : pv_R) (h : ∀ sz a', jdO a N V (l 0) N sz a' → P none (JS m a' l w sz)) : pv_call cq_mt (d + 5) cq_m_Judge_judgeAll [.ref 6] (cs m a l w) P := by
  refine pv_call_of rfl rfl rfl (pv_run [7] 20 ?_)
  exact jd_7 d hN hs hE hV hvs hn P h N 0 0 a (by omega) ⟨⟨Lx_refl a, rfl⟩, fun i x hx => by simp [wrgL] at hx, fun v _ => rfl⟩ [] (Or.inl rfl)
end CJ2
