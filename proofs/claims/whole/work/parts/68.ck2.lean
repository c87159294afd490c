def dO (x : Int32) : Nat := if x = -1 then 0 else x.toNatClampNeg + 1
def aRow (a : Nat → Nat → Int32) (N : Nat) : Prop := ∀ q, q < N → a c_P_tryAround q = oI (dO (a c_P_tryAround q)) ∧ dO (a c_P_tryAround q) ≤ N
/-- leave, from the T at t on -/
def lvG (a : Nat → Nat → Int32) (N : Nat) (root : Int32) (fm : Nat → Int64) (outer r : Int32) : Nat → Nat → Int32 → Int64 → GF → Int64 × GF
  | 0, _, _, s, G => (s, G)
  | k + 1, t, pt, s, G =>
    if ¬ (1 ≤ t ∧ t ≤ N) ∨ oI t ≤ outer then (s, G)
    else if oI t = root then (0, G)
    else if ¬ r = 0 ∧ pt = 0 ∧ ¬ a c_P_catchFrom (t - 1) = -1 then (0, flw (a c_Y_catchTo (t - 1)) s G)
    else if ¬ pt = 2 ∧ ¬ a c_P_finallyFrom (t - 1) = -1 then lvG a N root fm outer r k (dO (a c_P_tryAround (t - 1))) (a c_P_tryPart (t - 1)) (sThr (fm (t - 1)) s) (flw (a c_Y_finallyTo (t - 1)) s G)
    else lvG a N root fm outer r k (dO (a c_P_tryAround (t - 1))) (a c_P_tryPart (t - 1)) s G
def lvP (a : Nat → Nat → Int32) (N : Nat) (root : Int32) (fm : Nat → Int64) (p : Nat) (s : Int64) (outer r : Int32) (G : GF) : Int64 × GF := lvG a N root fm outer r 20 (dO (a c_P_tryAround p)) (a c_P_tryPart p) s G
section CK2
variable {m : Nat → Int32} {a : Nat → Nat → Int32} {l : Nat → Nat → Int64} {w : Int64}
abbrev lvL (p : Nat) (s0 : Int64) (outer r x pt : Int32) (s : Int64) (k : Nat) : pv_L := [(0, .ref 5), (1, .int (nI p)), (2, .long s0), (4, .int outer), (5, .int r), (6, .int x), (7, .int pt), (8, .long s), (10, .int (nI k))]
set_option maxRecDepth 100000 in
theorem lv_187 (d : Nat) (G : GF) (p : Nat) (s0 : Int64) (outer r x pt : Int32) (s : Int64) (k : Nat) (P : pv_R) (h : P (some (.long s)) (WS m a l w G)) : pv_go cq_T76 2 (pv_call cq_mt d) P (187, lvL p s0 outer r x pt s k, [], WS m a l w G) := by
  refine pv_run [] 20 ?_
  exact h
set_option maxRecDepth 100000 in
theorem lv_157 (d : Nat) (G : GF) (p : Nat) {q : Nat} (hq : q < 241) (s0 : Int64) (outer r pt : Int32) (s : Int64) (k : Nat) (P : pv_R) (h : pv_go cq_T76 2 (pv_call cq_mt d) P (28, lvL p s0 outer r (a c_P_tryAround q) (a c_P_tryPart q) s (k + 1), [], WS m a l w G)) : pv_go cq_T76 2 (pv_call cq_mt d) P (157, lvL p s0 outer r (nI q) pt s k, [], WS m a l w G) := by
  have i1 : vp_in (nI q) 241 := vp_in_nI (by omega) (by decide)
  have c1 : (nI q).toNatClampNeg = q := nI_clamp (by omega)
  refine pv_run [28] 30 ?_
  refine And.intro i1 ?_
  refine And.intro i1 ?_
  show pv_go cq_T76 2 (pv_call cq_mt d) P (28, [(0, .ref 5), (1, .int (nI p)), (2, .long s0), (4, .int outer), (5, .int r), (6, .int (a c_P_tryAround (nI q).toNatClampNeg)), (7, .int (a c_P_tryPart (nI q).toNatClampNeg)), (8, .long s), (10, .int (nI k + 1))], [], WS m a l w G)
  rw [c1, nI_1]
  exact h
set_option maxRecDepth 100000 in
theorem lv_107 (d : Nat) (G : GF) (p : Nat) {q : Nat} (hq : q < 241) (s0 : Int64) (outer r pt : Int32) (s : Int64) (k : Nat) (P : pv_R)
    (h1 : ¬ pt = 2 ∧ ¬ a c_P_finallyFrom q = -1 → pv_go cq_T76 2 (pv_call cq_mt (d + 1)) P (157, lvL p s0 outer r (nI q) pt (sThr (l 1 q) s) k, [], WS m a l w (flw (a c_Y_finallyTo q) s G)))
    (h0 : ¬ (¬ pt = 2 ∧ ¬ a c_P_finallyFrom q = -1) → pv_go cq_T76 2 (pv_call cq_mt (d + 1)) P (157, lvL p s0 outer r (nI q) pt s k, [], WS m a l w G)) : pv_go cq_T76 2 (pv_call cq_mt (d + 1)) P (107, lvL p s0 outer r (nI q) pt s k, [], WS m a l w G) := by
  have i1 : vp_in (nI q) 241 := vp_in_nI (by omega) (by decide)
  have c1 : (nI q).toNatClampNeg = q := nI_clamp (by omega)
  refine pv_run [157] 60 ?_
  refine And.intro (fun e => ?_) (fun e => ?_)
  · have e : pt = 2 := e
    exact h0 (fun z => z.1 e)
  · have e : ¬ pt = 2 := e
    refine And.intro i1 ?_
    refine And.intro (fun z => ?_) (fun z => ?_)
    · have z : a c_P_finallyFrom (nI q).toNatClampNeg = -1 := z
      rw [c1] at z
      exact h0 (fun y => y.2 z)
    · have z : ¬ a c_P_finallyFrom (nI q).toNatClampNeg = -1 := z
      rw [c1] at z
      have h1 := h1 ⟨e, z⟩
      refine And.intro i1 ?_
      refine cc_flow d G (a c_Y_finallyTo (nI q).toNatClampNeg) s _ ?_
      rw [c1]
      refine And.intro i1 ?_
      refine cc_through d _ (l 1 (nI q).toNatClampNeg) s _ ?_
      rw [c1]
      exact h1
set_option maxRecDepth 100000 in
theorem lv_65 (d : Nat) (G : GF) (p : Nat) {q : Nat} (hq : q < 241) (s0 : Int64) (outer r pt : Int32) (s : Int64) (k : Nat) (P : pv_R)
    (h1 : ¬ r = 0 ∧ pt = 0 ∧ ¬ a c_P_catchFrom q = -1 → P (some (.long 0)) (WS m a l w (flw (a c_Y_catchTo q) s G)))
    (h0 : ¬ (¬ r = 0 ∧ pt = 0 ∧ ¬ a c_P_catchFrom q = -1) → pv_go cq_T76 2 (pv_call cq_mt (d + 1)) P (107, lvL p s0 outer r (nI q) pt s k, [], WS m a l w G)) : pv_go cq_T76 2 (pv_call cq_mt (d + 1)) P (65, lvL p s0 outer r (nI q) pt s k, [], WS m a l w G) := by
  have i1 : vp_in (nI q) 241 := vp_in_nI (by omega) (by decide)
  have c1 : (nI q).toNatClampNeg = q := nI_clamp (by omega)
  refine pv_run [107] 60 ?_
  refine And.intro (fun e => ?_) (fun e => ?_)
  · have e : r = 0 := e
    exact h0 (fun z => z.1 e)
  · have e : ¬ r = 0 := e
    refine And.intro (fun z => ?_) (fun z => ?_)
    · have z : pt = 0 := z
      refine And.intro i1 ?_
      refine And.intro (fun y => ?_) (fun y => ?_)
      · have y : a c_P_catchFrom (nI q).toNatClampNeg = -1 := y
        rw [c1] at y
        exact h0 (fun x => x.2.2 y)
      · have y : ¬ a c_P_catchFrom (nI q).toNatClampNeg = -1 := y
        rw [c1] at y
        have h1 := h1 ⟨e, z, y⟩
        refine And.intro i1 ?_
        refine cc_flow d G (a c_Y_catchTo (nI q).toNatClampNeg) s _ ?_
        rw [c1]
        exact h1
    · have z : ¬ pt = 0 := z
      exact h0 (fun x => z x.2.1)
set_option maxRecDepth 100000 in
theorem lv_28 (d : Nat) {N : Nat} (hN : N ≤ 241) (hs : m c_P_size = nI N) (hA : aRow a N) (p : Nat) (s0 : Int64) (outer r : Int32) (P : pv_R) : ∀ (j k t : Nat) (pt : Int32) (s : Int64) (G : GF), k + j = 20 → t ≤ N → P (some (.long (lvG a N (m c_W_root) (l 1) outer r j t pt s G).1)) (WS m a l w (lvG a N (m c_W_root) (l 1) outer r j t pt s G).2) → pv_go cq_T76 2 (pv_call cq_mt (d + 1)) P (28, lvL p s0 outer r (oI t) pt s k, [], WS m a l w G) := by
  intro j
  induction j with
  | zero =>
    intro k t pt s G hk ht h
    have e : k = 20 := by omega
    subst e
    have g := lv_187 (m := m) (a := a) (l := l) (w := w) (d + 1) G p s0 outer r (oI t) pt s 20 P h
    refine pv_run [187] 20 ?_
    exact And.intro (fun _ => g) (fun q => absurd (show (20 : Int32) ≤ nI 20 by decide) q)
  | succ j ih =>
    intro k t pt s G hk ht h
    have nk : ¬ (20 : Int32) ≤ nI k := by
      rw [show (20 : Int32) = nI 20 from rfl, nI_leI (by omega) (by omega)]
      omega
    cases t with
    | zero =>
      have e : lvG a N (m c_W_root) (l 1) outer r (j + 1) 0 pt s G = (s, G) := if_pos (Or.inl (by omega))
      rw [e] at h
      have g := lv_187 (m := m) (a := a) (l := l) (w := w) (d + 1) G p s0 outer r (oI 0) pt s k P h
      refine pv_run [187] 40 ?_
      refine And.intro (fun q => absurd q nk) (fun _ => ?_)
      refine cc_hasNo d (upd m c_W_hasGrown G.1) a _ ?_
      exact And.intro (fun _ => g) (fun q => absurd rfl q)
    | succ q =>
      have hq : q < N := by omega
      have e0 : lvG a N (m c_W_root) (l 1) outer r (j + 1) (q + 1) pt s G = (if ¬ (1 ≤ q + 1 ∧ q + 1 ≤ N) ∨ oI (q + 1) ≤ outer then (s, G)
    else if oI (q + 1) = m c_W_root then (0, G)
    else if ¬ r = 0 ∧ pt = 0 ∧ ¬ a c_P_catchFrom q = -1 then (0, flw (a c_Y_catchTo q) s G)
    else if ¬ pt = 2 ∧ ¬ a c_P_finallyFrom q = -1 then lvG a N (m c_W_root) (l 1) outer r j (dO (a c_P_tryAround q)) (a c_P_tryPart q) (sThr (l 1 q) s) (flw (a c_Y_finallyTo q) s G)
    else lvG a N (m c_W_root) (l 1) outer r j (dO (a c_P_tryAround q)) (a c_P_tryPart q) s G) := rfl
      rw [e0, oI_s q] at h
      have n1 : ¬ ¬ (1 ≤ q + 1 ∧ q + 1 ≤ N) := fun z => z ⟨by omega, by omega⟩
      have hTA := hA q hq
      have nx : ∀ (s' : Int64) (G' : GF), P (some (.long (lvG a N (m c_W_root) (l 1) outer r j (dO (a c_P_tryAround q)) (a c_P_tryPart q) s' G').1)) (WS m a l w (lvG a N (m c_W_root) (l 1) outer r j (dO (a c_P_tryAround q)) (a c_P_tryPart q) s' G').2) → pv_go cq_T76 2 (pv_call cq_mt (d + 1)) P (157, lvL p s0 outer r (nI q) pt s' k, [], WS m a l w G') := by
        intro s' G' h
        refine lv_157 (d + 1) G' p (by omega) s0 outer r pt s' k P ?_
        rw [hTA.1]
        exact ih (k + 1) _ _ _ _ (by omega) hTA.2 h
      show pv_go cq_T76 2 (pv_call cq_mt (d + 1)) P (28, [(0, .ref 5), (1, .int (nI p)), (2, .long s0), (4, .int outer), (5, .int r), (6, .int (oI (q + 1))), (7, .int pt), (8, .long s), (10, .int (nI k))], [], WS m a l w G)
      rw [oI_s q]
      refine pv_run [187, 65] 60 ?_
      refine And.intro (fun z => absurd z nk) (fun _ => ?_)
      refine cc_has d (upd m c_W_hasGrown G.1) a (p := q) (b := N) (by omega) (by omega) hs _ (fun _ => ?_) (fun z => absurd hq z)
      refine And.intro (fun z => absurd z (by decide)) (fun _ => ?_)
      refine And.intro (fun z => ?_) (fun z => ?_)
      · have z : nI q ≤ outer := z
        rw [if_pos (Or.inr z)] at h
        exact lv_187 (d + 1) G p s0 outer r (nI q) pt s k P h
      · have z : ¬ nI q ≤ outer := z
        rw [if_neg (fun y => y.elim n1 z)] at h
        refine And.intro (fun y => ?_) (fun y => ?_)
        · have y : nI q = m c_W_root := y
          rw [if_pos y] at h
          exact h
        · have y : ¬ nI q = m c_W_root := y
          rw [if_neg y] at h
          refine lv_65 d G p (by omega) s0 outer r pt s k P (fun x => ?_) (fun x => ?_)
          · rw [if_pos x] at h; exact h
          · rw [if_neg x] at h
            refine lv_107 d G p (by omega) s0 outer r pt s k P (fun v => ?_) (fun v => ?_)
            · rw [if_pos v] at h; exact nx _ _ h
            · rw [if_neg v] at h; exact nx _ _ h
set_option maxRecDepth 100000 in
theorem cc_leave (d : Nat) {N p : Nat} (hN : N ≤ 241) (hp : p < N) (hs : m c_P_size = nI N) (hA : aRow a N) (s : Int64) (outer r : Int32) (G : GF) (P : pv_R) (h : P (some (.long (lvP a N (m c_W_root) (l 1) p s outer r G).1)) (WS m a l w (lvP a N (m c_W_root) (l 1) p s outer r G).2)) : pv_call cq_mt (d + 2) cq_m_Walks_leave [.ref 5, .int (nI p), .long s, .int outer, .int r] (WS m a l w G) P := by
  have i1 : vp_in (nI p) 241 := vp_in_nI (by omega) (by decide)
  have c1 : (nI p).toNatClampNeg = p := nI_clamp (by omega)
  have hTA := hA p hp
  refine pv_call_of rfl rfl rfl (pv_run [28] 40 ?_)
  refine And.intro i1 ?_
  refine And.intro i1 ?_
  have g := lv_28 (m := m) (a := a) (l := l) (w := w) d hN hs hA p s outer r P 20 0 (dO (a c_P_tryAround p)) (a c_P_tryPart p) s G (by omega) hTA.2 h
  rw [← hTA.1] at g
  show pv_go cq_T76 2 (pv_call cq_mt (d + 1)) P (28, [(0, .ref 5), (1, .int (nI p)), (2, .long s), (4, .int outer), (5, .int r), (6, .int (a c_P_tryAround (nI p).toNatClampNeg)), (7, .int (a c_P_tryPart (nI p).toNatClampNeg)), (8, .long s), (10, .int (nI 0))], [], WS m a l w G)
  rw [c1]
  exact g
end CK2
