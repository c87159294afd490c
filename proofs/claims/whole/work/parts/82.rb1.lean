/-! the reference's graph: edges and ways -/
abbrev eL_T : Type := List (Nat × Int32 × Int32)
abbrev wL_T : Type := List (Nat × Nat)
def lastE : eL_T → Nat → Nat
  | [], _ => 0
  | (f, _, _) :: r, x => if x = f then r.length + 1 else lastE r x
def rowE (a : Nat → Nat → Int32) : eL_T → Prop
  | [] => True
  | (f, t, d) :: r => (a r_edgeTo r.length = t ∧ a r_edgeDoes r.length = d ∧ a r_edgeNext r.length = oI (lastE r f)) ∧ rowE a r
def rowW (a : Nat → Nat → Int32) : wL_T → Prop
  | [] => True
  | (t, c) :: r => (a r_wayOf r.length = nI t ∧ a r_wayCode r.length = nI c) ∧ rowW a r
theorem rowE_c {a a' : Nat → Nat → Int32} : ∀ (E : eL_T), (∀ j i, (46 ≤ j ∧ j ≤ 48) → i < E.length → a' j i = a j i) → rowE a E → rowE a' E
  | [], _, _ => trivial
  | (f, t, d) :: r, h, hr => by
    have l : r.length < ((f, t, d) :: r).length := Nat.lt_succ_self _
    exact ⟨⟨(h 46 _ (by omega) l).trans hr.1.1, (h 47 _ (by omega) l).trans hr.1.2.1, (h 48 _ (by omega) l).trans hr.1.2.2⟩, rowE_c r (fun j i hj hi => h j i hj (Nat.lt_succ_of_lt hi)) hr.2⟩
theorem rowW_c {a a' : Nat → Nat → Int32} : ∀ (W : wL_T), (∀ j i, (52 ≤ j ∧ j ≤ 53) → i < W.length → a' j i = a j i) → rowW a W → rowW a' W
  | [], _, _ => trivial
  | (t, c) :: r, h, hr => by
    have l : r.length < ((t, c) :: r).length := Nat.lt_succ_self _
    exact ⟨⟨(h 52 _ (by omega) l).trans hr.1.1, (h 53 _ (by omega) l).trans hr.1.2⟩, rowW_c r (fun j i hj hi => h j i hj (Nat.lt_succ_of_lt hi)) hr.2⟩
/-- the store while the graph is built: edges E, ways W, the newest first; all else as in m0, a0 -/
def RB (m0 : Nat → Int32) (a0 : Nat → Nat → Int32) (E : eL_T) (W : wL_T) (S : pv_S) : Prop := ∃ m a, S = rs m a ∧ ((∀ j, ¬ (j = 50 ∨ j = 55) → m j = m0 j) ∧ (∀ j, ¬ ((46 ≤ j ∧ j ≤ 49) ∨ j = 52 ∨ j = 53) → a j = a0 j)) ∧ (m r_edges = nI E.length ∧ (∀ x, x < 3600 → a r_edgeHead x = oI (lastE E x)) ∧ rowE a E) ∧ (m r_ways = nI W.length ∧ rowW a W)
def edF (f : Nat) (t d : Int32) (E : eL_T) : eL_T := if t = -1 then E else (f, t, d) :: E
section RB1
variable {m0 : Nat → Int32} {a0 : Nat → Nat → Int32}
theorem RB_ed {m : Nat → Int32} {a : Nat → Nat → Int32} {E : eL_T} {W : wL_T} {f : Nat} {t d : Int32} (hf : f < 3600) (h1 : (∀ j, ¬ (j = 50 ∨ j = 55) → m j = m0 j) ∧ (∀ j, ¬ ((46 ≤ j ∧ j ≤ 49) ∨ j = 52 ∨ j = 53) → a j = a0 j)) (h2 : m r_edges = nI E.length ∧ (∀ x, x < 3600 → a r_edgeHead x = oI (lastE E x)) ∧ rowE a E) (h3 : m r_ways = nI W.length ∧ rowW a W) : RB m0 a0 ((f, t, d) :: E) W (rs (upd m r_edges (nI E.length + 1)) (up2 (up2 (up2 (up2 a r_edgeTo E.length t) r_edgeDoes E.length d) r_edgeNext E.length (a r_edgeHead f)) r_edgeHead f (nI E.length))) := by
  refine ⟨_, _, rfl, ⟨fun j hj => ?_, fun j hj => ?_⟩, ⟨?_, fun x hx => ?_, ⟨?_, ?_, ?_⟩, ?_⟩, ?_, ?_⟩
  · show (if j = 50 then _ else m j) = _
    rw [if_neg (by omega)]; exact h1.1 j hj
  · rw [up2_row (show ¬ j = 49 by omega), up2_row (show ¬ j = 48 by omega), up2_row (show ¬ j = 47 by omega), up2_row (show ¬ j = 46 by omega)]
    exact h1.2 j hj
  · show nI E.length + 1 = nI (E.length + 1)
    exact nI_1 _
  · show _ = oI (if x = f then E.length + 1 else lastE E x)
    by_cases c : x = f
    · rw [if_pos c, c, up2_eq, oI_s]
    · rw [if_neg c, up2_no (fun z => c z.2), up2_row (by decide), up2_row (by decide), up2_row (by decide)]
      exact h2.2.1 x hx
  · rw [up2_row (by decide), up2_row (by decide), up2_row (by decide), up2_eq]
  · rw [up2_row (by decide), up2_row (by decide), up2_eq]
  · rw [up2_row (by decide), up2_eq]
    exact h2.2.1 f hf
  · refine rowE_c E (fun j i hj hi => ?_) h2.2.2
    rw [up2_no (fun z => by have := z.1; have e : r_edgeHead = 49 := rfl; omega), up2_no (fun z => by omega), up2_no (fun z => by omega), up2_no (fun z => by omega)]
  · show (if r_ways = 50 then _ else m r_ways) = _
    rw [if_neg (by decide)]; exact h3.1
  · refine rowW_c W (fun j i hj hi => ?_) h3.2
    rw [up2_row (show ¬ j = 49 by omega), up2_row (show ¬ j = 48 by omega), up2_row (show ¬ j = 47 by omega), up2_row (show ¬ j = 46 by omega)]
set_option maxRecDepth 100000 in
theorem rc_edge (d : Nat) {E : eL_T} {W : wL_T} {S : pv_S} (hS : RB m0 a0 E W S) (hE : E.length < 9000) {f : Nat} (hf : f < 3600) (t x : Int32) (P : pv_R) (h : ∀ S', RB m0 a0 (edF f t x E) W S' → P none S') : pv_call rq_mt (d + 1) rq_m_R_edge [.ref 0, .int (nI f), .int t, .int x] S P := by
  obtain ⟨m, a, rfl, h1, h2, h3⟩ := hS
  unfold edF at h
  refine pv_call_of rfl rfl rfl (pv_run [] 60 ?_)
  refine And.intro (fun q => ?_) (fun q => ?_)
  · have q : t = -1 := q
    rw [if_pos q] at h
    exact h _ ⟨m, a, rfl, h1, h2, h3⟩
  · have q : ¬ t = -1 := q
    rw [if_neg q] at h
    have hne := h2.1
    have i1 : vp_in (m r_edges) 9000 := by rw [hne]; exact vp_in_nI (by omega) (by decide)
    have c1 : (m r_edges).toNatClampNeg = E.length := by rw [hne]; exact nI_clamp (by omega)
    have i2 : vp_in (nI f) 3600 := vp_in_nI (by omega) (by decide)
    have c2 : (nI f).toNatClampNeg = f := nI_clamp (by omega)
    have g := h _ (RB_ed (t := t) (d := x) hf h1 h2 h3)
    refine And.intro i1 ?_
    refine And.intro i1 ?_
    refine And.intro i2 ?_
    refine And.intro i1 ?_
    refine And.intro i2 ?_
    have g2 : P none (rs (upd m r_edges (m r_edges + 1)) (up2 (up2 (up2 (up2 a r_edgeTo (m r_edges).toNatClampNeg t) r_edgeDoes (m r_edges).toNatClampNeg x) r_edgeNext (m r_edges).toNatClampNeg (a r_edgeHead (nI f).toNatClampNeg)) r_edgeHead (nI f).toNatClampNeg (m r_edges))) := by
      rw [c1, c2, hne]; exact g
    exact g2
set_option maxRecDepth 100000 in
theorem rc_go (d : Nat) {E : eL_T} {W : wL_T} {S : pv_S} (hS : RB m0 a0 E W S) (hE : E.length < 9000) {f : Nat} (hf : f < 3600) (t : Int32) (P : pv_R) (h : ∀ S', RB m0 a0 (edF f t 0 E) W S' → P none S') : pv_call rq_mt (d + 2) rq_m_R_go [.ref 0, .int (nI f), .int t] S P := by
  obtain ⟨m, a, rfl, hR⟩ := hS
  refine pv_call_of rfl rfl rfl (pv_run [] 20 ?_)
  exact rc_edge d ⟨m, a, rfl, hR⟩ hE hf t 0 _ h
theorem edF_len (f : Nat) (t x : Int32) (E : eL_T) : (edF f t x E).length ≤ E.length + 1 := by
  unfold edF
  split
  · omega
  · exact Nat.le_refl _
theorem pnt {p k : Nat} : (5 : Int32) * nI p + nI k = nI (5 * p + k) := by
  rw [← nI_add]
  congr 1
  induction p with
  | zero => rfl
  | succ p ih =>
    rw [← nI_1, Int32.mul_add, ih, Int32.mul_one, show (5 : Int32) = nI 5 from rfl, nI_add]
    congr 1
set_option maxRecDepth 100000 in
theorem rc_pnt (d : Nat) (S : pv_S) (p k : Nat) (P : pv_R) (h : P (some (.int (nI (5 * p + k)))) S) : pv_call rq_mt (d + 1) rq_m_R_point [.int (nI p), .int (nI k)] S P := by
  have h : P (some (.int ((5 : Int32) * nI p + nI k))) S := by rw [pnt]; exact h
  refine pv_call_of rfl rfl rfl (pv_run [] 20 ?_)
  exact h
def enF (p : Nat) (t f : Int32) (E : eL_T) : eL_T := edF (5 * p + 2) f 0 (edF (5 * p + 1) t 0 E)
set_option maxRecDepth 100000 in
theorem rc_ends (d : Nat) {E : eL_T} {W : wL_T} {S : pv_S} (hS : RB m0 a0 E W S) (hE : E.length + 1 < 9000) {p : Nat} (hp : p < 260) (t f : Int32) (P : pv_R) (h : ∀ S', RB m0 a0 (enF p t f E) W S' → P none S') : pv_call rq_mt (d + 3) rq_m_R_ends [.ref 0, .int (nI p), .int t, .int f] S P := by
  have hl := edF_len (5 * p + 1) t 0 E
  obtain ⟨m, a, rfl, hR⟩ := hS
  refine pv_call_of rfl rfl rfl (pv_run [] 40 ?_)
  refine rc_pnt (d + 1) (rs m a) p 1 _ ?_
  refine rc_go (f := 5 * p + 1) d ⟨m, a, rfl, hR⟩ (by omega) (by omega) t _ (fun S' hS' => ?_)
  obtain ⟨m', a', rfl, hR'⟩ := hS'
  refine rc_pnt (d + 1) (rs m' a') p 2 _ ?_
  exact rc_go (f := 5 * p + 2) d ⟨m', a', rfl, hR'⟩ (by omega) (by omega) f _ h
end RB1
