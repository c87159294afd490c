def paF (a : Nat → Nat → Int32) (N : Nat) (root : Int32) (fm : Nat → Int64) (p q : Nat) (G : GF) : GF := (lvP a N root fm q (sAsg (G.2 (241 + p)) (a c_P_named q) ||| sAsg (G.2 (482 + p)) (a c_P_named q)) (-1) 1 (flw (a c_Y_falseTo p) (sAsg (G.2 (482 + p)) (a c_P_named q)) (flw (a c_Y_trueTo p) (sAsg (G.2 (241 + p)) (a c_P_named q)) G))).2
section CK4
variable {m : Nat → Int32} {a : Nat → Nat → Int32} {l : Nat → Nat → Int64} {w : Int64}
set_option maxRecDepth 100000 in
theorem pa_42 (d : Nat) {N p q : Nat} (hN : N ≤ 241) (hp : p < N) (hq : q < N) (hs : m c_P_size = nI N) (hA : aRow a N) (v : Int32) (t f : Int64) (G : GF) (P : pv_R) (h : P none (WS m a l w (lvP a N (m c_W_root) (l 1) q (t ||| f) (-1) 1 (flw (a c_Y_falseTo p) f (flw (a c_Y_trueTo p) t G))).2)) : pv_go cq_T78 3 (pv_call cq_mt (d + 2)) P (42, [(0, .ref 5), (1, .int (nI p)), (2, .int (nI q)), (3, .int v), (4, .long t), (6, .long f)], [], WS m a l w G) := by
  have i1 : vp_in (nI p) 241 := vp_in_nI (by omega) (by decide)
  have c1 : (nI p).toNatClampNeg = p := nI_clamp (by omega)
  refine pv_run [] 60 ?_
  refine And.intro i1 ?_
  refine cc_flow (d + 1) G (a c_Y_trueTo (nI p).toNatClampNeg) t _ ?_
  rw [c1]
  refine And.intro i1 ?_
  refine cc_flow (d + 1) (flw (a c_Y_trueTo p) t G) (a c_Y_falseTo (nI p).toNatClampNeg) f _ ?_
  rw [c1]
  exact cc_leave d hN hq hs hA (t ||| f) (-1) 1 _ _ h
set_option maxRecDepth 100000 in
theorem cc_passAssigned (d : Nat) {N p q : Nat} (hN : N ≤ 241) (hp : p < N) (hq : q < N) (hs : m c_P_size = nI N) (hA : aRow a N) (G : GF) (P : pv_R) (h : P none (WS m a l w (paF a N (m c_W_root) (l 1) p q G))) : pv_call cq_mt (d + 3) cq_m_Walks_passAssigned [.ref 5, .int (nI p), .int (nI q)] (WS m a l w G) P := by
  have i2 : vp_in (nI q) 241 := vp_in_nI (by omega) (by decide)
  have c2 : (nI q).toNatClampNeg = q := nI_clamp (by omega)
  have iT := in_T (p := p) (by omega)
  have iF := in_F (p := p) (by omega)
  unfold paF at h
  have eT : lst l G.2 0 ((241 : Int32) + nI p).toNatClampNeg = G.2 (241 + p) := by rw [iT.2]; rfl
  have eF : lst l G.2 0 ((482 : Int32) + nI p).toNatClampNeg = G.2 (482 + p) := by rw [iF.2]; rfl
  refine pv_call_of rfl rfl rfl (pv_run [42] 60 ?_)
  refine And.intro i2 ?_
  refine And.intro iT.1 ?_
  refine cc_assign (d + 1) (WS m a l w G) (lst l G.2 0 ((241 : Int32) + nI p).toNatClampNeg) (a c_P_named (nI q).toNatClampNeg) _ ?_
  refine And.intro iF.1 ?_
  refine cc_assign (d + 1) (WS m a l w G) (lst l G.2 0 ((482 : Int32) + nI p).toNatClampNeg) (a c_P_named (nI q).toNatClampNeg) _ ?_
  rw [eT, eF, c2]
  exact pa_42 d hN hp hq hs hA _ _ _ G P h
def poS (a : Nat → Nat → Int32) (N : Nat) (root : Int32) (fm : Nat → Int64) (p q : Nat) (G : GF) : GF :=
  if a c_P_sort q = 61 then paF a N root fm p q G
  else if a c_P_sort q = 82 then (lvP a N root fm q (G.2 (241 + p) ||| G.2 (482 + p)) (-1) 0 G).2
  else if a c_P_sort q = 88 then (lvP a N root fm q (G.2 (241 + p) ||| G.2 (482 + p)) (-1) 1 G).2
  else flw (a c_Y_falseTo p) (G.2 (482 + p)) (flw (a c_Y_trueTo p) (G.2 (241 + p)) G)
def poF (a : Nat → Nat → Int32) (N : Nat) (root : Int32) (fm : Nat → Int64) (p : Nat) (G : GF) : GF :=
  if a c_Y_trueTo p = 964 ∧ ¬ a c_P_around p = root then piF a fm p G
  else if a c_P_around p = -1 then flw (a c_Y_falseTo p) ((piF a fm p G).2 (482 + p)) (flw (a c_Y_trueTo p) ((piF a fm p G).2 (241 + p)) (piF a fm p G))
  else poS a N root fm p (dN (a c_P_around p)) (piF a fm p G)
set_option maxRecDepth 100000 in
theorem po_159 (d : Nat) {p : Nat} (hp : p < 241) (o : Int32) (t f : Int64) (G : GF) (P : pv_R) (h : P none (WS m a l w (flw (a c_Y_falseTo p) f (flw (a c_Y_trueTo p) t G)))) : pv_go cq_T77 3 (pv_call cq_mt (d + 1)) P (159, [(0, .ref 5), (1, .int (nI p)), (2, .int o), (3, .long t), (5, .long f)], [], WS m a l w G) := by
  have i1 : vp_in (nI p) 241 := vp_in_nI (by omega) (by decide)
  have c1 : (nI p).toNatClampNeg = p := nI_clamp (by omega)
  refine pv_run [] 60 ?_
  refine And.intro i1 ?_
  refine cc_flow d G (a c_Y_trueTo (nI p).toNatClampNeg) t _ ?_
  rw [c1]
  refine And.intro i1 ?_
  refine cc_flow d (flw (a c_Y_trueTo p) t G) (a c_Y_falseTo (nI p).toNatClampNeg) f _ ?_
  rw [c1]
  exact h
set_option maxRecDepth 100000 in
theorem po_39 (d : Nat) {N p : Nat} (hN : N ≤ 241) (hp : p < N) (hs : m c_P_size = nI N) (hA : aRow a N) (hO : a c_P_around p = -1 ∨ ∃ q, q < N ∧ a c_P_around p = nI q) (G : GF) (P : pv_R) (h : P none (WS m a l w (if a c_P_around p = -1 then flw (a c_Y_falseTo p) (G.2 (482 + p)) (flw (a c_Y_trueTo p) (G.2 (241 + p)) G) else poS a N (m c_W_root) (l 1) p (dN (a c_P_around p)) G))) : pv_go cq_T77 3 (pv_call cq_mt (d + 3)) P (39, [(0, .ref 5), (1, .int (nI p)), (2, .int (a c_P_around p))], [], WS m a l w G) := by
  have iT := in_T (p := p) (by omega)
  have iF := in_F (p := p) (by omega)
  have eT : lst l G.2 0 ((241 : Int32) + nI p).toNatClampNeg = G.2 (241 + p) := by rw [iT.2]; rfl
  have eF : lst l G.2 0 ((482 : Int32) + nI p).toNatClampNeg = G.2 (482 + p) := by rw [iF.2]; rfl
  have g : pv_go cq_T77 3 (pv_call cq_mt (d + 3)) P (62, [(0, .ref 5), (1, .int (nI p)), (2, .int (a c_P_around p)), (3, .long (G.2 (241 + p))), (5, .long (G.2 (482 + p)))], [], WS m a l w G) := by
    rcases hO with e | ⟨q, hq, e⟩
    · rw [if_pos e] at h
      rw [e]
      have g := po_159 (m := m) (a := a) (l := l) (w := w) (d + 2) (p := p) (by omega) (-1) (G.2 (241 + p)) (G.2 (482 + p)) G P h
      refine pv_run [159] 40 ?_
      refine cc_hasNo (d + 2) (upd m c_W_hasGrown G.1) a _ ?_
      refine And.intro (fun _ => ?_) (fun z => absurd rfl z)
      refine And.intro (fun z => absurd z (by decide)) (fun _ => ?_)
      refine And.intro (fun z => absurd z (by decide)) (fun _ => ?_)
      refine And.intro (fun z => absurd z (by decide)) (fun _ => ?_)
      exact g
    · have ne : ¬ a c_P_around p = -1 := by rw [e]; exact nI_ne_m1 (by omega)
      rw [if_neg ne, e, show dN (nI q) = q from nI_clamp (by omega)] at h
      unfold poS at h
      rw [e]
      have i2 : vp_in (nI q) 241 := vp_in_nI (by omega) (by decide)
      have c2 : (nI q).toNatClampNeg = q := nI_clamp (by omega)
      have eq : ∀ x : Int32, a c_P_sort (nI q).toNatClampNeg = x ↔ a c_P_sort q = x := by intro x; rw [c2]
      refine pv_run [159] 60 ?_
      refine cc_has (d + 2) (upd m c_W_hasGrown G.1) a (p := q) (b := N) (by omega) (by omega) hs _ (fun _ => ?_) (fun z => absurd hq z)
      refine And.intro (fun z => absurd z (by decide)) (fun _ => ?_)
      refine And.intro i2 ?_
      refine And.intro (fun z => ?_) (fun z61 => ?_)
      · rw [if_pos ((eq 61).mp z)] at h
        exact cc_passAssigned d hN hp hq hs hA G _ h
      rw [if_neg (fun e => z61 ((eq 61).mpr e))] at h
      refine And.intro (fun z => ?_) (fun z82 => ?_)
      · rw [if_pos ((eq 82).mp z)] at h
        exact cc_leave (d + 1) hN hq hs hA (G.2 (241 + p) ||| G.2 (482 + p)) (-1) 0 G _ h
      rw [if_neg (fun e => z82 ((eq 82).mpr e))] at h
      refine And.intro (fun z => ?_) (fun z88 => ?_)
      · rw [if_pos ((eq 88).mp z)] at h
        exact cc_leave (d + 1) hN hq hs hA (G.2 (241 + p) ||| G.2 (482 + p)) (-1) 1 G _ h
      rw [if_neg (fun e => z88 ((eq 88).mpr e))] at h
      exact po_159 (d + 2) (by omega) _ _ _ G P h
  refine pv_run [62] 40 ?_
  refine And.intro iT.1 ?_
  refine And.intro iF.1 ?_
  show pv_go cq_T77 3 (pv_call cq_mt (d + 3)) P (62, [(0, .ref 5), (1, .int (nI p)), (2, .int (a c_P_around p)), (3, .long (lst l G.2 0 ((241 : Int32) + nI p).toNatClampNeg)), (5, .long (lst l G.2 0 ((482 : Int32) + nI p).toNatClampNeg))], [], WS m a l w G)
  rw [eT, eF]
  exact g
set_option maxRecDepth 100000 in
theorem cc_passOn (d : Nat) {N p : Nat} (hN : N ≤ 241) (hp : p < N) (hs : m c_P_size = nI N) (hA : aRow a N) (hO : a c_P_around p = -1 ∨ ∃ q, q < N ∧ a c_P_around p = nI q) (G : GF) (P : pv_R) (h : P none (WS m a l w (poF a N (m c_W_root) (l 1) p G))) : pv_call cq_mt (d + 4) cq_m_Walks_passOn [.ref 5, .int (nI p)] (WS m a l w G) P := by
  have i1 : vp_in (nI p) 241 := vp_in_nI (by omega) (by decide)
  have c1 : (nI p).toNatClampNeg = p := nI_clamp (by omega)
  unfold poF at h
  have g : ¬ (a c_Y_trueTo p = 964 ∧ ¬ a c_P_around p = m c_W_root) → pv_go cq_T77 3 (pv_call cq_mt (d + 3)) P (39, [(0, .ref 5), (1, .int (nI p)), (2, .int (a c_P_around (nI p).toNatClampNeg))], [], WS m a l w (piF a (l 1) p G)) := by
    intro q
    rw [if_neg q] at h
    rw [c1]
    exact po_39 d hN hp hs hA hO (piF a (l 1) p G) P h
  refine pv_call_of rfl rfl rfl (pv_run [39] 60 ?_)
  refine And.intro i1 ?_
  refine cc_passInner d hN hp hs G _ ?_
  refine And.intro i1 ?_
  refine And.intro (fun z => ?_) (fun z => ?_)
  · have z : a c_Y_trueTo (nI p).toNatClampNeg = 964 := z
    rw [c1] at z
    refine And.intro (fun y => ?_) (fun y => ?_)
    · have y : a c_P_around (nI p).toNatClampNeg = m c_W_root := y
      rw [c1] at y
      exact g (fun x => x.2 y)
    · have y : ¬ a c_P_around (nI p).toNatClampNeg = m c_W_root := y
      rw [c1] at y
      rw [if_pos ⟨z, y⟩] at h
      exact h
  · have z : ¬ a c_Y_trueTo (nI p).toNatClampNeg = 964 := z
    rw [c1] at z
    exact g (fun x => z x.1)
/-- ends p, and what is around it where nothing within comes behind p -/
def swI (a : Nat → Nat → Int32) (N : Nat) (root : Int32) (fm : Nat → Int64) (from_ p : Nat) : Nat → Nat → GF → GF
  | 0, _, G => G
  | k + 1, q, G => if (from_ + 1 ≤ q ∧ q ≤ N) ∧ a c_P_end (q - 1) = nI (p + 1) then swI a N root fm from_ p k (dO (a c_P_around (q - 1))) (poF a N root fm (q - 1) G) else G
def swF (a : Nat → Nat → Int32) (N : Nat) (root : Int32) (fm : Nat → Int64) (from_ : Nat) : Nat → Nat → GF → GF
  | 0, _, G => G
  | j + 1, p, G => swF a N root fm from_ j (p + 1) (swI a N root fm from_ p 241 (p + 1) (bgF a N root fm p G))
def oRow (a : Nat → Nat → Int32) (N : Nat) : Prop := ∀ q, q < N → (a c_P_around q = oI (dO (a c_P_around q)) ∧ dO (a c_P_around q) ≤ N)
theorem oRow_c {a : Nat → Nat → Int32} {N q : Nat} (h : oRow a N) (hq : q < N) : a c_P_around q = -1 ∨ ∃ r, r < N ∧ a c_P_around q = nI r := by
  obtain ⟨h1, h2⟩ := h q hq
  rw [h1]
  generalize dO (a c_P_around q) = k at h2
  cases k with
  | zero => exact Or.inl rfl
  | succ k => exact Or.inr ⟨k, by omega, oI_s k⟩
abbrev swL (fr to p : Nat) (q : Int32) (k : Nat) : pv_L := [(0, .ref 5), (1, .int (nI fr)), (2, .int (nI to)), (3, .int (nI p)), (4, .int q), (5, .int (nI k))]
set_option maxRecDepth 100000 in
theorem sw_29 (d : Nat) {N fr to p : Nat} (hN : N ≤ 241) (hfr : fr ≤ 241) (hp : p < N) (hs : m c_P_size = nI N) (hA : aRow a N) (hO : oRow a N) (P : pv_R) (GF' : GF) (h : ∀ q k, pv_go cq_T73 3 (pv_call cq_mt (d + 4)) P (95, swL fr to p q k, [], WS m a l w GF')) : ∀ (j k q : Nat) (G : GF), k + j = 241 → q ≤ N → swI a N (m c_W_root) (l 1) fr p j q G = GF' → pv_go cq_T73 3 (pv_call cq_mt (d + 4)) P (29, swL fr to p (oI q) k, [], WS m a l w G) := by
  intro j
  induction j with
  | zero =>
    intro k q G hk hq hG
    have e : k = 241 := by omega
    subst e
    have hG : G = GF' := hG
    rw [hG]
    refine pv_run [95] 20 ?_
    exact And.intro (fun _ => h (oI q) 241) (fun z => absurd (show (241 : Int32) ≤ nI 241 by decide) z)
  | succ j ih =>
    intro k q G hk hq hG
    have nk : ¬ (241 : Int32) ≤ nI k := by
      rw [show (241 : Int32) = nI 241 from rfl, nI_leI (by omega) (by omega)]
      omega
    have e0 : swI a N (m c_W_root) (l 1) fr p (j + 1) q G = (if (fr + 1 ≤ q ∧ q ≤ N) ∧ a c_P_end (q - 1) = nI (p + 1) then swI a N (m c_W_root) (l 1) fr p j (dO (a c_P_around (q - 1))) (poF a N (m c_W_root) (l 1) (q - 1) G) else G) := rfl
    rw [e0] at hG
    cases q with
    | zero =>
      rw [if_neg (by omega)] at hG
      rw [hG]
      have lt : (-1 : Int32) < nI fr := by
        have := nI_pos (n := fr) (by omega)
        exact Int32.lt_of_lt_of_le (by decide) (Int32.not_lt.mp this)
      refine pv_run [95] 40 ?_
      refine And.intro (fun z => absurd z nk) (fun _ => ?_)
      exact And.intro (fun _ => h (oI 0) k) (fun z => absurd lt z)
    | succ q =>
      have hq' : q < N := by omega
      have i1 : vp_in (nI q) 241 := vp_in_nI (by omega) (by decide)
      have c1 : (nI q).toNatClampNeg = q := nI_clamp (by omega)
      rw [show q + 1 - 1 = q from rfl] at hG
      show pv_go cq_T73 3 (pv_call cq_mt (d + 4)) P (29, [(0, .ref 5), (1, .int (nI fr)), (2, .int (nI to)), (3, .int (nI p)), (4, .int (oI (q + 1))), (5, .int (nI k))], [], WS m a l w G)
      rw [oI_s q]
      refine pv_run [95, 29] 60 ?_
      refine And.intro (fun z => absurd z nk) (fun _ => ?_)
      refine And.intro (fun z => ?_) (fun z => ?_)
      · have z : nI q < nI fr := z
        rw [nI_ltI (by omega) (by omega)] at z
        rw [if_neg (by omega)] at hG
        rw [hG]
        exact h (nI q) k
      · have z : ¬ nI q < nI fr := z
        rw [nI_ltI (by omega) (by omega)] at z
        refine cc_has (d + 3) (upd m c_W_hasGrown G.1) a (p := q) (b := N) (by omega) (by omega) hs _ (fun _ => ?_) (fun y => absurd hq' y)
        refine And.intro (fun y => absurd y (by decide)) (fun _ => ?_)
        refine And.intro i1 ?_
        refine And.intro (fun y => ?_) (fun y => ?_)
        · have y : a c_P_end (nI q).toNatClampNeg = nI p + 1 := y
          rw [c1, nI_1] at y
          rw [if_pos ⟨⟨by omega, by omega⟩, y⟩] at hG
          refine cc_passOn d hN hq' hs hA (oRow_c hO hq') G _ ?_
          refine And.intro i1 ?_
          have ho := hO q hq'
          show pv_go cq_T73 3 (pv_call cq_mt (d + 4)) P (29, [(0, .ref 5), (1, .int (nI fr)), (2, .int (nI to)), (3, .int (nI p)), (4, .int (a c_P_around (nI q).toNatClampNeg)), (5, .int (nI k + 1))], [], WS m a l w (poF a N (m c_W_root) (l 1) q G))
          rw [c1, nI_1, ho.1]
          exact ih (k + 1) _ _ (by omega) ho.2 hG
        · have y : ¬ a c_P_end (nI q).toNatClampNeg = nI p + 1 := y
          rw [c1, nI_1] at y
          rw [if_neg (fun x => y x.2)] at hG
          rw [hG]
          exact h (nI q) k
def swK (L : pv_L) : Prop := L = [] ∨ ∃ (q : Int32) (k : Nat), L = [(4, .int q), (5, .int (nI k))]
set_option maxRecDepth 100000 in
theorem sw_2 (d : Nat) {N fr to : Nat} (hN : N ≤ 241) (hfr : fr ≤ 241) (hto : to ≤ N) (hs : m c_P_size = nI N) (hA : aRow a N) (hO : oRow a N) (P : pv_R) : ∀ (j p : Nat) (G : GF), p + j = to → P none (WS m a l w (swF a N (m c_W_root) (l 1) fr j p G)) → ∀ L, swK L → pv_go cq_T73 3 (pv_call cq_mt (d + 4)) P (2, [(0, .ref 5), (1, .int (nI fr)), (2, .int (nI to)), (3, .int (nI p))] ++ L, [], WS m a l w G) := by
  intro j
  induction j with
  | zero =>
    intro p G hp h L hL
    have e : p = to := by omega
    subst e
    have le : nI p ≤ nI p := Int32.le_refl _
    rcases hL with rfl | ⟨q, k, rfl⟩
    · refine pv_run [] 20 ?_
      exact And.intro (fun _ => h) (fun z => absurd le z)
    · refine pv_run [] 20 ?_
      exact And.intro (fun _ => h) (fun z => absurd le z)
  | succ j ih =>
    intro p G hp h L hL
    have hpN : p < N := by omega
    have nle : ¬ nI to ≤ nI p := by rw [nI_leI (by omega) (by omega)]; omega
    have fin : ∀ (q : Int32) (k : Nat), pv_go cq_T73 3 (pv_call cq_mt (d + 4)) P (95, swL fr to p q k, [], WS m a l w (swI a N (m c_W_root) (l 1) fr p 241 (p + 1) (bgF a N (m c_W_root) (l 1) p G))) := by
      intro q k
      have g := ih (p + 1) _ (by omega) h [(4, .int q), (5, .int (nI k))] (Or.inr ⟨q, k, rfl⟩)
      refine pv_run [2] 10 ?_
      show pv_go cq_T73 3 (pv_call cq_mt (d + 4)) P (2, [(0, .ref 5), (1, .int (nI fr)), (2, .int (nI to)), (3, .int (nI p + 1)), (4, .int q), (5, .int (nI k))], [], WS m a l w (swI a N (m c_W_root) (l 1) fr p 241 (p + 1) (bgF a N (m c_W_root) (l 1) p G)))
      rw [nI_1]
      exact g
    have main := sw_29 (m := m) (a := a) (l := l) (w := w) (to := to) d hN hfr hpN hs hA hO P _ fin 241 0 (p + 1) (bgF a N (m c_W_root) (l 1) p G) (by omega) (by omega) rfl
    have main : pv_go cq_T73 3 (pv_call cq_mt (d + 4)) P (29, [(0, .ref 5), (1, .int (nI fr)), (2, .int (nI to)), (3, .int (nI p)), (4, .int (nI p)), (5, .int 0)], [], WS m a l w (bgF a N (m c_W_root) (l 1) p G)) := by
      rw [← oI_s p]; exact main
    rcases hL with rfl | ⟨q, k, rfl⟩
    · refine pv_run [29] 40 ?_
      refine And.intro (fun z => absurd z nle) (fun _ => ?_)
      refine cc_has (d + 3) (upd m c_W_hasGrown G.1) a (p := p) (b := N) (by omega) (by omega) hs _ (fun _ => ?_) (fun y => absurd hpN y)
      refine And.intro (fun y => absurd y (by decide)) (fun _ => ?_)
      exact cc_begin (d + 1) hN hpN hs hA (oRow_c hO hpN) G _ main
    · refine pv_run [29] 40 ?_
      refine And.intro (fun z => absurd z nle) (fun _ => ?_)
      refine cc_has (d + 3) (upd m c_W_hasGrown G.1) a (p := p) (b := N) (by omega) (by omega) hs _ (fun _ => ?_) (fun y => absurd hpN y)
      refine And.intro (fun y => absurd y (by decide)) (fun _ => ?_)
      exact cc_begin (d + 1) hN hpN hs hA (oRow_c hO hpN) G _ main
set_option maxRecDepth 100000 in
theorem cc_sweep (d : Nat) {N fr to : Nat} (hN : N ≤ 241) (hft : fr ≤ to) (hto : to ≤ N) (hs : m c_P_size = nI N) (hA : aRow a N) (hO : oRow a N) (G : GF) (P : pv_R) (h : P none (WS m a l w (swF a N (m c_W_root) (l 1) fr (to - fr) fr G))) : pv_call cq_mt (d + 5) cq_m_Walks_sweep [.ref 5, .int (nI fr), .int (nI to)] (WS m a l w G) P := by
  refine pv_call_of rfl rfl rfl (pv_run [2] 10 ?_)
  exact sw_2 d hN (by omega) hto hs hA hO P (to - fr) fr G (by omega) h [] (Or.inl rfl)
end CK4
