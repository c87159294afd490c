theorem p0_ (x : Int32) : (0 : Int32) + x = x := Int32.zero_add x
theorem in_T {p : Nat} (hp : p < 241) : vp_in ((241 : Int32) + nI p) 965 ∧ ((241 : Int32) + nI p).toNatClampNeg = 241 + p := by
  rw [pT_]; exact ⟨vp_in_nI (by omega) (by decide), nI_clamp (by omega)⟩
theorem in_F {p : Nat} (hp : p < 241) : vp_in ((482 : Int32) + nI p) 965 ∧ ((482 : Int32) + nI p).toNatClampNeg = 482 + p := by
  rw [pF_]; exact ⟨vp_in_nI (by omega) (by decide), nI_clamp (by omega)⟩
theorem in_N {p : Nat} (hp : p < 241) : vp_in ((723 : Int32) + nI p) 965 ∧ ((723 : Int32) + nI p).toNatClampNeg = 723 + p := by
  rw [pN_]; exact ⟨vp_in_nI (by omega) (by decide), nI_clamp (by omega)⟩
theorem in_0 {p : Nat} (hp : p < 241) : vp_in ((0 : Int32) + nI p) 965 ∧ ((0 : Int32) + nI p).toNatClampNeg = p := by
  rw [p0_]; exact ⟨vp_in_nI (by omega) (by decide), nI_clamp (by omega)⟩
def piF (a : Nat → Nat → Int32) (fm : Nat → Int64) (p : Nat) (G : GF) : GF := if ¬ a c_P_finallyFrom p = -1 then flw (nI (241 + p)) (sThr (fm p) (G.2 (723 + p))) (flw (a c_Y_finallyTo p) (G.2 (723 + p)) G) else if a c_P_isSkipped p = 0 then G else flw (nI (241 + p)) (G.2 (723 + p)) G
section CK3
variable {m : Nat → Int32} {a : Nat → Nat → Int32} {l : Nat → Nat → Int64} {w : Int64}
set_option maxRecDepth 100000 in
theorem cc_passInner (d : Nat) {N p : Nat} (hN : N ≤ 241) (hp : p < N) (hs : m c_P_size = nI N) (G : GF) (P : pv_R) (h : P none (WS m a l w (piF a (l 1) p G))) : pv_call cq_mt (d + 3) cq_m_Walks_passInner [.ref 5, .int (nI p)] (WS m a l w G) P := by
  have i1 : vp_in (nI p) 241 := vp_in_nI (by omega) (by decide)
  have c1 : (nI p).toNatClampNeg = p := nI_clamp (by omega)
  have iN := in_N (p := p) (by omega)
  unfold piF at h
  have g : ∀ s : Int64, s = G.2 (723 + p) → pv_go cq_T79 3 (pv_call cq_mt (d + 2)) P (11, [(0, .ref 5), (1, .int (nI p)), (2, .long s)], [], WS m a l w G) := by
    intro s hs2
    rw [← hs2] at h
    refine pv_run [] 60 ?_
    refine cc_hasFinally d (upd m c_W_hasGrown G.1) a hp hN hs _ (fun q => ?_) (fun q => ?_)
    · rw [if_pos q] at h
      refine And.intro (fun z => absurd z (by decide)) (fun _ => ?_)
      refine And.intro i1 ?_
      refine cc_flow (d + 1) G (a c_Y_finallyTo (nI p).toNatClampNeg) s _ ?_
      rw [c1]
      refine And.intro i1 ?_
      refine cc_through (d + 1) _ (l 1 (nI p).toNatClampNeg) s _ ?_
      rw [c1]
      refine cc_flow (d + 1) (flw (a c_Y_finallyTo p) s G) (241 + nI p) (sThr (l 1 p) s) _ ?_
      rw [pT_]
      exact h
    · rw [if_neg (fun z => z q)] at h
      refine And.intro (fun _ => ?_) (fun z => absurd rfl z)
      refine And.intro i1 ?_
      refine And.intro (fun z => ?_) (fun z => ?_)
      · have z : a c_P_isSkipped (nI p).toNatClampNeg = 0 := z
        rw [c1] at z
        rw [if_pos z] at h
        exact h
      · have z : ¬ a c_P_isSkipped (nI p).toNatClampNeg = 0 := z
        rw [c1] at z
        rw [if_neg z] at h
        refine cc_flow (d + 1) G (241 + nI p) s _ ?_
        rw [pT_]
        exact h
  refine pv_call_of rfl rfl rfl (pv_run [11] 20 ?_)
  refine And.intro iN.1 ?_
  exact g (lst l G.2 0 ((723 : Int32) + nI p).toNatClampNeg) (by rw [iN.2]; rfl)
def bgS (a : Nat → Nat → Int32) (N : Nat) (root : Int32) (fm : Nat → Int64) (p : Nat) (s : Int64) (G : GF) : GF :=
  if a c_P_sort p = 36 then flw (nI (241 + p)) (sUns s (a c_P_named p)) G
  else if a c_P_sort p = 37 then flw (nI (241 + p)) (sUns s (a c_P_named p)) G
  else if a c_P_sort p = 48 then flw (nI (482 + p)) s G
  else if a c_P_sort p = 49 then flw (nI (241 + p)) s G
  else if a c_P_sort p = 66 then flw (a c_Y_beginTo p) (lvP a N root fm p s (a c_P_target p) 0 G).1 (lvP a N root fm p s (a c_P_target p) 0 G).2
  else if a c_P_sort p = 67 then flw (a c_Y_beginTo p) (lvP a N root fm p s (a c_P_target p) 0 G).1 (lvP a N root fm p s (a c_P_target p) 0 G).2
  else if a c_P_sort p = 35 ∨ (97 ≤ a c_P_sort p ∧ a c_P_sort p ≤ 122) then flw (nI (482 + p)) s (flw (nI (241 + p)) s G)
  else if a c_P_sort p = 82 ∧ a c_Y_beginTo p = -1 then (lvP a N root fm p s (-1) 0 G).2
  else flw (a c_Y_beginTo p) s G
def bgE (a : Nat → Nat → Int32) (p : Nat) (G : GF) : GF := if ¬ a c_P_isEntered p = 0 ∧ ¬ a c_P_around p = -1 then flw (nI p) (G.2 (723 + dN (a c_P_around p))) G else G
def bgF (a : Nat → Nat → Int32) (N : Nat) (root : Int32) (fm : Nat → Int64) (p : Nat) (G : GF) : GF := bgS a N root fm p ((bgE a p G).2 p) (lvP a N root fm p ((bgE a p G).2 p) (-1) 1 (bgE a p G)).2
abbrev bgL (p : Nat) (s : Int64) : pv_L := [(0, .ref 5), (1, .int (nI p)), (2, .long s)]
set_option maxRecDepth 100000 in
theorem bg_223 (d : Nat) {N p : Nat} (hN : N ≤ 241) (hp : p < N) (hs : m c_P_size = nI N) (hA : aRow a N) (s : Int64) (G : GF) (P : pv_R) (h : P none (WS m a l w (if a c_P_sort p = 35 ∨ (97 ≤ a c_P_sort p ∧ a c_P_sort p ≤ 122) then flw (nI (482 + p)) s (flw (nI (241 + p)) s G)
  else if a c_P_sort p = 82 ∧ a c_Y_beginTo p = -1 then (lvP a N (m c_W_root) (l 1) p s (-1) 0 G).2
  else flw (a c_Y_beginTo p) s G))) : pv_go cq_T75 3 (pv_call cq_mt (d + 2)) P (223, bgL p s, [], WS m a l w G) := by
  have i1 : vp_in (nI p) 241 := vp_in_nI (by omega) (by decide)
  have c1 : (nI p).toNatClampNeg = p := nI_clamp (by omega)
  have g314 : ¬ (a c_P_sort p = 35 ∨ (97 ≤ a c_P_sort p ∧ a c_P_sort p ≤ 122)) → ¬ (a c_P_sort p = 82 ∧ a c_Y_beginTo p = -1) → pv_go cq_T75 3 (pv_call cq_mt (d + 2)) P (314, bgL p s, [], WS m a l w G) := by
    intro q1 q2
    rw [if_neg q1, if_neg q2] at h
    refine pv_run [] 30 ?_
    refine And.intro i1 ?_
    refine cc_flow (d + 1) G (a c_Y_beginTo (nI p).toNatClampNeg) s _ ?_
    rw [c1]
    exact h
  have g275 : ¬ (a c_P_sort p = 35 ∨ (97 ≤ a c_P_sort p ∧ a c_P_sort p ≤ 122)) → pv_go cq_T75 3 (pv_call cq_mt (d + 2)) P (275, bgL p s, [], WS m a l w G) := by
    intro q1
    refine pv_run [314] 40 ?_
    refine And.intro i1 ?_
    refine And.intro (fun z => ?_) (fun z => ?_)
    · have z : a c_P_sort (nI p).toNatClampNeg = 82 := z
      rw [c1] at z
      refine And.intro i1 ?_
      refine And.intro (fun y => ?_) (fun y => ?_)
      · have y : a c_Y_beginTo (nI p).toNatClampNeg = -1 := y
        rw [c1] at y
        rw [if_neg q1, if_pos ⟨z, y⟩] at h
        exact cc_leave d hN hp hs hA s (-1) 0 G _ h
      · have y : ¬ a c_Y_beginTo (nI p).toNatClampNeg = -1 := y
        rw [c1] at y
        exact g314 q1 (fun x => y x.2)
    · have z : ¬ a c_P_sort (nI p).toNatClampNeg = 82 := z
      rw [c1] at z
      exact g314 q1 (fun x => z x.1)
  have g252 : (a c_P_sort p = 35 ∨ (97 ≤ a c_P_sort p ∧ a c_P_sort p ≤ 122)) → pv_go cq_T75 3 (pv_call cq_mt (d + 2)) P (252, bgL p s, [], WS m a l w G) := by
    intro q1
    rw [if_pos q1] at h
    refine pv_run [] 40 ?_
    refine cc_flow (d + 1) G (241 + nI p) s _ ?_
    refine cc_flow (d + 1) (flw (241 + nI p) s G) (482 + nI p) s _ ?_
    rw [pT_, pF_]
    exact h
  refine pv_run [252, 275] 40 ?_
  refine And.intro i1 ?_
  refine And.intro (fun z => ?_) (fun z => ?_)
  · have z : a c_P_sort (nI p).toNatClampNeg = 35 := z
    rw [c1] at z
    exact g252 (Or.inl z)
  · have z : ¬ a c_P_sort (nI p).toNatClampNeg = 35 := z
    rw [c1] at z
    refine And.intro i1 ?_
    refine cc_isName (d + 1) (WS m a l w G) (a c_P_sort (nI p).toNatClampNeg) _ ?_
    rw [c1]
    by_cases q : 97 ≤ a c_P_sort p ∧ a c_P_sort p ≤ 122
    · rw [if_pos q]
      exact And.intro (fun y => absurd y (by decide)) (fun _ => g252 (Or.inr q))
    · rw [if_neg q]
      exact And.intro (fun _ => g275 (fun y => y.elim z q)) (fun y => absurd rfl y)
set_option maxRecDepth 100000 in
theorem bg_74 (d : Nat) {N p : Nat} (hN : N ≤ 241) (hp : p < N) (hs : m c_P_size = nI N) (hA : aRow a N) (s : Int64) (G : GF) (P : pv_R) (h : P none (WS m a l w (bgS a N (m c_W_root) (l 1) p s G))) : pv_go cq_T75 3 (pv_call cq_mt (d + 2)) P (74, bgL p s, [], WS m a l w G) := by
  have i1 : vp_in (nI p) 241 := vp_in_nI (by omega) (by decide)
  have c1 : (nI p).toNatClampNeg = p := nI_clamp (by omega)
  have eq : ∀ x : Int32, a c_P_sort (nI p).toNatClampNeg = x ↔ a c_P_sort p = x := by intro x; rw [c1]
  unfold bgS at h
  have un : P none (WS m a l w (flw (nI (241 + p)) (sUns s (a c_P_named p)) G)) → pv_go cq_T75 3 (pv_call cq_mt (d + 2)) P (166, bgL p s, [], WS m a l w G) := by
    intro h
    refine pv_run [] 40 ?_
    refine And.intro i1 ?_
    refine cc_unassign (d + 1) (WS m a l w G) s (a c_P_named (nI p).toNatClampNeg) _ ?_
    rw [c1]
    refine cc_flow (d + 1) G (241 + nI p) (sUns s (a c_P_named p)) _ ?_
    rw [pT_]
    exact h
  have jm : P none (WS m a l w (flw (a c_Y_beginTo p) (lvP a N (m c_W_root) (l 1) p s (a c_P_target p) 0 G).1 (lvP a N (m c_W_root) (l 1) p s (a c_P_target p) 0 G).2)) → pv_go cq_T75 3 (pv_call cq_mt (d + 2)) P (191, bgL p s, [], WS m a l w G) := by
    intro h
    refine pv_run [] 40 ?_
    refine And.intro i1 ?_
    refine And.intro i1 ?_
    refine cc_leave d hN hp hs hA s (a c_P_target (nI p).toNatClampNeg) 0 G _ ?_
    rw [c1]
    exact cc_flow (d + 1) _ (a c_Y_beginTo p) _ _ h
  refine pv_run [166, 191, 223] 40 ?_
  refine And.intro i1 ?_
  refine And.intro (fun z => ?_) (fun z36 => ?_)
  · rw [if_pos ((eq 36).mp z)] at h; exact un h
  rw [if_neg (fun e => z36 ((eq 36).mpr e))] at h
  refine And.intro (fun z => ?_) (fun z37 => ?_)
  · rw [if_pos ((eq 37).mp z)] at h; exact un h
  rw [if_neg (fun e => z37 ((eq 37).mpr e))] at h
  refine And.intro (fun z => ?_) (fun z48 => ?_)
  · rw [if_pos ((eq 48).mp z)] at h
    refine cc_flow (d + 1) G (482 + nI p) s _ ?_
    rw [pF_]; exact h
  rw [if_neg (fun e => z48 ((eq 48).mpr e))] at h
  refine And.intro (fun z => ?_) (fun z49 => ?_)
  · rw [if_pos ((eq 49).mp z)] at h
    refine cc_flow (d + 1) G (241 + nI p) s _ ?_
    rw [pT_]; exact h
  rw [if_neg (fun e => z49 ((eq 49).mpr e))] at h
  refine And.intro (fun z => ?_) (fun z66 => ?_)
  · rw [if_pos ((eq 66).mp z)] at h; exact jm h
  rw [if_neg (fun e => z66 ((eq 66).mpr e))] at h
  refine And.intro (fun z => ?_) (fun z67 => ?_)
  · rw [if_pos ((eq 67).mp z)] at h; exact jm h
  rw [if_neg (fun e => z67 ((eq 67).mpr e))] at h
  exact bg_223 d hN hp hs hA s G P h
set_option maxRecDepth 100000 in
theorem bg_56 (d : Nat) {N p : Nat} (hN : N ≤ 241) (hp : p < N) (hs : m c_P_size = nI N) (hA : aRow a N) (G : GF) (P : pv_R) (h : P none (WS m a l w (bgS a N (m c_W_root) (l 1) p (G.2 p) (lvP a N (m c_W_root) (l 1) p (G.2 p) (-1) 1 G).2))) : pv_go cq_T75 3 (pv_call cq_mt (d + 2)) P (56, [(0, .ref 5), (1, .int (nI p))], [], WS m a l w G) := by
  have i0 := in_0 (p := p) (by omega)
  refine pv_run [74] 40 ?_
  refine And.intro i0.1 ?_
  have e : lst l G.2 0 ((0 : Int32) + nI p).toNatClampNeg = G.2 p := by rw [i0.2]; rfl
  refine cc_leave d hN hp hs hA (lst l G.2 0 ((0 : Int32) + nI p).toNatClampNeg) (-1) 1 G _ ?_
  rw [e]
  have g := bg_74 (m := m) (a := a) (l := l) (w := w) d hN hp hs hA (G.2 p) _ P h
  rw [← e] at g
  rw [← e]
  exact g
set_option maxRecDepth 100000 in
theorem cc_begin (d : Nat) {N p : Nat} (hN : N ≤ 241) (hp : p < N) (hs : m c_P_size = nI N) (hA : aRow a N) (hO : a c_P_around p = -1 ∨ ∃ q, q < N ∧ a c_P_around p = nI q) (G : GF) (P : pv_R) (h : P none (WS m a l w (bgF a N (m c_W_root) (l 1) p G))) : pv_call cq_mt (d + 3) cq_m_Walks_begin [.ref 5, .int (nI p)] (WS m a l w G) P := by
  have i1 : vp_in (nI p) 241 := vp_in_nI (by omega) (by decide)
  have c1 : (nI p).toNatClampNeg = p := nI_clamp (by omega)
  unfold bgF bgE at h
  have g0 : ¬ (¬ a c_P_isEntered p = 0 ∧ ¬ a c_P_around p = -1) → pv_go cq_T75 3 (pv_call cq_mt (d + 2)) P (56, [(0, .ref 5), (1, .int (nI p))], [], WS m a l w G) := by
    intro q
    rw [if_neg q] at h
    exact bg_56 d hN hp hs hA G P h
  refine pv_call_of rfl rfl rfl (pv_run [56] 60 ?_)
  refine And.intro i1 ?_
  refine And.intro (fun z => ?_) (fun z => ?_)
  · have z : a c_P_isEntered (nI p).toNatClampNeg = 0 := z
    rw [c1] at z
    exact g0 (fun y => y.1 z)
  · have z : ¬ a c_P_isEntered (nI p).toNatClampNeg = 0 := z
    rw [c1] at z
    refine And.intro i1 ?_
    rcases hO with e | ⟨q, hq, e⟩
    · have hn : pv_call cq_mt (d + 2) cq_m_Places_has [.ref 2, .int (-1)] (WS m a l w G) (fun o S => o = some (.int 0) ∧ S = WS m a l w G) := cc_hasNo (d + 1) (upd m c_W_hasGrown G.1) a _ ⟨rfl, rfl⟩
      have hn : pv_call cq_mt (d + 2) cq_m_Places_has [.ref 2, .int (a c_P_around (nI p).toNatClampNeg)] (WS m a l w G) (fun o S => o = some (.int 0) ∧ S = WS m a l w G) := by rw [c1, e]; exact hn
      refine pv_call_cm _ _ _ _ _ _ _ ?_ hn
      rintro o S ⟨rfl, rfl⟩
      exact And.intro (fun _ => g0 (fun y => y.2 e)) (fun y => absurd rfl y)
    · have hn : pv_call cq_mt (d + 2) cq_m_Places_has [.ref 2, .int (nI q)] (WS m a l w G) (fun o S => o = some (.int 1) ∧ S = WS m a l w G) := cc_has (d + 1) (upd m c_W_hasGrown G.1) a (p := q) (b := N) (by omega) (by omega) hs _ (fun _ => ⟨rfl, rfl⟩) (fun y => absurd hq y)
      have hn : pv_call cq_mt (d + 2) cq_m_Places_has [.ref 2, .int (a c_P_around (nI p).toNatClampNeg)] (WS m a l w G) (fun o S => o = some (.int 1) ∧ S = WS m a l w G) := by rw [c1, e]; exact hn
      refine pv_call_cm _ _ _ _ _ _ _ ?_ hn
      rintro o S ⟨rfl, rfl⟩
      refine And.intro (fun y => absurd y (by decide)) (fun _ => ?_)
      refine And.intro i1 ?_
      have ne : ¬ a c_P_around p = -1 := by rw [e]; exact nI_ne_m1 (by omega)
      rw [if_pos ⟨z, ne⟩, e, show dN (nI q) = q from nI_clamp (by omega)] at h
      have iN := in_N (p := q) (by omega)
      have ea : (723 : Int32) + a c_P_around (nI p).toNatClampNeg = 723 + nI q := by rw [c1, e]
      have iN1 : vp_in ((723 : Int32) + a c_P_around (nI p).toNatClampNeg) 965 := by rw [ea]; exact iN.1
      refine And.intro iN1 ?_
      have ev : lst l G.2 0 ((723 : Int32) + a c_P_around (nI p).toNatClampNeg).toNatClampNeg = G.2 (723 + q) := by rw [ea, iN.2]; rfl
      refine cc_flow (d + 1) G ((0 : Int32) + nI p) (lst l G.2 0 ((723 : Int32) + a c_P_around (nI p).toNatClampNeg).toNatClampNeg) _ ?_
      rw [ev, p0_]
      exact bg_56 d hN hp hs hA _ P h
end CK3
