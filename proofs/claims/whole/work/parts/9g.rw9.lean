abbrev whV (V v : Nat) : Int32 := if v = V then 100 else nI v
/-- the sets of the VARIABLES below k are found -/
def seenQ (E : eL_T) (W : wL_T) (on : Nat → Int32) (a0 : Nat → Nat → Int32) (K : Nat → Nat) (N V : Nat) (F : Nat → Int32) (k : Nat) : Prop :=
  ∀ v, v < k → ∃ ed H, sumQ E W on (whV V v) a0 K N 0 ed ∧ walkQ E W on ed (whV V v) (inP a0 K W (-1)) (vP N W) [(3599, 0)] H ∧ ∀ p, p < 3600 → F (3600 * v + p) = nI (mkV H p)
def sY (Y : pv_L) : Prop := Y = [] ∨ ∃ x y Z, Y = [(2, .int x), (3, .int y)] ++ Z ∧ sZ Z
theorem mul36 {v : Nat} : (3600 : Int32) * nI v = nI (3600 * v) := by
  induction v with
  | zero => rfl
  | succ p ih =>
    rw [← nI_1, Int32.mul_add, ih, Int32.mul_one, show (3600 : Int32) = nI 3600 from rfl, nI_add, Nat.mul_succ]
section RW9
variable {m0 : Nat → Int32} {a0 : Nat → Nat → Int32}
set_option maxRecDepth 100000 in
/-- the walk of the unit -/
theorem sv_191 (d : Nat) {N : Nat} {K : Nat → Nat} {E : eL_T} {W : wL_T} {on : Nat → Int32} (hg : grOK m0 a0 N K E W on) (hst : m0 r_start = 3599) {v : Nat} (hv : v ≤ 12) (x : Int32) {ed : Nat → Nat → Nat} {F : Nat → Int32} {m : Nat → Int32} {a : Nat → Nat → Int32} (hS : ((∀ j, ¬ j = 60 → m j = m0 j) ∧ m r_piled = nI 0) ∧ (∀ j, ¬ (56 ≤ j ∧ j ≤ 59) → a j = a0 j) ∧ (∀ t b, t < 260 → b < 2 → a r_ended (2 * t + b) = nI (ed t b) ∧ ed t b < 4)) (hf : ∀ i, i < 3600 → a r_seen (3600 * v + i) = 0) (hF : ∀ i, ¬ (3600 * v ≤ i ∧ i < 3600 * v + 3600) → a r_seen i = F i) (U : pv_L) (hU : s5 U) (P : pv_R)
    (h : ∀ H F' S', walkQ E W on ed x (inP a0 K W (-1)) (vP N W) [(3599, 0)] H → SV m0 a0 ed F' S' → (∀ i, ¬ (3600 * v ≤ i ∧ i < 3600 * v + 3600) → F' i = F i) → (∀ p, p < 3600 → F' (3600 * v + p) = nI (mkV H p)) → ∀ Y, sY Y → pv_go rq_T57 3 (pv_call rq_mt (d + 3)) P (2, [(0, .ref 0), (1, .int (nI (v + 1)))] ++ Y, [], S')) : pv_go rq_T57 3 (pv_call rq_mt (d + 3)) P (191, svL v x (nI (3600 * v)) ([(4, .int (nI 3600))] ++ U), [], rs m a) := by
  have hN := hg.2.2.2.2
  have hga := grOK_c (m := m) (a := a) (hS.1.1 55 (by decide)) hS.2.1 hg
  have hena : enOK a W ed := fun y hy b hb => hS.2.2 y.1 b (by have := hg.2.1.2.2.2 y hy; omega) hb
  have vN : vP N W 3599 := by unfold vP; omega
  have hR0 : RW m a 56 (3600 * v) [] [] (rs m a) := ⟨m, a, rfl, ⟨fun _ _ => rfl, fun _ _ => rfl⟩, ⟨fun _ _ => rfl, fun p hp => hf p hp⟩, hS.1.2, trivial⟩
  have i5 := inP_c (hS.2.1 5 (by decide)) (hS.2.1 6 (by decide)) K W (-1)
  have aft : ∀ H S', RW m a 56 (3600 * v) H [] S' → walkQ E W on ed x (inP a0 K W (-1)) (vP N W) [(3599, 0)] H → pv_go rq_T57 3 (pv_call rq_mt (d + 3)) P (216, svL v x (nI (3600 * v)) ([(4, .int (nI 3600))] ++ U), [], S') := by
    rintro H S' ⟨m', a', rfl, hR⟩ hQ
    have g := h H (a' r_seen) (rs m' a') hQ ⟨m', a', rfl, ⟨fun j hj => (hR.1.1 j hj).trans (hS.1.1 j hj), hR.2.2.1⟩, fun j hj => (hR.1.2 j (by omega)).trans (hS.2.1 j hj), rfl, fun y b hy hb => by rw [hR.1.2 58 (by omega)]; exact hS.2.2 y b hy hb⟩ (fun i hi => (hR.2.1.1 i hi).trans (hF i hi)) (fun p hp => hR.2.1.2 p hp) ([(2, .int x), (3, .int (nI (3600 * v)))] ++ ([(4, .int (nI 3600))] ++ U)) (Or.inr ⟨_, _, [(4, .int (nI 3600))] ++ U, rfl, by
      rcases hU with rfl | ⟨y, rfl⟩
      · exact Or.inr (Or.inl ⟨_, rfl⟩)
      · exact Or.inr (Or.inr ⟨_, _, rfl⟩)⟩)
    rw [← nI_1] at g
    rcases hU with rfl | ⟨y, rfl⟩
    all_goals
      refine pv_run [2] 10 ?_
      exact g
  have aft1 : ∀ S', RW m a 56 (3600 * v) [(3599, 0)] [(3599, 0)] S' → pv_go rq_T57 3 (pv_call rq_mt (d + 3)) P (205, svL v x (nI (3600 * v)) ([(4, .int (nI 3600))] ++ U), [], S') := by
    intro S' hS'
    have w : pv_call rq_mt (d + 3) rq_m_R_walk [.ref 0, .int x, .ref 39, .int (nI (3600 * v)), .int (-1)] S' (fun o S2 => o = none ∧ pv_go rq_T57 3 (pv_call rq_mt (d + 3)) P (216, svL v x (nI (3600 * v)) ([(4, .int (nI 3600))] ++ U), [], S2)) :=
      rc_walk d hga hena (come56 m a (by omega)) x (-1) (Or.inl rfl) _ vN (by omega) hS' (fun H S2 hS2 hQ => ⟨rfl, aft H S2 hS2 (by rw [i5] at hQ; exact hQ)⟩)
    obtain ⟨m', a', rfl, hR⟩ := hS'
    rcases hU with rfl | ⟨y, rfl⟩
    all_goals
      refine pv_run [216] 30 ?_
      refine pv_call_cm _ _ _ _ _ _ _ ?_ w
      rintro o S2 ⟨rfl, g⟩
      exact g
  have call : pv_call rq_mt (d + 3) rq_m_R_come [.ref 0, .ref 39, .int (nI (3600 * v)), .int (m r_start), .int (nI 0)] (rs m a) (fun o S' => o = none ∧ pv_go rq_T57 3 (pv_call rq_mt (d + 3)) P (205, svL v x (nI (3600 * v)) ([(4, .int (nI 3600))] ++ U), [], S')) := by
    rw [hS.1.1 51 (by decide), hst]
    refine rc_come_56 (d + 2) (by omega) hR0 ⟨List.nodup_nil, fun y hy => nomatch hy⟩ (Nat.le_refl _) (p := 3599) (b := 0) (by omega) (by omega) _ (fun S' hS' => ⟨rfl, aft1 S' ?_⟩)
    have e : cmF 3599 0 ([], []) = ([(3599, 0)], [(3599, 0)]) := by
      unfold cmF
      rw [if_neg (fun u => nomatch u)]
    rw [e] at hS'
    exact hS'
  rcases hU with rfl | ⟨y, rfl⟩
  all_goals
    refine pv_run [205] 30 ?_
    refine pv_call_cm _ _ _ _ _ _ _ ?_ call
    rintro o S' ⟨rfl, g⟩
    exact g
set_option maxRecDepth 100000 in
theorem sv_2 (d : Nat) {N V : Nat} {K : Nat → Nat} {E : eL_T} {W : wL_T} {on : Nat → Int32} (hg : grOK m0 a0 N K E W on) (hst : m0 r_start = 3599) (hn : m0 r_nodes = nI N) (hV : V ≤ 12) (hvs : m0 r_variables = nI V) (P : pv_R)
    (h : ∀ ed F S, SV m0 a0 ed F S → seenQ E W on a0 K N V F (V + 1) → P none S) : ∀ (j v : Nat) (ed : Nat → Nat → Nat) (F : Nat → Int32) (S : pv_S) (Y : pv_L), v + j = V + 1 → SV m0 a0 ed F S → seenQ E W on a0 K N V F v → sY Y → pv_go rq_T57 3 (pv_call rq_mt (d + 3)) P (2, [(0, .ref 0), (1, .int (nI v))] ++ Y, [], S) := by
  have hN := hg.2.2.2.2
  intro j
  induction j with
  | zero =>
    intro v ed F S Y hj hS hs hY
    have e : v = V + 1 := by omega
    subst e
    have g := h ed F S hS hs
    obtain ⟨m, a, rfl, hR⟩ := hS
    have c : nI (V + 1) > m r_variables := by
      rw [hR.1.1 19 (by decide), hvs]
      show nI V < nI (V + 1)
      rw [nI_ltI (by omega) (by omega)]; omega
    rcases hY with rfl | ⟨x, y, Z, rfl, hZ⟩
    · refine pv_run [] 10 ?_
      exact And.intro (fun _ => g) (fun q => absurd c q)
    · rcases hZ with rfl | ⟨z, rfl⟩ | ⟨z, u, rfl⟩
      all_goals
        refine pv_run [] 10 ?_
        exact And.intro (fun _ => g) (fun q => absurd c q)
  | succ j ih =>
    intro v ed F S Y hj hS hs hY
    -- the rows of v
    have low : ∀ ed' S' Z, SV m0 a0 ed' F S' → sumQ E W on (whV V v) a0 K N 0 ed' → sZ Z → pv_go rq_T57 3 (pv_call rq_mt (d + 3)) P (158, svL v (whV V v) (oI 0) Z, [], S') := by
      rintro ed' S' Z ⟨m, a, rfl, hR⟩ hsum hZ
      have key : ∀ U, s5 U → pv_go rq_T57 3 (pv_call rq_mt (d + 3)) P (167, svL v (whV V v) (nI (3600 * v)) ([(4, .int (nI 0))] ++ U), [], rs m (upa a r_seen (a r_seen))) := by
        intro U hU
        refine sv_167 (d + 3) m a v (whV V v) (by omega) P U hU F 3600 0 (a r_seen) (by omega) (fun i hi => by omega) (fun i _ => by rw [hR.2.2.1]) (fun f' hf' hF' => ?_)
        refine sv_191 d hg hst (by omega) (whV V v) (ed := ed') (F := F) ⟨hR.1, fun j hj => ?_, fun y b hy hb => ?_⟩ (fun i hi => ?_) (fun i hi => ?_) U hU P (fun H F2 S2 hQ hS2 hF2 hp2 Y' hY' => ?_)
        · rw [upa_ne _ _ (show ¬ j = 56 by omega)]; exact hR.2.1 j hj
        · rw [upa_ne _ _ (show ¬ 58 = 56 by omega)]; exact hR.2.2.2 y b hy hb
        · rw [upa_at]; exact hf' i hi
        · rw [upa_at]; exact hF' i hi
        · refine ih (v + 1) ed' F2 S2 Y' (by omega) hS2 (fun u hu => ?_) hY'
          by_cases e : u = v
          · subst e
            exact ⟨ed', H, hsum, hQ, hp2⟩
          · obtain ⟨ed3, H3, q1, q2, q3⟩ := hs u (by omega)
            refine ⟨ed3, H3, q1, q2, fun p hp => ?_⟩
            rw [hF2 _ (by omega)]; exact q3 p hp
      rw [upa_same] at key
      have e36 : (3600 : Int32) * nI v = nI (3600 * v) := mul36
      rw [← e36] at key
      rcases hZ with rfl | ⟨z, rfl⟩ | ⟨z, u, rfl⟩
      · have g := key [] (Or.inl rfl)
        refine pv_run [167] 10 ?_
        exact g
      · have g := key [] (Or.inl rfl)
        refine pv_run [167] 10 ?_
        exact g
      · have g := key _ (Or.inr ⟨u, rfl⟩)
        refine pv_run [167] 10 ?_
        exact g
    have g32 := fun Z hZ => sv_32 d hg v (whV V v) P low N ed S Z (Nat.le_refl _) hS (fun t h1 h2 => by omega) hZ
    obtain ⟨m, a, rfl, hR⟩ := hS
    have e19 : m r_variables = nI V := by rw [hR.1.1 19 (by decide)]; exact hvs
    have e2 : m r_nodes - 1 = oI N := by
      rw [hR.1.1 2 (by decide), hn, Int32.sub_eq_add_neg]; exact oI_pred N
    have c : ¬ nI v > m r_variables := by
      rw [e19]
      show ¬ nI V < nI v
      rw [nI_ltI (by omega) (by omega)]; omega
    rw [← e2] at g32
    by_cases e : v = V
    · have ew : whV V v = 100 := if_pos e
      rw [ew] at g32
      have c2 : nI v = m r_variables := by rw [e19, e]
      rcases hY with rfl | ⟨x, y, Z, rfl, hZ⟩
      · have g := g32 [] (Or.inl rfl)
        refine pv_run [32] 30 ?_
        refine And.intro (fun q => absurd q c) (fun _ => ?_)
        exact And.intro (fun _ => g) (fun q => absurd c2 q)
      · have g := g32 Z hZ
        rcases hZ with rfl | ⟨z, rfl⟩ | ⟨z, u, rfl⟩
        all_goals
          refine pv_run [32] 30 ?_
          refine And.intro (fun q => absurd q c) (fun _ => ?_)
          exact And.intro (fun _ => g) (fun q => absurd c2 q)
    · have ew : whV V v = nI v := if_neg e
      rw [ew] at g32
      have c2 : ¬ nI v = m r_variables := by
        rw [e19, nI_eq (by omega) (by omega)]; exact e
      rcases hY with rfl | ⟨x, y, Z, rfl, hZ⟩
      · have g := g32 [] (Or.inl rfl)
        refine pv_run [32] 30 ?_
        refine And.intro (fun q => absurd q c) (fun _ => ?_)
        exact And.intro (fun q => absurd q c2) (fun _ => g)
      · have g := g32 Z hZ
        rcases hZ with rfl | ⟨z, rfl⟩ | ⟨z, u, rfl⟩
        all_goals
          refine pv_run [32] 30 ?_
          refine And.intro (fun q => absurd q c) (fun _ => ?_)
          exact And.intro (fun q => absurd q c2) (fun _ => g)
theorem rc_solve (d : Nat) {N V : Nat} {K : Nat → Nat} {E : eL_T} {W : wL_T} {on : Nat → Int32} (hg : grOK m0 a0 N K E W on) (hst : m0 r_start = 3599) (hn : m0 r_nodes = nI N) (hV : V ≤ 12) (hvs : m0 r_variables = nI V) (hp0 : m0 r_piled = nI 0) {ed : Nat → Nat → Nat} (hed : ∀ t b, t < 260 → b < 2 → a0 r_ended (2 * t + b) = nI (ed t b) ∧ ed t b < 4) (P : pv_R)
    (h : ∀ ed F S, SV m0 a0 ed F S → seenQ E W on a0 K N V F (V + 1) → P none S) : pv_call rq_mt (d + 4) rq_m_R_solve [.ref 0] (rs m0 a0) P := by
  have g := sv_2 d hg hst hn hV hvs P h (V + 1) 0 ed (a0 r_seen) (rs m0 a0) [] (by omega) ⟨m0, a0, rfl, ⟨fun _ _ => rfl, hp0⟩, fun _ _ => rfl, rfl, hed⟩ (fun v hv => by omega) (Or.inl rfl)
  refine pv_call_of rfl rfl rfl (pv_run [2] 10 ?_)
  exact g
end RW9
