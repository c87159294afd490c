section RW8
variable {m0 : Nat → Int32} {a0 : Nat → Nat → Int32}
set_option maxRecDepth 100000 in
theorem sv_39 (d : Nat) {N : Nat} {K : Nat → Nat} {E : eL_T} {W : wL_T} {on : Nat → Int32} (hg : grOK m0 a0 N K E W on) (v : Nat) (x : Int32) {t : Nat} (ht : t < N) (h84 : a0 r_sort t = 84) (hE : ¬ a0 r_hasEnd t = 0) (ed0 : Nat → Nat → Nat) {F : Nat → Int32} (P : pv_R)
    (h : ∀ ed' S' Z, SV m0 a0 ed' F S' → bitQ E W on x (inP a0 K W (nI t)) (vP N W) t ed0 ed' 2 → sZ Z → pv_go rq_T57 3 (pv_call rq_mt (d + 3)) P (152, svL v x (nI t) Z, [], S')) : ∀ (j k : Nat) (ed : Nat → Nat → Nat) (S : pv_S) (U : pv_L), k + j = 2 → SV m0 a0 ed F S → bitQ E W on x (inP a0 K W (nI t)) (vP N W) t ed0 ed k → s5 U → pv_go rq_T57 3 (pv_call rq_mt (d + 3)) P (39, svL v x (nI t) ([(4, .int (nI k))] ++ U), [], S) := by
  have hN := hg.2.2.2.2
  intro j
  induction j with
  | zero =>
    intro k ed S U hk hS hb hU
    have e : k = 2 := by omega
    subst e
    have g := fun Z => h ed S Z hS hb
    obtain ⟨m, a, rfl, hR⟩ := hS
    rcases hU with rfl | ⟨y, rfl⟩
    · have g := g [(4, .int (nI 2))] (Or.inr (Or.inl ⟨_, rfl⟩))
      refine pv_run [152] 20 ?_
      exact And.intro (fun _ => g) (fun q => absurd (show (2 : Int32) ≤ nI 2 by decide) q)
    · have g := g [(4, .int (nI 2)), (5, .int y)] (Or.inr (Or.inr ⟨_, _, rfl⟩))
      refine pv_run [152] 20 ?_
      exact And.intro (fun _ => g) (fun q => absurd (show (2 : Int32) ≤ nI 2 by decide) q)
  | succ j ih =>
    intro k ed S U hk hS hb hU
    obtain ⟨m, a, rfl, hR⟩ := hS
    have n2 : ¬ (2 : Int32) ≤ nI k := by
      rw [show (2 : Int32) = nI 2 from rfl, nI_leI (by omega) (by omega)]; omega
    have i1 : vp_in (nI t) 260 := vp_in_nI (by omega) (by decide)
    have t1 : a r_sort (nI t).toNatClampNeg = 84 := by
      rw [nI_clamp (by omega), hR.2.1 3 (by decide)]; exact h84
    have t2 : ¬ a r_hasEnd (nI t).toNatClampNeg = 0 := by
      rw [nI_clamp (by omega), hR.2.1 16 (by decide)]; exact hE
    have g : pv_go rq_T57 3 (pv_call rq_mt (d + 3)) P (68, svL v x (nI t) [(4, .int (nI k)), (5, .int (nI 0))], [], rs m (upa a r_local (a r_local))) := by
      refine sv_68 (d + 3) m a v x (nI t) (nI k) P 3600 0 (a r_local) (by omega) (fun i hi => by omega) (fun f' hf' => ?_)
      refine sv_90 d hg v x ht (by omega) (ed := ed) (F := F) ⟨hR.1, fun j hj => ?_, ?_, fun y b hy hb => ?_⟩ (fun i hi => ?_) P (fun H S' hQ hS' => ?_)
      · rw [upa_ne _ _ (show ¬ j = 57 by omega)]; exact hR.2.1 j hj
      · rw [upa_ne _ _ (show ¬ 56 = 57 by omega)]; exact hR.2.2.1
      · rw [upa_ne _ _ (show ¬ 58 = 57 by omega)]; exact hR.2.2.2 y b hy hb
      · rw [upa_at]; exact hf' i hi
      · refine ih (k + 1) _ S' [(5, .int (nI 3600))] (by omega) hS' ⟨fun y hy => ?_, fun b hbk => ?_⟩ (Or.inr ⟨_, rfl⟩)
        · funext b
          show (if y = t ∧ b = k then mkV H (1301 + 3 * t + 2) else ed y b) = ed0 y b
          rw [if_neg (fun u => hy u.1)]
          rw [hb.1 y hy]
        · by_cases c : b = k
          · subst c
            refine ⟨H, ed, hQ, ?_, fun y hy => ?_⟩
            · exact if_pos ⟨rfl, rfl⟩
            · funext b'
              exact (if_neg (fun u => hy u.1)).symm
          · obtain ⟨H2, ed2, q1, q2, q3⟩ := hb.2 b (by omega)
            refine ⟨H2, ed2, q1, ?_, fun y hy => ?_⟩
            · rw [← q2]
              exact if_neg (fun u => c u.2)
            · rw [q3 y hy]
              funext b'
              exact (if_neg (fun u => hy u.1)).symm
    rw [upa_same] at g
    rcases hU with rfl | ⟨y, rfl⟩
    all_goals
      refine pv_run [68] 40 ?_
      refine And.intro (fun q => absurd q n2) (fun _ => ?_)
      refine And.intro i1 ?_
      refine And.intro (fun _ => ?_) (fun q => absurd t1 q)
      refine And.intro i1 ?_
      refine And.intro (fun q => absurd q t2) (fun _ => ?_)
      exact g
set_option maxRecDepth 100000 in
theorem sv_36 (d : Nat) {N : Nat} {K : Nat → Nat} {E : eL_T} {W : wL_T} {on : Nat → Int32} (hg : grOK m0 a0 N K E W on) (v : Nat) (x : Int32) {t : Nat} (ht : t < N) {ed : Nat → Nat → Nat} {F : Nat → Int32} (P : pv_R) {S : pv_S} (hS : SV m0 a0 ed F S) (Z : pv_L) (hZ : sZ Z)
    (h1 : a0 r_sort t = 84 → ¬ a0 r_hasEnd t = 0 → ∀ ed' S' Z, SV m0 a0 ed' F S' → bitQ E W on x (inP a0 K W (nI t)) (vP N W) t ed ed' 2 → sZ Z → pv_go rq_T57 3 (pv_call rq_mt (d + 3)) P (152, svL v x (nI t) Z, [], S'))
    (h0 : ¬ (a0 r_sort t = 84 ∧ ¬ a0 r_hasEnd t = 0) → ∀ Z, sZ Z → pv_go rq_T57 3 (pv_call rq_mt (d + 3)) P (152, svL v x (nI t) Z, [], S)) : pv_go rq_T57 3 (pv_call rq_mt (d + 3)) P (36, svL v x (nI t) Z, [], S) := by
  have hN := hg.2.2.2.2
  by_cases c : a0 r_sort t = 84 ∧ ¬ a0 r_hasEnd t = 0
  · have g := fun U hU => sv_39 d hg v x ht c.1 c.2 ed P (h1 c.1 c.2) 2 0 ed S U (by omega) hS ⟨fun _ _ => rfl, fun b hb => by omega⟩ hU
    obtain ⟨m, a, rfl, hR⟩ := hS
    rcases hZ with rfl | ⟨y, rfl⟩ | ⟨y, z, rfl⟩
    · have g := g [] (Or.inl rfl)
      refine pv_run [39] 10 ?_
      exact g
    · have g := g [] (Or.inl rfl)
      refine pv_run [39] 10 ?_
      exact g
    · have g := g _ (Or.inr ⟨z, rfl⟩)
      refine pv_run [39] 10 ?_
      exact g
  · have g := h0 c
    obtain ⟨m, a, rfl, hR⟩ := hS
    have i1 : vp_in (nI t) 260 := vp_in_nI (by omega) (by decide)
    have t1 : a r_sort (nI t).toNatClampNeg = a0 r_sort t := by
      rw [nI_clamp (by omega), hR.2.1 3 (by decide)]
    have t2 : a r_hasEnd (nI t).toNatClampNeg = a0 r_hasEnd t := by
      rw [nI_clamp (by omega), hR.2.1 16 (by decide)]
    rcases hZ with rfl | ⟨y, rfl⟩ | ⟨y, z, rfl⟩
    · have g := g [(4, .int 0)] (Or.inr (Or.inl ⟨_, rfl⟩))
      refine pv_run [152] 40 ?_
      refine And.intro (fun _ => g) (fun _ => ?_)
      refine And.intro i1 ?_
      refine And.intro (fun q1 => ?_) (fun _ => g)
      refine And.intro i1 ?_
      exact And.intro (fun _ => g) (fun q2 => absurd ⟨t1.symm.trans q1, fun u => q2 (t2.trans u)⟩ c)
    · have g := g [(4, .int 0)] (Or.inr (Or.inl ⟨_, rfl⟩))
      refine pv_run [152] 40 ?_
      refine And.intro (fun _ => g) (fun _ => ?_)
      refine And.intro i1 ?_
      refine And.intro (fun q1 => ?_) (fun _ => g)
      refine And.intro i1 ?_
      exact And.intro (fun _ => g) (fun q2 => absurd ⟨t1.symm.trans q1, fun u => q2 (t2.trans u)⟩ c)
    · have g := g [(4, .int 0), (5, .int z)] (Or.inr (Or.inr ⟨_, _, rfl⟩))
      refine pv_run [152] 40 ?_
      refine And.intro (fun _ => g) (fun _ => ?_)
      refine And.intro i1 ?_
      refine And.intro (fun q1 => ?_) (fun _ => g)
      refine And.intro i1 ?_
      exact And.intro (fun _ => g) (fun q2 => absurd ⟨t1.symm.trans q1, fun u => q2 (t2.trans u)⟩ c)
theorem oI_pred (t : Nat) : nI t + (-1) = oI t := by
  cases t with
  | zero => rfl
  | succ t =>
    rw [oI_s]
    have := nI_pred t
    rw [Int32.sub_eq_add_neg] at this
    exact this
theorem oI_neg {t : Nat} (ht : t < 2 ^ 20) : oI t < 0 ↔ t = 0 := by
  cases t with
  | zero => exact ⟨fun _ => rfl, fun _ => by decide⟩
  | succ t =>
    rw [oI_s]
    exact ⟨fun h => absurd h (nI_pos (by omega)), fun h => by omega⟩
set_option maxRecDepth 100000 in
theorem sv_32 (d : Nat) {N : Nat} {K : Nat → Nat} {E : eL_T} {W : wL_T} {on : Nat → Int32} (hg : grOK m0 a0 N K E W on) (v : Nat) (x : Int32) {F : Nat → Int32} (P : pv_R)
    (h : ∀ ed' S' Z, SV m0 a0 ed' F S' → sumQ E W on x a0 K N 0 ed' → sZ Z → pv_go rq_T57 3 (pv_call rq_mt (d + 3)) P (158, svL v x (oI 0) Z, [], S')) : ∀ (T : Nat) (ed : Nat → Nat → Nat) (S : pv_S) (Z : pv_L), T ≤ N → SV m0 a0 ed F S → sumQ E W on x a0 K N T ed → sZ Z → pv_go rq_T57 3 (pv_call rq_mt (d + 3)) P (32, svL v x (oI T) Z, [], S) := by
  have hN := hg.2.2.2.2
  intro T
  induction T with
  | zero =>
    intro ed S Z hT hS hs hZ
    have g := h ed S Z hS hs hZ
    obtain ⟨m, a, rfl, hR⟩ := hS
    rcases hZ with rfl | ⟨y, rfl⟩ | ⟨y, z, rfl⟩
    all_goals
      refine pv_run [158] 10 ?_
      exact And.intro (fun _ => g) (fun q => absurd (show oI 0 < 0 by decide) q)
  | succ T ih =>
    intro ed S Z hT hS hs hZ
    rw [oI_s]
    have n0 : ¬ nI T < 0 := nI_pos (by omega)
    -- behind the bits
    have aft : ∀ ed' S' Z', SV m0 a0 ed' F S' → sumQ E W on x a0 K N T ed' → sZ Z' → pv_go rq_T57 3 (pv_call rq_mt (d + 3)) P (152, svL v x (nI T) Z', [], S') := by
      intro ed' S' Z' hS' hs' hZ'
      have g := ih ed' S' Z' (by omega) hS' hs' hZ'
      rw [← oI_pred] at g
      obtain ⟨m, a, rfl, hR⟩ := hS'
      rcases hZ' with rfl | ⟨y, rfl⟩ | ⟨y, z, rfl⟩
      all_goals
        refine pv_run [32] 10 ?_
        exact g
    have g : pv_go rq_T57 3 (pv_call rq_mt (d + 3)) P (36, svL v x (nI T) Z, [], S) := by
      refine sv_36 d hg v x (by omega) P hS Z hZ (fun c1 c2 ed' S' Z' hS' hb hZ' => ?_) (fun c Z' hZ' => ?_)
      · refine aft ed' S' Z' hS' (fun t ht1 ht2 e1 e2 b hb2 => ?_) hZ'
        by_cases e : t = T
        · subst e
          obtain ⟨H, ed0, q1, q2, q3⟩ := hb.2 b hb2
          exact ⟨H, ed0, q1, q2, fun y hy => q3 y (by omega)⟩
        · obtain ⟨H, ed0, q1, q2, q3⟩ := hs t (by omega) ht2 e1 e2 b hb2
          refine ⟨H, ed0, q1, ?_, fun y hy => ?_⟩
          · rw [hb.1 t e]; exact q2
          · rw [hb.1 y (by omega)]; exact q3 y hy
      · refine aft ed S Z' hS (fun t ht1 ht2 e1 e2 b hb2 => ?_) hZ'
        by_cases e : t = T
        · subst e
          exact absurd ⟨e1, e2⟩ c
        · exact hs t (by omega) ht2 e1 e2 b hb2
    obtain ⟨m, a, rfl, hR⟩ := hS
    rcases hZ with rfl | ⟨y, rfl⟩ | ⟨y, z, rfl⟩
    all_goals
      refine pv_run [36] 10 ?_
      exact And.intro (fun q => absurd q n0) (fun _ => g)
end RW8
