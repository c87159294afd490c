theorem lvA_c {a a' : Nat → Nat → Int32} (h : ∀ j, j = 3 ∨ j = 5 ∨ j = 6 ∨ j = 8 ∨ j = 15 ∨ j = 16 ∨ j = 45 → a' j = a j) (N c : Nat) : ∀ (k i : Nat) (x : Int32), lvA a' N c k i x = lvA a N c k i x
  | 0, _, _ => rfl
  | k + 1, i, x => by
    have h3 : a' r_sort = a r_sort := h 3 (by omega)
    have h5 : a' r_around = a r_around := h 5 (by omega)
    have h6 : a' r_part = a r_part := h 6 (by omega)
    have h8 : a' r_isStmt = a r_isStmt := h 8 (by omega)
    have h15 : a' r_hasCatch = a r_hasCatch := h 15 (by omega)
    have h16 : a' r_hasEnd = a r_hasEnd := h 16 (by omega)
    have h45 : a' r_byNumber = a r_byNumber := h 45 (by omega)
    unfold lvA
    rw [h3, h5, h6, h15, h16, rchG_c h45 h5 h8, lvA_c h N c k]
/-- where a way goes on -/
def woA (a : Nat → Nat → Int32) (N : Nat) (K : Nat → Nat) (x : Nat × Nat) : Int32 ⊕ Nat := if x.2 = 0 then .inl (nI (5 * x.1 + 3)) else lvA a N x.2 (K x.1) x.1 (a r_around x.1)
def woI (a : Nat → Nat → Int32) (N : Nat) (K : Nat → Nat) (on : Nat → Int32) (W : wL_T) (k : Nat) : Prop := ∀ i, i < k → ∀ x, W.reverse[i]? = some x → inW W x.2 (woA a N K x) ∧ on i = coW W x.2 (woA a N K x)
theorem woI_up {a : Nat → Nat → Int32} {N : Nat} {K : Nat → Nat} {on : Nat → Int32} {W W' : wL_T} {k : Nat} (hk : k < W.length) (h : woI a N K on W k) (hs : W <:+ W') {x : Nat × Nat} (hx : W.reverse[k]? = some x) (hi : inW W' x.2 (woA a N K x)) : woI a N K (upd on k (coW W' x.2 (woA a N K x))) W' (k + 1) := by
  obtain ⟨M, eM⟩ := suf_rev hs
  have get : ∀ i, i < W.length → W'.reverse[i]? = W.reverse[i]? := by
    intro i hi
    rw [eM, List.getElem?_append_left (by rw [List.length_reverse]; exact hi)]
  intro i hik y hy
  by_cases e : i = k
  · subst e
    rw [get i hk, hx] at hy
    cases hy
    refine ⟨hi, ?_⟩
    show (if i = i then _ else _) = _
    rw [if_pos rfl]
  · rw [get i (by omega)] at hy
    obtain ⟨h1, h2⟩ := h i (by omega) y hy
    obtain ⟨h3, h4⟩ := coW_mono hs h1
    refine ⟨h4, ?_⟩
    show (if i = k then _ else on i) = _
    rw [if_neg e, h2, h3]
section RB16
variable {m0 : Nat → Int32} {a0 : Nat → Nat → Int32}
abbrev RBc (m0 : Nat → Int32) (a0 : Nat → Nat → Int32) (E : eL_T) (W : wL_T) (m : Nat → Int32) (a : Nat → Nat → Int32) : Prop := ((∀ j, ¬ (j = 50 ∨ j = 55) → m j = m0 j) ∧ (∀ j, ¬ ((46 ≤ j ∧ j ≤ 49) ∨ j = 52 ∨ j = 53) → a j = a0 j)) ∧ (m r_edges = nI E.length ∧ (∀ x, x < 3600 → a r_edgeHead x = oI (lastE E x)) ∧ rowE a E) ∧ (m r_ways = nI W.length ∧ rowW a W)
theorem RB_on {on : Nat → Int32} {E : eL_T} {W : wL_T} {m : Nat → Int32} {a : Nat → Nat → Int32} (k : Nat) (v : Int32) (h : RBc m0 (upa a0 r_wayOn on) E W m a) : RB m0 (upa a0 r_wayOn (upd on k v)) E W (rs m (up2 a r_wayOn k v)) := by
  obtain ⟨h1, h2, h3⟩ := h
  refine ⟨m, _, rfl, ⟨h1.1, fun j hj => ?_⟩, ⟨h2.1, fun x hx => ?_, rowE_c E (fun j i hj hi => ?_) h2.2.2⟩, h3.1, rowW_c W (fun j i hj hi => ?_) h3.2⟩
  · by_cases e : j = r_wayOn
    · subst e
      have e1 : a r_wayOn = on := by rw [h1.2 r_wayOn hj, upa_at]
      unfold up2
      rw [upa_at, upa_at, e1]
    · rw [up2_row e, upa_ne _ _ e, h1.2 j hj, upa_ne _ _ e]
  · rw [up2_row (by decide)]; exact h2.2.1 x hx
  · rw [up2_row (show ¬ j = 54 by omega)]
  · rw [up2_row (show ¬ j = 54 by omega)]
set_option maxRecDepth 100000 in
theorem bd_160 (d : Nat) {N : Nat} {K : Nat → Nat} (hN : N ≤ 260) (hs : m0 r_nodes = nI N) (hb : bdOK a0 N K) {G : wL_T → Prop} {okC : Nat → Prop} (hG : gOK a0 N G okC) {E : eL_T} (P : pv_R) : ∀ (f k : Nat) (on : Nat → Int32) (W0 W : wL_T) (S : pv_S), k + f = 1500 → k ≤ W.length → W0 <:+ W → G W → woI a0 N K on W k → RB m0 (upa a0 r_wayOn on) E W S → (∀ (on' : Nat → Int32) (W' : wL_T) (S' : pv_S), W0 <:+ W' → G W' → woI a0 N K on' W' W'.length → RB m0 (upa a0 r_wayOn on') E W' S' → P none S') → pv_go rq_T49 3 (pv_call rq_mt (d + 5)) P (160, bdL k, [], S) := by
  intro f
  induction f with
  | zero =>
    intro k on W0 W S hk hkW hW0 hW hwo hS h
    have := (hG.2.1 W hW).1
    omega
  | succ f ih =>
    intro k on W0 W S hk hkW hW0 hW hwo hS h
    have hWl := (hG.2.1 W hW).1
    obtain ⟨m, a, rfl, hR⟩ := hS
    by_cases c : k = W.length
    · have le : m 55 ≤ nI k := by rw [show m 55 = nI W.length from hR.2.2.1, c]; exact Int32.le_refl _
      have g := h on W (rs m a) hW0 hW (by rw [← c]; exact hwo) ⟨m, a, rfl, hR⟩
      refine pv_run [] 20 ?_
      exact And.intro (fun _ => g) (fun q => absurd le q)
    · have hkl : k < W.length := by omega
      have nle : ¬ m 55 ≤ nI k := by
        rw [show m 55 = nI W.length from hR.2.2.1, nI_leI (by omega) (by omega)]
        omega
      obtain ⟨x, hx⟩ : ∃ x, W.reverse[k]? = some x := ⟨_, List.getElem?_eq_getElem (by rw [List.length_reverse]; exact hkl)⟩
      have hxW : x ∈ W := List.mem_reverse.mp (List.mem_of_getElem? hx)
      obtain ⟨hx1, hx2, hx3⟩ := (hG.2.1 W hW).2 x hxW
      have hrow := rowW_get W hR.2.2.2 k x hx
      have i1 : vp_in (nI k) 1500 := vp_in_nI (by omega) (by decide)
      have c1 : (nI k).toNatClampNeg = k := nI_clamp (by omega)
      have e1 : a r_wayOf (nI k).toNatClampNeg = nI x.1 := by rw [c1]; exact hrow.1
      have e2 : a r_wayCode (nI k).toNatClampNeg = nI x.2 := by rw [c1]; exact hrow.2
      have nx : ∀ (W' : wL_T) (m' : Nat → Int32) (a' : Nat → Nat → Int32), RBc m0 (upa a0 r_wayOn on) E W' m' a' → W <:+ W' → G W' → inW W' x.2 (woA a0 N K x) → pv_go rq_T49 3 (pv_call rq_mt (d + 5)) P (212, bdL k, [], rs m' (up2 a' r_wayOn k (coW W' x.2 (woA a0 N K x)))) := by
        intro W' m' a' hR' hsu hW' hin
        have hl' : W.length ≤ W'.length := hsu.length_le
        have g := ih (k + 1) _ W0 W' _ (by omega) (by omega) (hW0.trans hsu) hW' (woI_up hkl hwo hsu hx hin) (RB_on k (coW W' x.2 (woA a0 N K x)) hR') h
        refine pv_run [160] 10 ?_
        show pv_go rq_T49 3 (pv_call rq_mt (d + 5)) P (160, [(0, .ref 0), (1, .int (nI k + 1))], [], rs m' (up2 a' r_wayOn k (coW W' x.2 (woA a0 N K x))))
        rw [nI_1]
        exact g
      refine pv_run [212] 40 ?_
      refine And.intro (fun z => absurd z nle) (fun _ => ?_)
      refine And.intro i1 ?_
      refine And.intro (fun z => ?_) (fun z => ?_)
      · have z : a r_wayCode (nI k).toNatClampNeg = 0 := z
        rw [e2, show (0 : Int32) = nI 0 from rfl, nI_eq (by omega) (by omega)] at z
        have ew : woA a0 N K x = .inl (nI (5 * x.1 + 3)) := by unfold woA; rw [if_pos z]
        refine And.intro i1 ?_
        refine rc_point (d + 4) (rs m a) _ 3 _ ?_
        refine And.intro i1 ?_
        have g := nx W m a hR (List.suffix_refl W) hW (by rw [ew]; trivial)
        rw [ew] at g
        have g : pv_go rq_T49 3 (pv_call rq_mt (d + 5)) P (212, bdL k, [], rs m (up2 a r_wayOn (nI k).toNatClampNeg (5 * a r_wayOf (nI k).toNatClampNeg + 3))) := by
          rw [e1, c1, show (3 : Int32) = nI 3 from rfl, pnt]
          exact g
        exact g
      · have z : ¬ a r_wayCode (nI k).toNatClampNeg = 0 := z
        rw [e2, show (0 : Int32) = nI 0 from rfl, nI_eq (by omega) (by omega)] at z
        have ew : woA a0 N K x = lvA a0 N x.2 (K x.1) x.1 (a0 r_around x.1) := by unfold woA; rw [if_neg z]
        refine And.intro i1 ?_
        refine And.intro i1 ?_
        have ro : ∀ j, ¬ j = 54 → upa a0 r_wayOn on j = a0 j := fun j hj => upa_ne a0 on hj
        have r5 : upa a0 r_wayOn on r_around = a0 r_around := ro 5 (by omega)
        have hbr : bRow (upa a0 r_wayOn on) N := by intro i hi; rw [ro 45 (by omega)]; exact hb.1 i hi
        have hln : lnA (upa a0 r_wayOn on) (K x.1) (upa a0 r_wayOn on r_around x.1) := lnA_congr (a := a0) r5 _ _ (by rw [r5]; exact (hb.2.1 x.1 hx1).1)
        have gG := lvA_G hb hG hx3 hx1 hW
        rw [lvR_go, ← ew] at gG
        have el : lvR (upa a0 r_wayOn on) N x.2 (K x.1) x.1 (upa a0 r_wayOn on r_around x.1) W = goW x.2 W (woA a0 N K x) := by
          rw [lvR_go, r5, lvA_c (a := a0) (fun j hj => ro j (by omega)), ← ew]
        have go := goW_ok x.2 W (woA a0 N K x)
        have g : pv_call rq_mt (d + 5) rq_m_R_leave [.ref 0, .int (a r_wayOf (nI k).toNatClampNeg), .int (a r_wayCode (nI k).toNatClampNeg)] (rs m a) (fun o S => ∃ m' a', S = rs m' a' ∧ RBc m0 (upa a0 r_wayOn on) E (goW x.2 W (woA a0 N K x)).2 m' a' ∧ o = some (.int (goW x.2 W (woA a0 N K x)).1)) := by
          rw [e1, e2]
          refine rc_leave (d + 3) hN hs hbr (gOK_w hN hG hW) hx1 hx2 hln ⟨m, a, rfl, hR⟩ _ (fun S' hS' => ?_)
          rw [el] at hS' ⊢
          obtain ⟨m', a', rfl, hR'⟩ := hS'
          exact ⟨m', a', rfl, hR', rfl⟩
        refine pv_call_cm _ _ _ _ _ _ _ ?_ g
        rintro o S ⟨m', a', rfl, hR', rfl⟩
        refine And.intro i1 ?_
        have g2 := nx _ m' a' hR' go.1 gG go.2.1
        rw [← go.2.2] at g2
        have g2 : pv_go rq_T49 3 (pv_call rq_mt (d + 5)) P (212, bdL k, [], rs m' (up2 a' r_wayOn (nI k).toNatClampNeg (goW x.2 W (woA a0 N K x)).1)) := by
          rw [c1]; exact g2
        exact g2
end RB16
