/-! side by side: error, count, variable -/
theorem y_01 {y : Int32} : (0 ≤ y ∧ y ≤ 1) ↔ (y = 0 ∨ y = 1) := by
  constructor
  · rintro ⟨h1, h2⟩
    obtain ⟨n, hn, rfl⟩ := nI_of (show ¬ y < 0 from Int32.not_lt.mpr h1)
    rw [show (1 : Int32) = nI 1 from rfl, nI_leI hn (by omega)] at h2
    obtain rfl | rfl : n = 0 ∨ n = 1 := by omega
    · exact Or.inl rfl
    · exact Or.inr rfl
  · rintro (rfl | rfl) <;> decide
theorem y_05 {y : Int32} : (0 ≤ y ∧ y ≤ 5) ↔ (y = 0 ∨ y = 1 ∨ y = 2 ∨ y = 3 ∨ y = 4 ∨ y = 5) := by
  constructor
  · rintro ⟨h1, h2⟩
    obtain ⟨n, hn, rfl⟩ := nI_of (show ¬ y < 0 from Int32.not_lt.mpr h1)
    rw [show (5 : Int32) = nI 5 from rfl, nI_leI hn (by omega)] at h2
    obtain rfl | rfl | rfl | rfl | rfl | rfl : n = 0 ∨ n = 1 ∨ n = 2 ∨ n = 3 ∨ n = 4 ∨ n = 5 := by omega
    · exact Or.inl rfl
    · exact Or.inr (Or.inl rfl)
    · exact Or.inr (Or.inr (Or.inl rfl))
    · exact Or.inr (Or.inr (Or.inr (Or.inl rfl)))
    · exact Or.inr (Or.inr (Or.inr (Or.inr (Or.inl rfl))))
    · exact Or.inr (Or.inr (Or.inr (Or.inr (Or.inr rfl))))
  · rintro (rfl | rfl | rfl | rfl | rfl | rfl) <;> decide
section RL3
variable {n V : Nat} {t : Std.Format} {sc : sc_T} {fp : Int32} {tx : Nat → Int32} {Sc Sr : pv_S}
theorem q_error (d : Nat) (hc : CSt n V t sc fp tx Sc) (hr : RStS n V t sc fp tx Sr) (x y : Int32) : Same (d + 300) cq_m_A_error rq_m_R_error [.int x, .int y] Sc Sr := by
  have kc := hc
  have kr := hr
  obtain ⟨m, a, l, w, a3, rfl, h1, h2, h3, h4, h5⟩ := hc
  obtain ⟨m', a', rfl, g, g7⟩ := hr
  have U := CS_U h1.1 g
  have hC := U.2.1.1.1
  have hU := U.2.2.1
  have hN := hC.1.1
  have rq := RU_rq hC hU g.1.2.1 g.1.2.2
  have wr := wrg_eq U h5.1 (sp_z t) (Nat.le_refl _)
  have wl := wrgL_len a3 (sp_z t) V (l 0) (sp_z t)
  have el : ∀ i : Nat, esN (erK a' V) (sp_z t) 0 i = (wrgL a3 (sp_z t) V (l 0) (sp_z t))[i]? := fun i => by rw [wr]; exact wrS_es _ _ _ _
  have inn : ∀ (i q : Nat), (wrgL a3 (sp_z t) V (l 0) (sp_z t))[i]? = some q → q < sp_z t ∧ erK a' V q = kdF a3 (sp_z t) V (l 0) q := by
    intro i q hq
    rw [wr] at hq
    have := wrS_in _ _ _ _ _ hq
    have lq : q < sp_z t := by omega
    exact ⟨lq, er_some U h5.1 lq (fun u => this.2 ((er_none U h5.1 lq).mpr u))⟩
  have hwr : ∀ i : Nat, i < (wrgL a3 (sp_z t) V (l 0) (sp_z t)).length → ∃ p, (wrgL a3 (sp_z t) V (l 0) (sp_z t))[i]? = some p ∧ p < sp_z t ∧ a c_J_wrong i = nI p := by
    intro i hi
    obtain ⟨p, hp⟩ : ∃ p, (wrgL a3 (sp_z t) V (l 0) (sp_z t))[i]? = some p := ⟨_, List.getElem?_eq_getElem hi⟩
    exact ⟨p, hp, (inn i p hp).1, h4.1.2.1 i p hp⟩
  have C := fun P hb h0 h1' => cc_Aerror (m := m) (a := a) (l := l) (w := w) (d + 295) (N := sp_z t) (V := V) (k := (wrgL a3 (sp_z t) V (l 0) (sp_z t)).length) (by omega) h2.1.1 (eRow_L3 h1.2.1 (CU_eRow hC)) hN.2 h2.1.2 (nRow_L3 h1.2.1 (CU_nRow hC hU)) (by omega) h4.1.1.2 (fun i hi => by obtain ⟨p, _, g1, g2⟩ := hwr i hi; exact ⟨p, g1, g2⟩) x y P hb h0 h1'
  have R := fun P hb h0 h1' => rc_error (m := m') (a := a') (d + 295) rq x y P hb h0 h1'
  by_cases hy : y = 0 ∨ y = 1
  · by_cases e : ∃ i, x = nI i ∧ i < (wrgL a3 (sp_z t) V (l 0) (sp_z t)).length
    · obtain ⟨i, rfl, hi⟩ := e
      obtain ⟨p, e1, e2, e3⟩ := hwr i hi
      refine ⟨if y = 0 then nI p else kdF a3 (sp_z t) V (l 0) p, n, V, t, sc, fp, tx, ?_, ?_⟩
      · refine C _ (fun u => absurd hy u) (fun _ u => absurd rfl (u i hi)) (fun i' p' k1 k2 => ?_)
        have ei : i' = i := by
          have := k1.1
          rw [nI_eq (by omega) (by omega)] at this
          exact this.symm
        subst ei
        have ep : p' = p := by
          have := k2.1
          rw [e3, nI_eq (by omega) (by omega)] at this
          exact this.symm
        subst ep
        refine ⟨fun z => ?_, fun z => ?_⟩
        · rw [if_pos z]; exact ⟨rfl, kc⟩
        · rw [if_neg (by rw [z]; decide), kdF_L3 h1.2.1]; exact ⟨rfl, kc⟩
      · refine R _ (fun u => absurd (y_01.mpr hy) u) (fun _ u => absurd u (nI_pos (by omega))) (fun _ i' ei hi' => ?_)
        have ei : i' = i := by
          rw [nI_eq (by omega) hi'] at ei
          exact ei.symm
        subst ei
        rw [el, e1]
        refine ⟨?_, kr⟩
        show some (Value.int (if y = 0 then nI p else erK a' V p)) = _
        rw [(inn _ p e1).2]
    · refine ⟨-1, n, V, t, sc, fp, tx, ?_, ?_⟩
      · exact C _ (fun u => absurd hy u) (fun _ _ => ⟨rfl, kc⟩) (fun i' p' k1 k2 => absurd ⟨i', k1⟩ e)
      · refine R _ (fun u => absurd (y_01.mpr hy) u) (fun _ _ => ⟨rfl, kr⟩) (fun _ i' ei hi' => ?_)
        have nn : (wrgL a3 (sp_z t) V (l 0) (sp_z t))[i']? = none := List.getElem?_eq_none (Nat.le_of_not_lt (fun u => e ⟨i', ei, u⟩))
        rw [el, nn]
        exact ⟨rfl, kr⟩
  · refine ⟨-2, n, V, t, sc, fp, tx, ?_, ?_⟩
    · exact C _ (fun _ => ⟨rfl, kc⟩) (fun u => absurd u hy) (fun i' p' k1 k2 => ⟨fun z => absurd (Or.inl z) hy, fun z => absurd (Or.inr z) hy⟩)
    · exact R _ (fun _ => ⟨rfl, kr⟩) (fun u => absurd (y_01.mp u) hy) (fun u => absurd (y_01.mp u) hy)
theorem end_v {a3 ar : Nat → Nat → Int32} {f : Nat → Int64} (U : SameU a3 ar V t f) {v : Nat} (hv : v < V) : two (ar r_seen (3600 * v + 1300)) (f 964) v := by
  obtain ⟨hT, hC, hU, hR⟩ := U
  obtain ⟨H, h1, _, h3⟩ := CUP_eq hT hC hR (show v < V + 1 by omega)
  rw [show lnV V v = v from if_neg (by omega)] at h3
  refine ⟨mkV H 1300, mkV_lt _ _, h1 1300 (by omega), fun z hz => ?_⟩
  rw [mkV_bit hz]
  exact (h3 z hz).symm
theorem end_r {a3 ar : Nat → Nat → Int32} {f : Nat → Int64} (U : SameU a3 ar V t f) : ar r_seen (3600 * V + 1300) = 0 ↔ ¬ rch (f 964) := by
  obtain ⟨hT, hC, hU, hR⟩ := U
  obtain ⟨H, h1, _, h3, h4⟩ := CUP_rch hT hC hR
  rw [h1 1300 (by omega), rch_bit]
  have g := h3 0 (by omega)
  have g : LB 12 0 (f 964) 0 ↔ (1300, 0) ∈ H := g
  rw [g, ← mkV_bit (by omega)]
  have n1 : ¬ mkV H 1300 / 2 ^ 1 % 2 = 1 := fun u => absurd (h4 _ ((mkV_bit (by omega)).mp u)) (show ¬ (1 : Nat) = 0 by omega)
  have key : ∀ n : Fin 4, ¬ n.1 / 2 ^ 1 % 2 = 1 → (nI n.1 = 0 ↔ ¬ n.1 / 2 ^ 0 % 2 = 1) := by decide +kernel
  exact key ⟨mkV H 1300, mkV_lt _ _⟩ n1
theorem q_count (d : Nat) (hc : CSt n V t sc fp tx Sc) (hr : RStS n V t sc fp tx Sr) (y : Int32) : Same (d + 300) cq_m_A_count rq_m_R_count [.int y] Sc Sr := by
  have kc := hc
  have kr := hr
  obtain ⟨m, a, l, w, a3, rfl, h1, h2, h3, h4, h5⟩ := hc
  obtain ⟨m', a', rfl, g, g7⟩ := hr
  have U := CS_U h1.1 g
  have hC := U.2.1.1.1
  have hU := U.2.2.1
  have hN := hC.1.1
  have rq := RU_rq hC hU g.1.2.1 g.1.2.2
  have e : ctW m w y = ctR m' a' (sp_z t) V y := by
    unfold ctW ctR
    by_cases y0 : y = 0
    · rw [if_pos y0, if_pos y0, h2.1.1, g.1.2.1]
    rw [if_neg y0, if_neg y0]
    by_cases y1 : y = 1
    · rw [if_pos y1, if_pos y1, h2.1.2, g.1.2.2]
    rw [if_neg y1, if_neg y1]
    by_cases y2 : y = 2
    · rw [if_pos y2, if_pos y2, h4.1.1.2, wrg_eq U h5.1 (sp_z t) (Nat.le_refl _), wrS_ct]
    rw [if_neg y2, if_neg y2]
    by_cases y3 : y = 3
    · rw [if_pos y3, if_pos y3, h3.1.1, g.2.2.2.2.2.1]
    rw [if_neg y3, if_neg y3]
    by_cases y4 : y = 4
    · rw [if_pos y4, if_pos y4, h1.2.2]
      have r := end_r U
      by_cases c : rch (l 0 964)
      · rw [if_pos c, if_neg (fun u => r.mp u c)]
      · rw [if_neg c, if_pos (r.mpr c)]
    rw [if_neg y4, if_neg y4]
    by_cases y5 : y = 5
    · rw [if_pos y5, if_pos y5, h1.2.2, h2.2.1, g.2.2.2.2.1.1]
      exact fs_u hN.2 (fun v hv => end_v U hv) (thOf_lt hN.2 sc h5.2)
    rw [if_neg y5, if_neg y5]
  refine ⟨ctW m w y, n, V, t, sc, fp, tx, ?_, ?_⟩
  · exact cc_Acount (d + 298) y _ ⟨rfl, kc⟩
  · refine rc_count (d + 294) rq y _ ⟨by rw [e], kr⟩
theorem q_variable (d : Nat) (hc : CSt n V t sc fp tx Sc) (hr : RStS n V t sc fp tx Sr) (x y : Int32) : Same (d + 300) cq_m_A_variable rq_m_R_variable [.int x, .int y] Sc Sr := by
  have kc := hc
  have kr := hr
  obtain ⟨m, a, l, w, a3, rfl, h1, h2, h3, h4, h5⟩ := hc
  obtain ⟨m', a', rfl, g, g7⟩ := hr
  have U := CS_U h1.1 g
  have hC := U.2.1.1.1
  have hU := U.2.2.1
  have hN := hC.1.1
  have rq := RU_rq hC hU g.1.2.1 g.1.2.2
  have gv : ∀ v, v < V → a' r_givenAt v = nI (dN (a' r_givenAt v)) ∧ dN (a' r_givenAt v) < 260 := by
    intro v hv
    obtain ⟨i, hi, _, k, _⟩ := var_eq hC hU h5.1 hv
    rw [k.2, show dN (nI i) = i from nI_clamp (by omega)]
    exact ⟨rfl, by omega⟩
  have Lr := h1.2.1
  by_cases e : ∃ v, x = nI v ∧ v < V
  · obtain ⟨v, rfl, hv⟩ := e
    have inj : ∀ q, nI v = nI q → q < V → q = v := fun q e hq => by
      rw [nI_eq (by omega) (by omega)] at e
      exact e.symm
    obtain ⟨i, hi, k1, k2, k3⟩ := var_eq hC hU h5.1 hv
    have vl := vlR_eq (b := a') (v := v) (sp_z t) 0 0 0 1 (Or.inr rfl)
    have ct := cnt_eq hC hU hv
    rw [Nat.zero_add, Nat.zero_add, ct.1, ct.2] at vl
    have cb := cb_eq U hv k3.1 (sp_z t) (Nat.le_refl _)
    have cba : a c_V_couldBeFinal v = cbF a3 (sp_z t) V (l 0) (sp_z t) v := h4.1.2.2 v (by omega)
    have cf : (vlR a' v (sp_z t) 0 (nI 0) (nI 0) 1).2.2 = 0 ↔ a c_V_couldBeFinal v = 0 := by
      rw [cba, cb.2, vl.2.2.1]
      constructor
      · rintro (h | ⟨q, hq, k⟩)
        · exact absurd h (by decide)
        · obtain ⟨j, hj, rfl⟩ := ID_sur (t := t) (q := q) (by omega)
          exact ⟨j, hj, k⟩
      · rintro ⟨j, hj, k⟩
        exact Or.inr ⟨ID t j, by have := ID_lt hj; omega, k⟩
    have num : a' r_number (dN (a' r_givenAt v)) = nI i := by
      have id := ID_st hC.1.2.2 hi.1 hi.2
      rw [k2.2, show dN (nI i) = i from nI_clamp (by omega)]
      have := (RU_by hU hi.1).2
      rw [id] at this
      exact this
    have val : (0 ≤ y ∧ y ≤ 5) → vrV a v y = vrR a' v y (vlR a' v (sp_z t) 0 0 0 1) := by
      intro hy
      have vl0 : vlR a' v (sp_z t) 0 0 0 1 = vlR a' v (sp_z t) 0 (nI 0) (nI 0) 1 := rfl
      rw [vl0]
      unfold vrV vrR
      rcases y_05.mp hy with e | e | e | e | e | e
      · rw [if_pos e, if_pos e, Lr c_V_name (by decide) (by decide)]; exact k1.1
      · subst e
        show (if a c_V_isFinal v = 0 then (0 : Int32) else 1) = (if a' r_isFinal v = 0 then 0 else 1)
        rw [Lr c_V_isFinal (by decide) (by decide), k1.2]
      · subst e
        show a c_V_giver v = a' r_number (dN (a' r_givenAt v))
        rw [Lr c_V_giver (by decide) (by decide), num]
        exact k2.1
      · subst e
        show (if a c_V_couldBeFinal v = 0 then (0 : Int32) else 1) = (if (vlR a' v (sp_z t) 0 (nI 0) (nI 0) 1).2.2 = 0 then 0 else 1)
        by_cases c : a c_V_couldBeFinal v = 0
        · rw [if_pos c, if_pos (cf.mpr c)]
        · rw [if_neg c, if_neg (fun u => c (cf.mp u))]
      · subst e
        show a c_V_uses v = (vlR a' v (sp_z t) 0 (nI 0) (nI 0) 1).1
        rw [(h4.2 v hv).1, vl.1]
      · subst e
        show a c_V_assigns v = (vlR a' v (sp_z t) 0 (nI 0) (nI 0) 1).2.1
        rw [(h4.2 v hv).2, vl.2.1]
    have bad : ¬ (0 ≤ y ∧ y ≤ 5) → vrV a v y = -2 := by
      intro hy
      unfold vrV
      rw [if_neg (fun e => hy (y_05.mpr (by rw [e]; decide))), if_neg (fun e => hy (y_05.mpr (by rw [e]; decide))), if_neg (fun e => hy (y_05.mpr (by rw [e]; decide))), if_neg (fun e => hy (y_05.mpr (by rw [e]; decide))), if_neg (fun e => hy (y_05.mpr (by rw [e]; decide))), if_neg (fun e => hy (y_05.mpr (by rw [e]; decide)))]
    refine ⟨vrV a v y, n, V, t, sc, fp, tx, ?_, ?_⟩
    · refine cc_Avariable (d + 298) hN.2 h2.1.2 (nI v) y _ (fun q eq hq => ?_) (fun q => absurd rfl (q v hv))
      rw [inj q eq hq]
      exact ⟨rfl, kc⟩
    · refine rc_variable (d + 297) rq gv (nI v) y _ (fun q eq hq hy => ?_) (fun q => ?_)
      · rw [inj q eq hq, val hy]
        exact ⟨rfl, kr⟩
      · rw [bad (fun u => q ⟨⟨v, rfl, hv⟩, u⟩)]
        exact ⟨rfl, kr⟩
  · refine ⟨-2, n, V, t, sc, fp, tx, ?_, ?_⟩
    · exact cc_Avariable (d + 298) hN.2 h2.1.2 x y _ (fun q eq hq => absurd ⟨q, eq, hq⟩ e) (fun q => ⟨rfl, kc⟩)
    · exact rc_variable (d + 297) rq gv x y _ (fun q eq hq hy => absurd ⟨q, eq, hq⟩ e) (fun q => ⟨rfl, kr⟩)
end RL3
