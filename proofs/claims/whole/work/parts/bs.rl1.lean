/-! the class and the reference, side by side -/
section RL1
variable {a b : Nat → Nat → Int32} {V : Nat} {t : Std.Format} {f : Nat → Int64}
theorem CU_eRow (hC : CU a V t) : eRow a (sp_z t) := by
  intro q hq
  have := CU_end hC hq
  have l := EN_le (t := t) hq
  have hN := hC.1.1.1
  rw [this.2]
  exact ⟨this.1, by omega⟩
theorem CU_nRow (hC : CU a V t) (hU : RU b V t) : nRow a (sp_z t) := by
  have hV := hC.1.1.2
  intro p hp
  have yes : ∀ k, k < 12 → a c_P_named p = nI k → a c_P_named p = oI (dO (a c_P_named p)) ∧ dO (a c_P_named p) ≤ 12 := by
    intro k hk e
    have d : dO (a c_P_named p) = k + 1 := by rw [e, ← oI_s]; exact dO_oI (by omega)
    rw [d, oI_s]
    exact ⟨e, by omega⟩
  have no : a c_P_named p = -1 → a c_P_named p = oI (dO (a c_P_named p)) ∧ dO (a c_P_named p) ≤ 12 := by
    intro e
    rw [e]
    exact ⟨rfl, by decide⟩
  by_cases st : stS (SO t p)
  · by_cases c : SO t p = 36 ∨ SO t p = 37
    · have := row_V hC hp (by omega)
      exact yes _ (by omega) this.1.1
    · obtain ⟨R, hR, ⟨e1, e2⟩, hc, hr, _⟩ := recs hC hU hp
      unfold cRow at hc
      rw [e1, if_pos st] at hc
      exact no (hc.1.1.2.2.1 c)
  · have k := e_var hC hU hp st
    by_cases s : SO t p = 61 ∨ (97 ≤ SO t p ∧ SO t p ≤ 122)
    · exact yes _ (by have := (k.1 s).2; omega) (k.1 s).1.1
    · exact no (k.2 s).1
end RL1
/-- the same rows but for the collected signs, the wrong places, what could be final -/
def L3 (a a' : Nat → Nat → Int32) : Prop := ∀ j, ¬ (j = 0 ∨ j = 1) → ¬ j = 22 → a' j = a j
def jd3 (a : Nat → Nat → Int32) (N V : Nat) (f : Nat → Int64) (p : Nat) (sz : Int32) (a' : Nat → Nat → Int32) : Prop := (L3 a a' ∧ sz = nI (wrgL a N V f p).length) ∧ (∀ (i x : Nat), (wrgL a N V f p)[i]? = some x → a' c_J_wrong i = nI x) ∧ ∀ v, v < 12 → a' c_V_couldBeFinal v = cbF a N V f p v
theorem chG_r {a a' : Nat → Nat → Int32} (h : a' c_P_end = a c_P_end) (N e : Nat) : ∀ k c, chG a' N e k c = chG a N e k c
  | 0, _ => rfl
  | k + 1, c => by
    unfold chG
    rw [h, chG_r h N e k]
theorem kdF_L3 {a a' : Nat → Nat → Int32} (h : L3 a a') (N V : Nat) (f : Nat → Int64) (p : Nat) : kdF a' N V f p = kdF a N V f p := by
  have e := h c_P_end (by decide) (by decide)
  unfold kdF chF
  rw [h c_P_sort (by decide) (by decide), h c_P_named (by decide) (by decide), h c_V_isFinal (by decide) (by decide), e, chG_r e]
theorem eRow_L3 {a a' : Nat → Nat → Int32} {N : Nat} (h : L3 a a') (hE : eRow a N) : eRow a' N := by
  intro q hq
  rw [h c_P_end (by decide) (by decide)]
  exact hE q hq
theorem nRow_L3 {a a' : Nat → Nat → Int32} {N : Nat} (h : L3 a a') (hE : nRow a N) : nRow a' N := by
  intro q hq
  rw [h c_P_named (by decide) (by decide)]
  exact hE q hq
/-- the class between two questions -/
def CSt (n V : Nat) (t : Std.Format) (sc : sc_T) (fp : Int32) (tx : Nat → Int32) (S : pv_S) : Prop := ∃ m a l w a3, S = cs m a l w ∧ (CUP a3 V t (l 0) ∧ L3 a3 a ∧ w = l 0 964) ∧ ((m c_P_size = nI (sp_z t) ∧ m c_V_size = nI V) ∧ m c_P_thereAtEnd = thOf sc ∧ m c_A_faultAt = fp) ∧ ((m c_A_collectedSize = nI n ∧ n ≤ 240) ∧ a c_A_collected = tx) ∧ (jd3 a3 (sp_z t) V (l 0) (sp_z t) (m c_J_size) a ∧ ∀ v, v < V → a c_V_uses v = nI (uS v t) ∧ a c_V_assigns v = nI (aS v t)) ∧ (gvN 0 V t ∧ scV V sc)
def RStS (n V : Nat) (t : Std.Format) (sc : sc_T) (fp : Int32) (tx : Nat → Int32) (S : pv_S) : Prop := ∃ m a, S = rs m a ∧ RSt n V t sc fp m a ∧ r_tx a = tx
/-- both machines answer the same and are side by side again -/
def Same (d qc qr : Nat) (L : List Value) (Sc Sr : pv_S) : Prop := ∃ r n V t sc fp tx, pv_call cq_mt d qc (.ref 0 :: L) Sc (fun o S => o = some (.int r) ∧ CSt n V t sc fp tx S) ∧ pv_call rq_mt d qr (.ref 0 :: L) Sr (fun o S => o = some (.int r) ∧ RStS n V t sc fp tx S)
section RL2
variable {n V : Nat} {t : Std.Format} {sc : sc_T} {fp : Int32} {tx : Nat → Int32} {Sc Sr : pv_S}
theorem q_fault (d : Nat) (hc : CSt n V t sc fp tx Sc) (hr : RStS n V t sc fp tx Sr) : Same (d + 300) cq_m_A_fault rq_m_R_fault [] Sc Sr := by
  have kc := hc
  have kr := hr
  obtain ⟨m, a, l, w, a3, rfl, h1, h2, h3⟩ := hc
  obtain ⟨m', a', rfl, g1, g2⟩ := hr
  refine ⟨fp, n, V, t, sc, fp, tx, ?_, ?_⟩
  · exact cc_Afault (d + 299) _ ⟨by rw [h2.2.2], kc⟩
  · exact rc_fault (d + 299) m' a' _ ⟨by rw [g1.2.2.2.2.1.2], kr⟩
theorem q_forget (d : Nat) (hc : CSt n V t sc fp tx Sc) (hr : RStS n V t sc fp tx Sr) : Same (d + 300) cq_m_A_forget rq_m_R_forget [] Sc Sr := by
  obtain ⟨m, a, l, w, a3, rfl, h1, h2, h3, h4, h5⟩ := hc
  obtain ⟨m', a', rfl, ⟨g1, g2, g3, g4, g5, g6⟩, g7⟩ := hr
  refine ⟨nI n, 0, V, t, sc, fp, tx, ?_, ?_⟩
  · exact cc_Aforget (d + 299) _ ⟨by rw [h3.1.1], _, _, _, _, a3, rfl, h1, h2, ⟨⟨rfl, by omega⟩, h3.2⟩, h4, h5⟩
  · exact rc_forget (d + 299) m' a' _ ⟨by rw [g6.1], _, _, rfl, ⟨g1, g2, g3, g4, g5, rfl, by omega⟩, g7⟩
/-- the unit that both have read -/
theorem CS_U {a3 ar : Nat → Nat → Int32} {f : Nat → Int64} {m' : Nat → Int32} (h1 : CUP a3 V t f) (g : RSt n V t sc fp m' ar) : SameU a3 ar V t f := ⟨g.1.1, h1, g.2.1.1, g.2.1.2⟩
theorem q_place (d : Nat) (hc : CSt n V t sc fp tx Sc) (hr : RStS n V t sc fp tx Sr) (x y : Int32) : Same (d + 300) cq_m_A_place rq_m_R_place [.int x, .int y] Sc Sr := by
  have kc := hc
  have kr := hr
  obtain ⟨m, a, l, w, a3, rfl, h1, h2, h3, h4, h5⟩ := hc
  obtain ⟨m', a', rfl, g, g7⟩ := hr
  have U := CS_U h1.1 g
  have hC := U.2.1.1.1
  have hU := U.2.2.1
  have hN := hC.1.1.1
  have ep : ∀ p, plV a p y = plV a3 p y := by
    intro p
    unfold plV
    rw [h1.2.1 c_P_sort (by decide) (by decide), h1.2.1 c_P_first (by decide) (by decide), h1.2.1 c_P_around (by decide) (by decide), h1.2.1 c_P_named (by decide) (by decide)]
  have har : ∀ p, p < sp_z t → a' r_around p = -1 ∨ (a' r_around p = nI (dN (a' r_around p)) ∧ dN (a' r_around p) < sp_z t) := by
    intro p hp
    obtain ⟨i, hi, rfl⟩ := ID_sur hp
    rw [RU_ar hU hi]
    by_cases c : PA t i = 0
    · rw [if_pos c]; exact Or.inl rfl
    · have l := ID_lt (t := t) (i := PA t i - 1) (by have := PA_le hi; omega)
      rw [if_neg c, oI_s, show dN (nI (ID t (PA t i - 1))) = ID t (PA t i - 1) from nI_clamp (by omega)]
      exact Or.inr ⟨rfl, l⟩
  by_cases e : ∃ p, x = nI p ∧ p < sp_z t
  · obtain ⟨p, rfl, hp⟩ := e
    have inj : ∀ q, nI p = nI q → q < sp_z t → q = p := fun q e hq => by
      rw [nI_eq (by omega) (by omega)] at e
      exact e.symm
    refine ⟨plV a p y, n, V, t, sc, fp, tx, ?_, ?_⟩
    · refine cc_Aplace (d + 298) (by omega) h2.1.1 (nI p) y _ (fun q eq hq => ?_) (fun q => absurd rfl (q p hp))
      rw [inj q eq hq]
      exact ⟨rfl, kc⟩
    · have pe := place_eq hC hU hp y
      refine rc_place (d + 297) (by omega) g.1.2.1 (RU_bRow hU) har (nI p) y _ (fun q eq hq hy => ?_) (fun q => ?_)
      · rw [inj q eq hq, RU_num hU hp, ep, pe.1 hy]
        exact ⟨rfl, kr⟩
      · have hy : ¬ (0 ≤ y ∧ y ≤ 3) := fun u => q ⟨⟨p, rfl, hp⟩, u⟩
        rw [ep, pe.2 hy]
        exact ⟨rfl, kr⟩
  · refine ⟨-2, n, V, t, sc, fp, tx, ?_, ?_⟩
    · exact cc_Aplace (d + 298) (by omega) h2.1.1 x y _ (fun q eq hq => absurd ⟨q, eq, hq⟩ e) (fun q => ⟨rfl, kc⟩)
    · exact rc_place (d + 297) (by omega) g.1.2.1 (RU_bRow hU) har x y _ (fun q eq hq hy => absurd ⟨q, eq, hq⟩ e) (fun q => ⟨rfl, kr⟩)
theorem q_fact (d : Nat) (hc : CSt n V t sc fp tx Sc) (hr : RStS n V t sc fp tx Sr) (x k y : Int32) : Same (d + 300) cq_m_A_fact rq_m_R_fact [.int x, .int k, .int y] Sc Sr := by
  have kc := hc
  have kr := hr
  obtain ⟨m, a, l, w, a3, rfl, h1, h2, h3, h4, h5⟩ := hc
  obtain ⟨m', a', rfl, g, g7⟩ := hr
  have U := CS_U h1.1 g
  have hC := U.2.1.1.1
  have hU := U.2.2.1
  have hN := hC.1.1
  have ep : ∀ p, fcV a (l 0) p k y = fcV a3 (l 0) p k y := by
    intro p
    unfold fcV taV
    rw [h1.2.1 c_P_sort (by decide) (by decide), h1.2.1 c_P_there (by decide) (by decide), h1.2.1 c_P_named (by decide) (by decide)]
  by_cases e : ∃ p, x = nI p ∧ p < sp_z t
  · obtain ⟨p, rfl, hp⟩ := e
    have inj : ∀ q, nI p = nI q → q < sp_z t → q = p := fun q e hq => by
      rw [nI_eq (by omega) (by omega)] at e
      exact e.symm
    have pe := fact_eq U hp k y
    refine ⟨fcV a (l 0) p k y, n, V, t, sc, fp, tx, ?_, ?_⟩
    · refine cc_Afact (d + 297) (by omega) h2.1.1 (nI p) k y _ (fun q eq hq => ?_) (fun q => absurd rfl (q p hp))
      rw [inj q eq hq]
      exact ⟨rfl, kc⟩
    · refine rc_fact (d + 296) (by omega) g.1.2.1 (RU_bRow hU) hN.2 g.1.2.2 (nI p) k y _ (fun q eq hq hk hy hs => ?_) (fun q => ?_)
      · have eqp := inj q eq hq
        subst eqp
        rw [RU_num hU hp] at hs ⊢
        rw [ep, pe.1 ⟨hk, hy, hs⟩]
        exact ⟨rfl, kr⟩
      · have nn : ¬ ((0 ≤ k ∧ k ≤ 3) ∧ (0 ≤ y ∧ y ≤ 2) ∧ ¬ (1 < k ∧ ¬ a' r_isStmt (ID t p) = 0)) := fun u => q ⟨p, rfl, hp, u.1, u.2.1, by rw [RU_num hU hp]; exact u.2.2⟩
        rw [ep, pe.2 nn]
        exact ⟨rfl, kr⟩
  · refine ⟨-2, n, V, t, sc, fp, tx, ?_, ?_⟩
    · exact cc_Afact (d + 297) (by omega) h2.1.1 x k y _ (fun q eq hq => absurd ⟨q, eq, hq⟩ e) (fun q => ⟨rfl, kc⟩)
    · exact rc_fact (d + 296) (by omega) g.1.2.1 (RU_bRow hU) hN.2 g.1.2.2 x k y _ (fun q eq hq hk hy hs => absurd ⟨q, eq, hq⟩ e) (fun q => ⟨rfl, kr⟩)
end RL2
