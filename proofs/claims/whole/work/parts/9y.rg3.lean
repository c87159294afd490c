/-! all edges of the reference's graph -/
section RG3
variable {b : Nat → Nat → Int32} {V : Nat} {t : Std.Format}
theorem own_add (h : RU b V t) {q : Nat} (hq : q < sp_z t) (k : Nat) (Wf : wL_T) (E : eL_T) (x : Nat × Int32 × Int32) : x ∈ own b (sp_z t) k (ID t q) Wf E ↔ (x ∈ own b (sp_z t) k (ID t q) Wf [] ∨ x ∈ E) := by
  have key : (∃ S : Prop, ∀ E, x ∈ own b (sp_z t) k (ID t q) Wf E ↔ (S ∨ x ∈ E)) → (x ∈ own b (sp_z t) k (ID t q) Wf E ↔ (x ∈ own b (sp_z t) k (ID t q) Wf [] ∨ x ∈ E)) := by
    rintro ⟨S, hS⟩
    rw [hS E, hS []]
    exact ⟨fun u => u.imp_left Or.inl, fun u => u.imp_left (fun v => v.resolve_right (fun w => nomatch w))⟩
  have hW := h.1.2.1
  apply key
  by_cases c : stS (SO t q)
  · have c' := c
    unfold stS at c'
    rcases c' with c' | c' | c' | c' | c' | c' | c' | c' | c' | c' | c' | c' | c' | c' | c'
    · exact ⟨_, fun E => ow_36 h hq (Or.inl c') k Wf E x⟩
    · exact ⟨_, fun E => ow_36 h hq (Or.inr c') k Wf E x⟩
    · exact ⟨chM (ID t) (KI t q) (5 * ID t q + 0) (nI (5 * ID t q + 3)) x, fun E => ow_123 h hq c' k Wf E x⟩
    · obtain ⟨s, hK, g⟩ := ks_58 hW hq c'
      refine ⟨x = (5 * ID t s + 3, nI (5 * ID t q + 3), 0) ∨ x = (5 * ID t q + 0, nI (5 * ID t s + 0), 0), fun E => ?_⟩
      rw [ow_58 h hq c' hK g]
      simp only [or_assoc]
    · obtain ⟨s, hK, g⟩ := ks_59 hW hq c'
      refine ⟨x ∈ own b (sp_z t) k (ID t q) Wf [], fun E => ?_⟩
      rw [ow_59 h hq c' hK g, ow_59 h hq c' hK g]
      simp only [or_assoc, List.not_mem_nil, false_or, or_false]
    · rcases ks_73 hW hq c' with ⟨e, s, hK, g1, g2⟩ | ⟨e, s, s2, hK, g1, g2, g3⟩
      · refine ⟨x ∈ own b (sp_z t) k (ID t q) Wf [], fun E => ?_⟩
        rw [ow_73 h hq c' hK g1 g2, ow_73 h hq c' hK g1 g2]
        simp only [or_assoc, List.not_mem_nil, false_or, or_false]
      · refine ⟨x ∈ own b (sp_z t) k (ID t q) Wf [], fun E => ?_⟩
        rw [ow_73b h hq c' hK g1 g2 g3, ow_73b h hq c' hK g1 g2 g3]
        simp only [or_assoc, List.not_mem_nil, false_or, or_false]
    · obtain ⟨e, s, hK, g1, g2⟩ := ks_87 hW hq c'
      refine ⟨x ∈ own b (sp_z t) k (ID t q) Wf [], fun E => ?_⟩
      rw [ow_87 h hq c' hK g1 g2, ow_87 h hq c' hK g1 g2]
      simp only [or_assoc, List.not_mem_nil, false_or, or_false]
    · obtain ⟨e, s, hK, g1, g2⟩ := ks_68 hW hq c'
      refine ⟨x ∈ own b (sp_z t) k (ID t q) Wf [], fun E => ?_⟩
      rw [ow_68 h hq c' hK g1 g2, ow_68 h hq c' hK g1 g2]
      simp only [or_assoc, List.not_mem_nil, false_or, or_false]
    · obtain ⟨e, f, s, hK, ⟨g1, g2⟩, g3⟩ := ks_70 hW hq c'
      refine ⟨x ∈ own b (sp_z t) k (ID t q) Wf [], fun E => ?_⟩
      rw [ow_70 h hq c' hK g1 g2 g3, ow_70 h hq c' hK g1 g2 g3]
      simp only [or_assoc, List.not_mem_nil, false_or, or_false]
    · obtain ⟨e, L, hK, g1, g2⟩ := ks_83 hW hq c'
      refine ⟨x ∈ own b (sp_z t) k (ID t q) Wf [], fun E => ?_⟩
      rw [ow_83 h hq c' hK g1 g2, ow_83 h hq c' hK g1 g2]
      simp only [or_assoc, List.not_mem_nil, false_or, or_false]
    · obtain ⟨cx, hsw, -⟩ := (SH_all hW hq).1 c
      obtain ⟨hp, u, v, w, e, -⟩ := (sW_84 c').mp hsw
      refine ⟨x ∈ own b (sp_z t) k (ID t q) Wf [], fun E => ?_⟩
      rw [ow_84 h hq c' e hp.2, ow_84 h hq c' e hp.2]
      simp only [or_assoc, List.not_mem_nil, false_or, or_false]
    · have hK := ks_0 hW hq (by omega)
      exact ⟨_, fun E => (ow_lv h hq (by omega) k Wf E x).1 hK⟩
    · have hK := ks_0 hW hq (by omega)
      exact ⟨_, fun E => (ow_lv h hq (by omega) k Wf E x).1 hK⟩
    · rcases ks_RX hW hq (Or.inl c') with hK | ⟨e, hK, g⟩
      · exact ⟨_, fun E => (ow_lv h hq (by omega) k Wf E x).1 hK⟩
      · refine ⟨x ∈ own b (sp_z t) k (ID t q) Wf [], fun E => ?_⟩
        rw [(ow_lv h hq (by omega) k Wf E x).2 e hK g, (ow_lv h hq (by omega) k Wf [] x).2 e hK g]
        simp only [or_assoc, List.not_mem_nil, false_or, or_false]
    · rcases ks_RX hW hq (Or.inr c') with hK | ⟨e, hK, g⟩
      · exact ⟨_, fun E => (ow_lv h hq (by omega) k Wf E x).1 hK⟩
      · refine ⟨x ∈ own b (sp_z t) k (ID t q) Wf [], fun E => ?_⟩
        rw [(ow_lv h hq (by omega) k Wf E x).2 e hK g, (ow_lv h hq (by omega) k Wf [] x).2 e hK g]
        simp only [or_assoc, List.not_mem_nil, false_or, or_false]
  · refine ⟨x ∈ own b (sp_z t) k (ID t q) Wf [], fun E => ?_⟩
    rcases ks_e hW hq c with (⟨c1, x1, y1, z1, hK, g1, g2, g3⟩ | ⟨c1, x1, y1, hK, g1, g2⟩) | ⟨c1, x1, hK, g1⟩ | ⟨c1, hK⟩
    · rw [ow_63 h hq c1 hK g1 g2 g3, ow_63 h hq c1 hK g1 g2 g3]
      simp only [or_assoc, List.not_mem_nil, false_or, or_false]
    · rcases c1 with c1 | c1
      · rw [ow_124 h hq c1 hK g1 g2, ow_124 h hq c1 hK g1 g2]
        simp only [or_assoc, List.not_mem_nil, false_or, or_false]
      · rw [ow_38 h hq c1 hK g1 g2, ow_38 h hq c1 hK g1 g2]
        simp only [or_assoc, List.not_mem_nil, false_or, or_false]
    · rcases c1 with c1 | c1
      · rw [ow_33 h hq c1 hK g1, ow_33 h hq c1 hK g1]
        simp only [or_assoc, List.not_mem_nil, false_or, or_false]
      · rw [ow_61 h hq c1 hK g1, ow_61 h hq c1 hK g1]
        simp only [or_assoc, List.not_mem_nil, false_or, or_false]
    · rcases c1 with c1 | c1 | c1 | c1
      · rw [ow_lf h hq c (Or.inl c1), ow_lf h hq c (Or.inl c1)]
        simp only [or_assoc, List.not_mem_nil, false_or, or_false]
      · rw [ow_48 h hq c1 hK, ow_48 h hq c1 hK]
        simp only [or_assoc, List.not_mem_nil, false_or, or_false]
      · rw [ow_49 h hq c1 hK, ow_49 h hq c1 hK]
        simp only [or_assoc, List.not_mem_nil, false_or, or_false]
      · rw [ow_lf h hq c (Or.inr c1), ow_lf h hq c (Or.inr c1)]
        simp only [or_assoc, List.not_mem_nil, false_or, or_false]
/-- the raising edges of node q -/
def trM (b : Nat → Nat → Int32) (N k p : Nat) (Wf : wL_T) (x : Nat × Int32 × Int32) : Prop := trN b k (b r_around p) = 1 ∧ ¬ coW Wf 2 (lvA b N 2 k p (b r_around p)) = -1 ∧ (x = (5 * p + 0, coW Wf 2 (lvA b N 2 k p (b r_around p)), 0) ∨ (b r_sort p = 61 ∧ (x = (5 * p + 1, coW Wf 2 (lvA b N 2 k p (b r_around p)), 0) ∨ x = (5 * p + 2, coW Wf 2 (lvA b N 2 k p (b r_around p)), 0))))
/-- the edges -/
def isEd (b : Nat → Nat → Int32) (t : Std.Format) (K : Nat → Nat) (Wf : wL_T) (x : Nat × Int32 × Int32) : Prop := chM (ID t) (rtL t 0) 3599 (nI 1300) x ∨ ∃ q, q < sp_z t ∧ (trM b (sp_z t) (K (ID t q)) (ID t q) Wf x ∨ x ∈ own b (sp_z t) (K (ID t q)) (ID t q) Wf [])
/-- the ways that are used are there -/
def wayIn (b : Nat → Nat → Int32) (t : Std.Format) (K : Nat → Nat) (Wf : wL_T) : Prop := ∀ q, q < sp_z t → (stS (SO t q) → (SO t q = 84 → hE t q → inW Wf 0 (.inr q)) ∧ (isLv (b r_sort (ID t q)) → inW Wf (cdF b (ID t q)) (lvA b (sp_z t) (cdF b (ID t q)) (K (ID t q)) (ID t q) (b r_around (ID t q))))) ∧ (trN b (K (ID t q)) (b r_around (ID t q)) = 1 → inW Wf 2 (lvA b (sp_z t) 2 (K (ID t q)) (ID t q) (b r_around (ID t q))))
theorem bd_fin (h : RU b V t) {K : Nat → Nat} {Wf : wL_T} : ∀ (j p : Nat) (E : eL_T) (W : wL_T), p + j = sp_z t → (bdG b (sp_z t) K j p E W).2 <:+ Wf → (∀ x, x ∈ (bdG b (sp_z t) K j p E W).1 ↔ ((∃ p', (p ≤ p' ∧ p' < sp_z t) ∧ x ∈ stX b (sp_z t) (K p') p' Wf []) ∨ x ∈ E)) ∧ W <:+ Wf ∧ (∀ p', p ≤ p' → p' < sp_z t → (¬ b r_isStmt p' = 0 → (b r_sort p' = 84 → ¬ b r_hasEnd p' = 0 → inW Wf 0 (.inr p')) ∧ (isLv (b r_sort p') → inW Wf (cdF b p') (lvA b (sp_z t) (cdF b p') (K p') p' (b r_around p')))) ∧ (trN b (K p') (b r_around p') = 1 → inW Wf 2 (lvA b (sp_z t) 2 (K p') p' (b r_around p'))))
  | 0, p, E, W, hj, hs => ⟨fun x => ⟨Or.inr, fun u => u.resolve_left (fun ⟨p', h1, _⟩ => by omega)⟩, hs, fun p' h1 h2 => by omega⟩
  | j + 1, p, E, W, hj, hs => by
    have ih := bd_fin h (K := K) (Wf := Wf) j (p + 1) (stB b (sp_z t) (K p) p E W).1 (stB b (sp_z t) (K p) p E W).2 (by omega) hs
    have h1 := stB_fin ih.2.1
    obtain ⟨q, hq, hqp⟩ := ID_sur (t := t) (q := p) (by omega)
    have ad : ∀ x, x ∈ stX b (sp_z t) (K p) p Wf E ↔ (x ∈ stX b (sp_z t) (K p) p Wf [] ∨ x ∈ E) := by
      intro x
      show x ∈ trX b (sp_z t) (K p) p Wf (own b (sp_z t) (K p) p Wf E) ↔ (x ∈ trX b (sp_z t) (K p) p Wf (own b (sp_z t) (K p) p Wf []) ∨ x ∈ E)
      rw [m_tr, m_tr, ← hqp, own_add h hq]
      simp only [or_assoc]
    refine ⟨fun x => ?_, h1.2.1, fun p' g1 g2 => ?_⟩
    · show x ∈ (bdG b (sp_z t) K j (p + 1) (stB b (sp_z t) (K p) p E W).1 (stB b (sp_z t) (K p) p E W).2).1 ↔ _
      rw [ih.1, h1.1, ad]
      constructor
      · rintro (⟨p', g1, g2⟩ | g | g)
        · exact Or.inl ⟨p', ⟨by omega, g1.2⟩, g2⟩
        · exact Or.inl ⟨p, ⟨Nat.le_refl _, by omega⟩, g⟩
        · exact Or.inr g
      · rintro (⟨p', g1, g2⟩ | g)
        · by_cases e : p' = p
          · subst e
            exact Or.inr (Or.inl g2)
          · exact Or.inl ⟨p', ⟨by omega, g1.2⟩, g2⟩
        · exact Or.inr (Or.inr g)
    · by_cases e : p' = p
      · subst e
        exact ⟨h1.2.2.1, h1.2.2.2⟩
      · exact ih.2.2 p' (by omega) g2
theorem ed_all (h : RU b V t) {K : Nat → Nat} {Wf : wL_T} (hs : (bdG b (sp_z t) K (sp_z t) 0 (cnF b (sp_z t) (-1) 0 3599 1300 []) []).2 <:+ Wf) : (∀ x, x ∈ (bdG b (sp_z t) K (sp_z t) 0 (cnF b (sp_z t) (-1) 0 3599 1300 []) []).1 ↔ isEd b t K Wf x) ∧ wayIn b t K Wf := by
  have h0 := bd_fin h (K := K) (Wf := Wf) (sp_z t) 0 (cnF b (sp_z t) (-1) 0 3599 1300 []) [] (by omega) hs
  have hc : ∀ x, x ∈ cnF b (sp_z t) (-1) 0 3599 1300 [] ↔ chM (ID t) (rtL t 0) 3599 (nI 1300) x := by
    intro x
    unfold cnF
    rw [cn_root h]
    have := m_cn (ID := ID t) (x := x) (s := nI 1300) (rtL t 0) 3599 [] (fun r hr => by
      have h1 := (scn_RT h).2.1 r hr
      have h2 := ID_lt h1.2
      have h3 := h.1.1.1
      omega)
    refine Iff.trans this ?_
    exact ⟨fun u => u.resolve_right (fun w => nomatch w), Or.inl⟩
  refine ⟨fun x => ?_, fun q hq => ?_⟩
  · rw [h0.1 x, hc x]
    unfold isEd
    constructor
    · rintro (⟨p', g1, g2⟩ | g)
      · obtain ⟨q, hq, rfl⟩ := ID_sur (t := t) g1.2
        refine Or.inr ⟨q, hq, ?_⟩
        have g2 : x ∈ trX b (sp_z t) (K (ID t q)) (ID t q) Wf (own b (sp_z t) (K (ID t q)) (ID t q) Wf []) := g2
        rw [m_tr] at g2
        exact g2
      · exact Or.inl g
    · rintro (g | ⟨q, hq, g⟩)
      · exact Or.inr g
      · refine Or.inl ⟨ID t q, ⟨Nat.zero_le _, ID_lt hq⟩, ?_⟩
        show x ∈ trX b (sp_z t) (K (ID t q)) (ID t q) Wf (own b (sp_z t) (K (ID t q)) (ID t q) Wf [])
        rw [m_tr]
        exact g
  · have h1 := h0.2.2 (ID t q) (Nat.zero_le _) (ID_lt hq)
    refine ⟨fun hst => ?_, h1.2⟩
    have h2 := h1.1 ((isS_1 h hq).mpr hst)
    refine ⟨fun c1 c2 => ?_, h2.2⟩
    have hid := ID_st h.1.2.2 hq hst
    have h3 := h2.1 ((RU_is h hq (s := 84) (by decide)).mpr c1)
    rw [hid] at h3
    refine h3 ?_
    rw [((RU_S h hq hst).2.2.1 c1).2]
    have c2 : sp_pl (CO t q) / 2 = 1 := c2
    rw [c2]
    decide
end RG3
