def cdL (t : Std.Format) (c : Nat) : Prop := 2 < c → c % 2 = 0 → is_lp (SO t (tgc c))
/-- what a set of the class's points says of the reference's points -/
def Phi (a : Nat → Nat → Int32) (t : Std.Format) (Wf : wL_T) (root : Int32) (fr to : Nat) (M : Nat → Nat → Nat → Prop) (C : Nat → Nat → Prop) (x b : Nat) : Prop :=
  ((∀ j, j < sp_z t → x = 5 * ID t j + 0 → C j b) ∧ (∀ j, j < sp_z t → x = 5 * ID t j + 1 → ¬ stS (SO t j) → C (241 + j) b ∧ (SO t j = 61 → lvp a (sp_z t) root M C (fun _ => True) (-1) 1 j b)) ∧ (∀ j, j < sp_z t → x = 5 * ID t j + 2 → ¬ stS (SO t j) → C (482 + j) b ∧ (SO t j = 61 → lvp a (sp_z t) root M C (fun _ => True) (-1) 1 j b))) ∧
  ((∀ j, j < sp_z t → x = 5 * ID t j + 3 → (stS (SO t j) → C (241 + j) b) ∧ (SO t j = 61 → C (241 + (j + 1)) b)) ∧ (∀ j, j < sp_z t → x = 5 * ID t j + 4 → SO t j = 61 → C (482 + (j + 1)) b)) ∧
  ((x = 1300 → C 964 b) ∧ (∀ q, q < sp_z t → x = 1301 + 3 * q + 0 → SO t q = 84 → hC t q → atP C (a c_Y_catchTo q) b) ∧ (∀ q, q < sp_z t → x = 1301 + 3 * q + 1 → SO t q = 84 → hE t q → (root = nI q → C (if to ≤ fr then 964 else fr) b) ∧ (¬ root = nI q → atP C (a c_Y_finallyTo q) b)) ∧ (∀ q, q < sp_z t → x = 1301 + 3 * q + 2 → root = nI q → C 964 b)) ∧
  (∀ w T c, x = 2100 + w → Wf.reverse[w]? = some (T, c) → (c = 0 → C (723 + T) b) ∧ (¬ c = 0 → (cdOK t c T ∧ cdL t c) ∧ (atP C (a c_Y_finallyTo T) b ∧ ∀ b', b' < 2 → M T b b' → LVQ a t root M C c 20 (TA a T) (a c_P_tryPart T) b'))) ∧
  (x = 3599 → C (if to ≤ fr then 964 else fr) b)
section PHI
variable {a : Nat → Nat → Int32} {t : Std.Format} {Wf : wL_T} {root : Int32} {fr to : Nat} {M : Nat → Nat → Nat → Prop} {C : Nat → Nat → Prop} {b : Nat}
theorem iB (hN : sp_z t ≤ 240) {j : Nat} (hj : j < sp_z t) (h : C j b) : Phi a t Wf root fr to M C (5 * ID t j + 0) b := by
  have hl := ID_lt hj
  refine ⟨⟨fun i hi e => ?_, fun i hi e => ?_, fun i hi e => ?_⟩, ⟨fun i hi e => ?_, fun i hi e => ?_⟩, ⟨fun e => ?_, fun q hq e => ?_, fun q hq e => ?_, fun q hq e => ?_⟩, fun w T c e => ?_, fun e => ?_⟩
  · rw [← ID_inj hj hi (by omega)]; exact h
  all_goals omega
theorem iT (hN : sp_z t ≤ 240) {j : Nat} (hj : j < sp_z t) (h : C (241 + j) b ∧ (SO t j = 61 → lvp a (sp_z t) root M C (fun _ => True) (-1) 1 j b)) : Phi a t Wf root fr to M C (5 * ID t j + 1) b := by
  have hl := ID_lt hj
  refine ⟨⟨fun i hi e => ?_, fun i hi e => ?_, fun i hi e => ?_⟩, ⟨fun i hi e => ?_, fun i hi e => ?_⟩, ⟨fun e => ?_, fun q hq e => ?_, fun q hq e => ?_, fun q hq e => ?_⟩, fun w T c e => ?_, fun e => ?_⟩
  · omega
  · intro _; rw [← ID_inj hj hi (by omega)]; exact h
  all_goals omega
theorem iF (hN : sp_z t ≤ 240) {j : Nat} (hj : j < sp_z t) (h : C (482 + j) b ∧ (SO t j = 61 → lvp a (sp_z t) root M C (fun _ => True) (-1) 1 j b)) : Phi a t Wf root fr to M C (5 * ID t j + 2) b := by
  have hl := ID_lt hj
  refine ⟨⟨fun i hi e => ?_, fun i hi e => ?_, fun i hi e => ?_⟩, ⟨fun i hi e => ?_, fun i hi e => ?_⟩, ⟨fun e => ?_, fun q hq e => ?_, fun q hq e => ?_, fun q hq e => ?_⟩, fun w T c e => ?_, fun e => ?_⟩
  · omega
  · omega
  · intro _; rw [← ID_inj hj hi (by omega)]; exact h
  all_goals omega
theorem iA (hN : sp_z t ≤ 240) {j : Nat} (hj : j < sp_z t) (h1 : stS (SO t j) → C (241 + j) b) (h2 : SO t j = 61 → C (241 + (j + 1)) b) : Phi a t Wf root fr to M C (5 * ID t j + 3) b := by
  have hl := ID_lt hj
  refine ⟨⟨fun i hi e => ?_, fun i hi e => ?_, fun i hi e => ?_⟩, ⟨fun i hi e => ?_, fun i hi e => ?_⟩, ⟨fun e => ?_, fun q hq e => ?_, fun q hq e => ?_, fun q hq e => ?_⟩, fun w T c e => ?_, fun e => ?_⟩
  · omega
  · omega
  · omega
  · rw [← ID_inj hj hi (by omega)]; exact ⟨h1, h2⟩
  all_goals omega
theorem iG (hN : sp_z t ≤ 240) {j : Nat} (hj : j < sp_z t) (h : C (482 + (j + 1)) b) : Phi a t Wf root fr to M C (5 * ID t j + 4) b := by
  have hl := ID_lt hj
  refine ⟨⟨fun i hi e => ?_, fun i hi e => ?_, fun i hi e => ?_⟩, ⟨fun i hi e => ?_, fun i hi e => ?_⟩, ⟨fun e => ?_, fun q hq e => ?_, fun q hq e => ?_, fun q hq e => ?_⟩, fun w T c e => ?_, fun e => ?_⟩
  · omega
  · omega
  · omega
  · omega
  · intro _; rw [← ID_inj hj hi (by omega)]; exact h
  all_goals omega
theorem iZ (hN : sp_z t ≤ 240) (h : C 964 b) : Phi a t Wf root fr to M C 1300 b := by
  refine ⟨⟨fun i hi e => ?_, fun i hi e => ?_, fun i hi e => ?_⟩, ⟨fun i hi e => ?_, fun i hi e => ?_⟩, ⟨fun e => ?_, fun q hq e => ?_, fun q hq e => ?_, fun q hq e => ?_⟩, fun w T c e => ?_, fun e => ?_⟩
  · have := ID_lt hi; omega
  · have := ID_lt hi; omega
  · have := ID_lt hi; omega
  · have := ID_lt hi; omega
  · have := ID_lt hi; omega
  · exact h
  all_goals omega
theorem iK (hN : sp_z t ≤ 240) {j : Nat} (hj : j < sp_z t) (h : atP C (a c_Y_catchTo j) b) : Phi a t Wf root fr to M C (1301 + 3 * j + 0) b := by
  refine ⟨⟨fun i hi e => ?_, fun i hi e => ?_, fun i hi e => ?_⟩, ⟨fun i hi e => ?_, fun i hi e => ?_⟩, ⟨fun e => ?_, fun q hq e => ?_, fun q hq e => ?_, fun q hq e => ?_⟩, fun w T c e => ?_, fun e => ?_⟩
  · have := ID_lt hi; omega
  · have := ID_lt hi; omega
  · have := ID_lt hi; omega
  · have := ID_lt hi; omega
  · have := ID_lt hi; omega
  · omega
  · intro _ _
    rw [show q = j by omega]; exact h
  all_goals omega
theorem iN (hN : sp_z t ≤ 240) {j : Nat} (hj : j < sp_z t) (h1 : root = nI j → C (if to ≤ fr then 964 else fr) b) (h2 : ¬ root = nI j → atP C (a c_Y_finallyTo j) b) : Phi a t Wf root fr to M C (1301 + 3 * j + 1) b := by
  refine ⟨⟨fun i hi e => ?_, fun i hi e => ?_, fun i hi e => ?_⟩, ⟨fun i hi e => ?_, fun i hi e => ?_⟩, ⟨fun e => ?_, fun q hq e => ?_, fun q hq e => ?_, fun q hq e => ?_⟩, fun w T c e => ?_, fun e => ?_⟩
  · have := ID_lt hi; omega
  · have := ID_lt hi; omega
  · have := ID_lt hi; omega
  · have := ID_lt hi; omega
  · have := ID_lt hi; omega
  · omega
  · omega
  · intro _ _
    rw [show q = j by omega]; exact ⟨h1, h2⟩
  all_goals omega
theorem iM (hN : sp_z t ≤ 240) {j : Nat} (hj : j < sp_z t) (h1 : root = nI j → C 964 b) : Phi a t Wf root fr to M C (1301 + 3 * j + 2) b := by
  refine ⟨⟨fun i hi e => ?_, fun i hi e => ?_, fun i hi e => ?_⟩, ⟨fun i hi e => ?_, fun i hi e => ?_⟩, ⟨fun e => ?_, fun q hq e => ?_, fun q hq e => ?_, fun q hq e => ?_⟩, fun w T c e => ?_, fun e => ?_⟩
  · have := ID_lt hi; omega
  · have := ID_lt hi; omega
  · have := ID_lt hi; omega
  · have := ID_lt hi; omega
  · have := ID_lt hi; omega
  · omega
  · omega
  · omega
  · rw [show q = j by omega]; exact h1
  · omega
  · omega
theorem iW (hN : sp_z t ≤ 240) (hlw : Wf.length < 1499) {w T c : Nat} (hw : Wf.reverse[w]? = some (T, c)) (h0 : c = 0 → C (723 + T) b) (h1 : ¬ c = 0 → (cdOK t c T ∧ cdL t c) ∧ (atP C (a c_Y_finallyTo T) b ∧ ∀ b', b' < 2 → M T b b' → LVQ a t root M C c 20 (TA a T) (a c_P_tryPart T) b')) : Phi a t Wf root fr to M C (2100 + w) b := by
  refine ⟨⟨fun i hi e => ?_, fun i hi e => ?_, fun i hi e => ?_⟩, ⟨fun i hi e => ?_, fun i hi e => ?_⟩, ⟨fun e => ?_, fun q hq e => ?_, fun q hq e => ?_, fun q hq e => ?_⟩, fun w' T' c' e hw' => ?_, fun e => ?_⟩
  · have := ID_lt hi; omega
  · have := ID_lt hi; omega
  · have := ID_lt hi; omega
  · have := ID_lt hi; omega
  · have := ID_lt hi; omega
  · omega
  · omega
  · omega
  · omega
  · have : w' = w := by omega
    subst this
    rw [hw] at hw'
    cases hw'
    exact ⟨h0, h1⟩
  · have := get_lt hw
    rw [List.length_reverse] at this
    omega
end PHI
section PHB
variable {a b : Nat → Nat → Int32} {V : Nat} {t : Std.Format} {K : Nat → Nat} {Wf : wL_T} {on : Nat → Int32} {E : eL_T} {root : Int32} {fr to : Nat} {I : Nat → Prop} {M : Nat → Nat → Nat → Prop} {C : Nat → Nat → Prop}
theorem oC_le {c T : Nat} (hT : T ≤ 300) (hc : c ≤ 2 ∨ tgc c ≤ 300) : oI T ≤ oC c ↔ (T = 0 ∨ (2 < c ∧ T - 1 ≤ tgc c)) := by
  unfold oC
  cases T with
  | zero =>
    refine ⟨fun _ => Or.inl rfl, fun _ => ?_⟩
    by_cases h : c ≤ 2
    · rw [if_pos h]; decide
    · rw [if_neg h]
      have : (-1 : Int32) < nI (tgc c) := by
        have h1 : ¬ nI (tgc c) < 0 := nI_pos (by omega)
        have h2 : (0 : Int32) ≤ nI (tgc c) := Int32.not_lt.mp h1
        exact Int32.lt_of_lt_of_le (by decide) h2
      exact Int32.le_of_lt this
  | succ T =>
    rw [oI_s]
    by_cases h : c ≤ 2
    · rw [if_pos h]
      constructor
      · intro z
        have h1 : ¬ nI T < 0 := nI_pos (by omega)
        exact absurd (Int32.lt_of_le_of_lt z (by decide)) h1
      · rintro (z | z)
        · omega
        · omega
    · rw [if_neg h, nI_leI (by omega) (by omega)]
      constructor
      · intro z
        exact Or.inr ⟨by omega, by omega⟩
      · rintro (z | z)
        · omega
        · omega
/-- the way of leaving, from the T's on: what the class asks for holds at the reference's point -/
theorem lv_Phi (h : CU a V t) (hr : RU b V t) (hch : ∀ i, i < sp_z t → chl a 20 (TA a i)) (hK : ∀ p, p < sp_z t → lnA b (K p) (b r_around p)) (hg : RGE a b t K Wf root fr to I) (hW : Wf.length < 1499 ∧ ∀ x ∈ Wf, x.1 < sp_z t ∧ SO t x.1 = 84 ∧ hE t x.1) {c : Nat} (hc0 : ¬ c = 0) (hcl : cdL t c) : ∀ (k i : Nat) (z : Nat), fr ≤ i → i < to → cdOK t c i → chl a k (TA a i) → inW Wf c (lvT a t (fnl b (sp_z t) c) c k (TA a i) (a c_P_tryPart i)) → z < 2 → LVQ a t root M C c k (TA a i) (a c_P_tryPart i) z → ¬ coW Wf c (lvT a t (fnl b (sp_z t) c) c k (TA a i) (a c_P_tryPart i)) = -1 → I (dN (coW Wf c (lvT a t (fnl b (sp_z t) c) c k (TA a i) (a c_P_tryPart i)))) → ∃ p, coW Wf c (lvT a t (fnl b (sp_z t) c) c k (TA a i) (a c_P_tryPart i)) = nI p ∧ p < 10000 ∧ Phi a t Wf root fr to M C p z := by
  have hN := CU_N h
  have hcl2 := rg_cl h hg
  -- the end of the chain
  have fin : ∀ (i z : Nat), fr ≤ i → i < to → cdOK t c i → FIN t C c z → ¬ fnl b (sp_z t) c = -1 → ∃ p, fnl b (sp_z t) c = nI p ∧ p < 10000 ∧ Phi a t Wf root fr to M C p z := by
    intro i z h1 h2 h3 h4 h5
    by_cases c2 : c ≤ 2
    · unfold fnl at h5
      rw [if_pos c2] at h5
      exact absurd rfl h5
    · have h6 := h3 (by omega)
      have hgN : tgc c < sp_z t := by omega
      have hp := fnl_pt h hr (c := c) (by omega) hgN h6.2.1 (fun e => hcl (by omega) e)
      unfold FIN at h4
      rw [if_neg c2] at h4
      by_cases c3 : c % 2 = 1
      · rw [if_pos c3] at h4
        have hl := ID_lt hgN
        refine ⟨_, hp.1 c3, by omega, iA hN hgN (fun _ => h4) (fun e => ?_)⟩
        have := h6.2.1
        rw [e] at this
        exact absurd this (by decide)
      · rw [if_neg c3] at h4
        obtain ⟨e, e1, e2, e3, e4⟩ := hp.2 (by omega)
        have hl := kid_lt hr hgN e2
        rw [e1] at h4
        have h4 : atP C (oI (e + 1)) z := h4
        rw [oI_s] at h4
        refine ⟨_, e4, by omega, iB hN hl.1 ?_⟩
        exact (atP_n (by omega)).mp h4
  intro k
  induction k with
  | zero =>
    intro i z h1 h2 h3 h4 h5 h6 h7 h8 _
    exact fin i z h1 h2 h3 h7 h8
  | succ k ih =>
    intro i z h1 h2 h3 h4 h5 h6 h7 h8 h9
    have hi : i < sp_z t := by omega
    have htl := TA_le h hi
    have htg : c ≤ 2 ∨ tgc c ≤ 300 := by
      by_cases c2 : c ≤ 2
      · exact Or.inl c2
      · have := (h3 (by omega)).1
        exact Or.inr (by omega)
    rcases rg_TA h hr hg _ i (Nat.lt_succ_self _) h1 h2 with e0 | ⟨T, eT, hTi, hs, hin⟩
    · rw [e0] at h5 h7 h8 h9 ⊢
      rw [lvT_0] at h8 ⊢
      unfold LVQ lvq at h7
      rw [if_pos (Or.inl (by omega))] at h7
      exact fin i z h1 h2 h3 h7 h8
    · have hTN : T < sp_z t := by omega
      have hst : stS (SO t T) := by rw [hs]; unfold stS; omega
      rw [eT] at h4 h5 h7 h8 h9 ⊢
      have hch2 := h4.resolve_left (by omega)
      rw [Nat.add_sub_cancel] at hch2
      have ntg : 2 < c → ¬ T = tgc c := fun z1 z2 => (h3 z1).2.2 (by rw [← z2]; exact hs)
      have cO : (¬ (1 ≤ T + 1 ∧ T + 1 ≤ sp_z t) ∨ oI (T + 1) ≤ oC c) ↔ (T + 1 = 0 ∨ (2 < c ∧ T + 1 - 1 < tgc c)) := by
        rw [oC_le (by omega) htg]
        constructor
        · rintro (z1 | z1 | z1)
          · omega
          · omega
          · have := ntg z1.1
            exact Or.inr ⟨z1.1, by omega⟩
        · rintro (z1 | z1)
          · omega
          · exact Or.inr (Or.inr ⟨z1.1, by omega⟩)
      unfold LVQ lvq at h7
      unfold lvT at h5 h8 h9 ⊢
      by_cases k1 : T + 1 = 0 ∨ (2 < c ∧ T + 1 - 1 < tgc c)
      · rw [if_pos k1] at h5 h8 h9 ⊢
        rw [if_pos (cO.mpr k1)] at h7
        exact fin i z h1 h2 h3 h7 h8
      · rw [if_neg k1] at h5 h8 h9 ⊢
        rw [if_neg (fun z1 => k1 (cO.mp z1))] at h7
        rw [Nat.add_sub_cancel] at h5 h7 h8 h9 ⊢
        have cdT : cdOK t c T := fun z1 => by
          have z2 := h3 z1
          have z3 := ntg z1
          have z4 := EN_in (t := t) (i := tgc c) (r := T) (by omega) (by omega) (by omega)
          exact ⟨⟨by omega, by omega⟩, z2.2⟩
        have hcf := T_cf h hTN hs
        have rc : ¬ rC c = 0 ↔ c = 2 := by
          unfold rC
          by_cases c2 : c = 2
          · rw [if_pos c2]; exact ⟨fun _ => c2, fun _ => by decide⟩
          · rw [if_neg c2]; exact ⟨fun z1 => absurd rfl z1, fun z1 => absurd z1 c2⟩
        by_cases kr : oI (T + 1) = root
        · -- the root: nothing inside comes behind
          exfalso
          rw [oI_s] at kr
          have hnot : ¬ (fr ≤ T ∧ T < to) := by
            rcases hg with ⟨z1, -, -, -⟩ | ⟨ρ, z1, z2, z3, z4, z5, -⟩
            · rw [z1] at kr; exact absurd kr (nI_ne_m1 (by omega))
            · rw [z3, nI_eq (by omega) (by omega)] at kr
              obtain ⟨u, v, w, y1, y2, y3⟩ := rg_T h z1 z2.1 z2.2 z4.1 z4.2
              omega
          have hrt : ∃ ρ, root = nI ρ ∧ ρ = T := ⟨T, kr.symm, rfl⟩
          have hp2 : a c_P_tryPart i = 2 := by
            rcases hin with z1 | z1
            · exact absurd z1 hnot
            · exact z1.2
          rw [hp2, if_neg (fun z1 => absurd z1.2.1 (by decide)), if_neg (fun z1 => z1.2 rfl)] at h5 h8 h9
          -- outcomes further out
          have outc : ∀ (k T' : Nat) (pt : Int32), (T' = 0 ∨ ∃ S, T' = S + 1 ∧ S < T ∧ SO t S = 84 ∧ S < sp_z t) → inW Wf c (lvT a t (fnl b (sp_z t) c) c k T' pt) → ¬ coW Wf c (lvT a t (fnl b (sp_z t) c) c k T' pt) = -1 → ¬ I (dN (coW Wf c (lvT a t (fnl b (sp_z t) c) c k T' pt))) := by
            have finO : ¬ fnl b (sp_z t) c = -1 → ¬ I (dN (fnl b (sp_z t) c)) := by
              intro z1 z2
              by_cases c2 : c ≤ 2
              · unfold fnl at z1
                rw [if_pos c2] at z1
                exact z1 rfl
              · have h6 := cdT (by omega)
                have hgN : tgc c < sp_z t := by omega
                have hp := fnl_pt h hr (c := c) (by omega) hgN h6.2.1 (fun e => hcl (by omega) e)
                rcases hg' : hg with ⟨y1, -, -, -⟩ | ⟨ρ, y1, y2, y3, y4, y5, -⟩
                · rw [y1] at kr; exact absurd kr (nI_ne_m1 (by omega))
                · rw [y3, nI_eq (by omega) (by omega)] at kr
                  subst kr
                  obtain ⟨u, v, w, x1, x2, x3⟩ := rg_T h y1 y2.1 y2.2 y4.1 y4.2
                  by_cases c3 : c % 2 = 1
                  · have hl := ID_lt hgN
                    rw [hp.1 c3] at z2
                    have e1 : dN (nI (5 * ID t (tgc c) + 3)) = 5 * ID t (tgc c) + 3 := nI_clamp (by omega)
                    rw [e1, in_node h hr hK hg hgN (by omega)] at z2
                    omega
                  · obtain ⟨e, e1, e2, e3, e4⟩ := hp.2 (by omega)
                    have hl := kid_lt hr hgN e2
                    rw [e4] at z2
                    have e5 : dN (nI (5 * ID t e + 0)) = 5 * ID t e + 0 := nI_clamp (by omega)
                    rw [e5, in_node h hr hK hg hl.1 (by omega)] at z2
                    have e6 := (KI_mem hgN hl.1).mpr e2
                    have e7 := PA_in (t := t) y1 (r := e) (by omega) (by omega)
                    omega
            intro k
            induction k with
            | zero => intro T' pt _ _ z1; exact finO z1
            | succ k ih2 =>
              intro T' pt hT' z0 z1
              rcases hT' with rfl | ⟨S, rfl, hS1, hS2, hS3⟩
              · rw [lvT_0] at z1 ⊢
                exact finO z1
              · have hstS : stS (SO t S) := by rw [hS2]; unfold stS; omega
                have hnS : ¬ (fr ≤ S ∧ S < to) := by
                  rcases hg with ⟨y1, -, -, -⟩ | ⟨ρ, y1, y2, y3, y4, y5, -⟩
                  · rw [y1] at kr; exact absurd kr (nI_ne_m1 (by omega))
                  · rw [y3, nI_eq (by omega) (by omega)] at kr
                    obtain ⟨u, v, w, x1, x2, x3⟩ := rg_T h y1 y2.1 y2.2 y4.1 y4.2
                    omega
                unfold lvT at z0 z1 ⊢
                by_cases q1 : S + 1 = 0 ∨ (2 < c ∧ S + 1 - 1 < tgc c)
                · rw [if_pos q1] at z1 ⊢
                  exact finO z1
                · rw [if_neg q1] at z0 z1 ⊢
                  rw [Nat.add_sub_cancel] at z0 z1 ⊢
                  by_cases q2 : c = 2 ∧ pt = 0 ∧ hC t S
                  · rw [if_pos q2] at z1 ⊢
                    show ¬ I (nI (1301 + 3 * S)).toNatClampNeg
                    rw [nI_clamp (by omega)]
                    intro z2
                    have z3 := (in_try h hr hK hg hS3 hstS (k := 0) (by omega)).mp z2
                    rcases z3 with z3 | z3
                    · exact hnS z3
                    · omega
                  · rw [if_neg q2] at z0 z1 ⊢
                    by_cases q3 : hE t S ∧ ¬ pt = 2
                    · rw [if_pos q3] at z0 z1 ⊢
                      obtain ⟨w, w1, w2, w3⟩ := way_at (show (S, c) ∈ Wf from z0)
                      rw [w3]
                      show ¬ I (nI (2100 + w)).toNatClampNeg
                      rw [nI_clamp (by omega), in_way h hr hK hg w1 hW.1 hS3 hstS]
                      exact hnS
                    · rw [if_neg q3] at z0 z1 ⊢
                      refine ih2 _ _ ?_ z0 z1
                      rcases TA_in h _ S (Nat.lt_succ_self _) hS3 with y | ⟨S', y1, -, y3, y4⟩
                      · exact Or.inl y.1
                      · exact Or.inr ⟨S', y1, by omega, y4, by omega⟩
          refine outc k (TA a T) _ ?_ h5 h8 h9
          rcases TA_in h _ T (Nat.lt_succ_self _) hTN with y | ⟨S', y1, -, y3, y4⟩
          · exact Or.inl y.1
          · exact Or.inr ⟨S', y1, by omega, y4, by omega⟩
        · rw [if_neg kr] at h7
          have hTin : fr ≤ T ∧ T < to := by
            rcases hin with z1 | z1
            · exact z1
            · exact absurd (by rw [oI_s]; exact z1.1.symm) kr
          have nroot : ¬ root = nI T := fun z1 => kr (by rw [oI_s]; exact z1.symm)
          by_cases k2 : c = 2 ∧ a c_P_tryPart i = 0 ∧ hC t T
          · rw [if_pos k2] at h5 h8 h9 ⊢
            rw [if_pos ⟨rc.mpr k2.1, k2.2.1, hcf.1.mpr k2.2.2⟩] at h7
            exact ⟨1301 + 3 * T + 0, rfl, by omega, iK hN hTN h7⟩
          · rw [if_neg k2] at h5 h8 h9 ⊢
            rw [if_neg (fun z1 => k2 ⟨rc.mp z1.1, z1.2.1, hcf.1.mp z1.2.2⟩)] at h7
            by_cases k3 : hE t T ∧ ¬ a c_P_tryPart i = 2
            · rw [if_pos k3] at h5 h8 h9 ⊢
              rw [if_pos ⟨k3.2, hcf.2.mpr k3.1⟩] at h7
              obtain ⟨w, w1, w2, w3⟩ := way_at (show (T, c) ∈ Wf from h5)
              refine ⟨2100 + w, w3, by omega, iW hN hW.1 w1 (fun e => absurd e hc0) (fun _ => ⟨⟨cdT, hcl⟩, h7.1, fun b' hb' hm => ?_⟩)⟩
              have h10 := h7.2 b' hb' hm
              obtain ⟨d, hd⟩ : ∃ d, k + d = k + d ∧ 20 ≤ k + d := ⟨20, rfl, by omega⟩
              have f1 := (lvq_fuel (N := sp_z t) (root := root) (M := M) (Q := C) (FIN := FIN t C c) (outer := oC c) (r := rC c) k (TA a T) (a c_P_tryPart T) b' 20 hch2).mp h10
              have f2 := (lvq_fuel (N := sp_z t) (root := root) (M := M) (Q := C) (FIN := FIN t C c) (outer := oC c) (r := rC c) 20 (TA a T) (a c_P_tryPart T) b' k (hch T hTN))
              rw [show 20 + k = k + 20 by omega] at f2
              exact f2.mpr f1
            · rw [if_neg k3] at h5 h8 h9 ⊢
              rw [if_neg (fun z1 => k3 ⟨hcf.2.mp z1.2, z1.1⟩)] at h7
              exact ih T z hTin.1 hTin.2 cdT hch2 h5 h6 h7 h8 h9
end PHB
