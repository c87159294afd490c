/-! chains of edges, one by one -/
theorem chM_iff {ID : Nat → Nat} {s : Int32} {x : Nat × Int32 × Int32} : ∀ (L : List Nat) (f : Nat), chM ID L f s x ↔ ((∃ r, L[0]? = some r ∧ x = (f, nI (5 * ID r + 0), 0)) ∨ (L = [] ∧ x = (f, s, 0) ∧ ¬ s = -1) ∨ (∃ (k r r' : Nat), (L[k]? = some r ∧ L[k + 1]? = some r') ∧ x = (5 * ID r + 3, nI (5 * ID r' + 0), 0)) ∨ (∃ (k r : Nat), (L[k]? = some r ∧ L[k + 1]? = none) ∧ x = (5 * ID r + 3, s, 0) ∧ ¬ s = -1))
  | [], f => by
    constructor
    · intro h
      exact Or.inr (Or.inl ⟨rfl, h.1, h.2⟩)
    · rintro (⟨r, h, -⟩ | ⟨-, h⟩ | ⟨k, r, r', ⟨h, -⟩, -⟩ | ⟨k, r, ⟨h, -⟩, -⟩)
      · cases h
      · exact h
      · cases h
      · cases h
  | r0 :: L, f => by
    have ih := chM_iff (ID := ID) (s := s) (x := x) L (5 * ID r0 + 3)
    show (x = (f, nI (5 * ID r0 + 0), 0) ∨ chM ID L (5 * ID r0 + 3) s x) ↔ _
    rw [ih]
    constructor
    · rintro (h | ⟨r, h, e⟩ | ⟨h, e, n⟩ | ⟨k, r, r', h, e⟩ | ⟨k, r, h, e⟩)
      · exact Or.inl ⟨r0, rfl, h⟩
      · exact Or.inr (Or.inr (Or.inl ⟨0, r0, r, ⟨rfl, h⟩, e⟩))
      · subst h
        exact Or.inr (Or.inr (Or.inr ⟨0, r0, ⟨rfl, rfl⟩, e, n⟩))
      · exact Or.inr (Or.inr (Or.inl ⟨k + 1, r, r', h, e⟩))
      · exact Or.inr (Or.inr (Or.inr ⟨k + 1, r, h, e⟩))
    · rintro (⟨r, h, e⟩ | ⟨h, -⟩ | ⟨k, r, r', h, e⟩ | ⟨k, r, h, e⟩)
      · have h : some r0 = some r := h
        cases h
        exact Or.inl e
      · cases h
      · cases k with
        | zero =>
          have h1 : some r0 = some r := h.1
          cases h1
          exact Or.inr (Or.inl ⟨r', h.2, e⟩)
        | succ k => exact Or.inr (Or.inr (Or.inr (Or.inl ⟨k, r, r', h, e⟩)))
      · cases k with
        | zero =>
          have h1 : some r0 = some r := h.1
          cases h1
          have h2 : L[0]? = none := h.2
          cases L with
          | nil => exact Or.inr (Or.inr (Or.inl ⟨rfl, e⟩))
          | cons y L => cases h2
        | succ k => exact Or.inr (Or.inr (Or.inr (Or.inr ⟨k, r, h, e⟩)))
theorem bcJ_iff {ID mk : Nat → Nat} {e af : Nat} {x : Nat × Int32 × Int32} : ∀ (L : List Nat) (last : Nat), bcJ ID mk e af L last x ↔ ((∃ r ∈ L, ¬ mk r = 0 ∧ (x = (5 * e + 1, nI (5 * ID r + 0), 0) ∨ x = (5 * e + 2, nI (5 * ID r + 0), 0))) ∨ (¬ last = 0 ∧ ((L = [] ∧ x = (last - 1, nI af, 0)) ∨ ∃ r, L[0]? = some r ∧ x = (last - 1, nI (5 * ID r + 0), 0))) ∨ (∃ (k r r' : Nat), (L[k]? = some r ∧ L[k + 1]? = some r') ∧ x = (5 * ID r + 3, nI (5 * ID r' + 0), 0)) ∨ (∃ (k r : Nat), (L[k]? = some r ∧ L[k + 1]? = none) ∧ x = (5 * ID r + 3, nI af, 0)))
  | [], last => by
    show (¬ last = 0 ∧ x = (last - 1, nI af, 0)) ↔ _
    constructor
    · rintro ⟨h1, h2⟩
      exact Or.inr (Or.inl ⟨h1, Or.inl ⟨rfl, h2⟩⟩)
    · rintro (⟨r, h, -⟩ | ⟨h1, ⟨-, h2⟩ | ⟨r, h2, -⟩⟩ | ⟨k, r, r', ⟨h, -⟩, -⟩ | ⟨k, r, ⟨h, -⟩, -⟩)
      · cases h
      · exact ⟨h1, h2⟩
      · cases h2
      · cases h
      · cases h
  | r0 :: L, last => by
    have ih := bcJ_iff (ID := ID) (mk := mk) (e := e) (af := af) (x := x) L (5 * ID r0 + 3 + 1)
    show ((¬ mk r0 = 0 ∧ (x = (5 * e + 1, nI (5 * ID r0 + 0), 0) ∨ x = (5 * e + 2, nI (5 * ID r0 + 0), 0))) ∨ (¬ last = 0 ∧ x = (last - 1, nI (5 * ID r0 + 0), 0)) ∨ bcJ ID mk e af L (5 * ID r0 + 3 + 1) x) ↔ _
    rw [ih]
    constructor
    · rintro (⟨h1, h2⟩ | ⟨h1, h2⟩ | ⟨r, hr, h⟩ | ⟨-, ⟨h1, h2⟩ | ⟨r, h1, h2⟩⟩ | ⟨k, r, r', h, h2⟩ | ⟨k, r, h, h2⟩)
      · exact Or.inl ⟨r0, List.mem_cons_self, h1, h2⟩
      · exact Or.inr (Or.inl ⟨h1, Or.inr ⟨r0, rfl, h2⟩⟩)
      · exact Or.inl ⟨r, List.mem_cons_of_mem _ hr, h⟩
      · subst h1
        exact Or.inr (Or.inr (Or.inr ⟨0, r0, ⟨rfl, rfl⟩, h2⟩))
      · exact Or.inr (Or.inr (Or.inl ⟨0, r0, r, ⟨rfl, h1⟩, h2⟩))
      · exact Or.inr (Or.inr (Or.inl ⟨k + 1, r, r', h, h2⟩))
      · exact Or.inr (Or.inr (Or.inr ⟨k + 1, r, h, h2⟩))
    · rintro (⟨r, hr, h1, h2⟩ | ⟨h1, ⟨h2, -⟩ | ⟨r, h2, h3⟩⟩ | ⟨k, r, r', h, h2⟩ | ⟨k, r, h, h2⟩)
      · rcases List.mem_cons.mp hr with rfl | hr
        · exact Or.inl ⟨h1, h2⟩
        · exact Or.inr (Or.inr (Or.inl ⟨r, hr, h1, h2⟩))
      · cases h2
      · have h2 : some r0 = some r := h2
        cases h2
        exact Or.inr (Or.inl ⟨h1, h3⟩)
      · cases k with
        | zero =>
          have h1 : some r0 = some r := h.1
          cases h1
          exact Or.inr (Or.inr (Or.inr (Or.inl ⟨by omega, Or.inr ⟨r', h.2, h2⟩⟩)))
        | succ k => exact Or.inr (Or.inr (Or.inr (Or.inr (Or.inl ⟨k, r, r', h, h2⟩))))
      · cases k with
        | zero =>
          have h1 : some r0 = some r := h.1
          cases h1
          have h3 : L[0]? = none := h.2
          cases L with
          | nil => exact Or.inr (Or.inr (Or.inr (Or.inl ⟨by omega, Or.inl ⟨rfl, h2⟩⟩)))
          | cons y L => cases h3
        | succ k => exact Or.inr (Or.inr (Or.inr (Or.inr (Or.inr ⟨k, r, h, h2⟩))))
theorem lvT_fuel {a : Nat → Nat → Int32} {t : Std.Format} {F : Int32} {c : Nat} : ∀ (k T : Nat) (pt : Int32) (d : Nat), chl a k T → lvT a t F c k T pt = lvT a t F c (k + d) T pt
  | 0, T, pt, d, h => by
    have h : T = 0 := h
    subst h
    rw [lvT_0, lvT_0]
  | k + 1, T, pt, d, h => by
    by_cases hT : T = 0
    · subst hT
      rw [lvT_0, lvT_0]
    · have hc := h.resolve_left hT
      rw [show k + 1 + d = (k + d) + 1 by omega]
      unfold lvT
      rw [lvT_fuel k _ _ d hc]
section PSA
variable {a b : Nat → Nat → Int32} {V : Nat} {t : Std.Format} {K : Nat → Nat} {Wf : wL_T} {on : Nat → Int32} {E : eL_T}
/-- leaving, with the class's measure -/
theorem lvA_20 (w : WC a b V t K Wf on E) {c i : Nat} (hi : i < sp_z t) (hc : cdOK t c i) : lvA b (sp_z t) c (K (ID t i)) (ID t i) (b r_around (ID t i)) = lvT a t (fnl b (sp_z t) c) c 20 (TA a i) (a c_P_tryPart i) := by
  have hN := CU_N w.1.1
  have h1 := lvA_eq w.1.1 w.1.2 (c := c) (K (ID t i)) i (20 + 241) hi (w.2.2.1.1 _ (ID_lt hi)) hc (by have := TA_le w.1.1 hi; omega)
  rw [h1, ← lvT_fuel 20 _ _ 241 (w.2.1.1 i hi)]
/-- what a set of the reference's points says of the class's -/
def Psi (t : Std.Format) (Wf : wL_T) (root : Int32) (R : Nat → Nat → Prop) (x b : Nat) : Prop :=
  ((∀ j, j < sp_z t → x = j → R (5 * ID t j + 0) b) ∧ (∀ j, j < sp_z t → x = 241 + j → (stS (SO t j) → R (5 * ID t j + 3) b) ∧ (¬ stS (SO t j) → R (5 * ID t j + 1) b)) ∧ (∀ j, j < sp_z t → x = 482 + j → ¬ stS (SO t j) ∧ R (5 * ID t j + 2) b)) ∧
  (∀ j, j < sp_z t → x = 723 + j → (SO t j = 84 → hE t j → R (dN (coW Wf 0 (.inr j))) b) ∧ (SO t j = 83 → R (5 * ID t (j + 1) + 1) b ∨ R (5 * ID t (j + 1) + 2) b) ∧ ((SO t j = 84 ∧ hE t j) ∨ SO t j = 83)) ∧
  (x = 964 → (root = -1 → R 1300 b) ∧ ∀ ρ, ρ < sp_z t → root = nI ρ → R (1301 + 3 * ρ + 2) b)
abbrev PsR (t : Std.Format) (Wf : wL_T) (root : Int32) (fr to : Nat) (R : Nat → Nat → Prop) (x b : Nat) : Prop := inRg fr to x → Psi t Wf root R x b
section PSB
variable {root : Int32} {R : Nat → Nat → Prop} {z : Nat}
theorem jB (hN : sp_z t ≤ 240) {j : Nat} (hj : j < sp_z t) (h : R (5 * ID t j + 0) z) : Psi t Wf root R j z := by
  refine ⟨⟨fun i hi e => ?_, fun i hi e => ?_, fun i hi e => ?_⟩, fun i hi e => ?_, fun e => ?_⟩
  · rw [← e]; exact h
  all_goals omega
theorem jT1 (hN : sp_z t ≤ 240) {j : Nat} (hj : j < sp_z t) (h1 : stS (SO t j) → R (5 * ID t j + 3) z) (h2 : ¬ stS (SO t j) → R (5 * ID t j + 1) z) : Psi t Wf root R (241 + j) z := by
  refine ⟨⟨fun i hi e => ?_, fun i hi e => ?_, fun i hi e => ?_⟩, fun i hi e => ?_, fun e => ?_⟩
  · omega
  · rw [show i = j by omega]; exact ⟨h1, h2⟩
  all_goals omega
theorem jF1 (hN : sp_z t ≤ 240) {j : Nat} (hj : j < sp_z t) (h1 : ¬ stS (SO t j)) (h2 : R (5 * ID t j + 2) z) : Psi t Wf root R (482 + j) z := by
  refine ⟨⟨fun i hi e => ?_, fun i hi e => ?_, fun i hi e => ?_⟩, fun i hi e => ?_, fun e => ?_⟩
  · omega
  · omega
  · rw [show i = j by omega]; exact ⟨h1, h2⟩
  all_goals omega
theorem jI1 (hN : sp_z t ≤ 240) {j : Nat} (hj : j < sp_z t) (h : (SO t j = 84 → hE t j → R (dN (coW Wf 0 (.inr j))) z) ∧ (SO t j = 83 → R (5 * ID t (j + 1) + 1) z ∨ R (5 * ID t (j + 1) + 2) z) ∧ ((SO t j = 84 ∧ hE t j) ∨ SO t j = 83)) : Psi t Wf root R (723 + j) z := by
  refine ⟨⟨fun i hi e => ?_, fun i hi e => ?_, fun i hi e => ?_⟩, fun i hi e => ?_, fun e => ?_⟩
  · omega
  · omega
  · omega
  · rw [show i = j by omega]; exact h
  · omega
theorem jZ1 (hN : sp_z t ≤ 240) (h1 : root = -1 → R 1300 z) (h2 : ∀ ρ, ρ < sp_z t → root = nI ρ → R (1301 + 3 * ρ + 2) z) : Psi t Wf root R 964 z := by
  refine ⟨⟨fun i hi e => ?_, fun i hi e => ?_, fun i hi e => ?_⟩, fun i hi e => ?_, fun e => ?_⟩
  · omega
  · omega
  · omega
  · omega
  · exact ⟨h1, h2⟩
end PSB
/-- a set closed under the reference's steps -/
def clR (E : eL_T) (Wf : wL_T) (on : Nat → Int32) (en : Nat → Nat → Nat) (vr : Int32) (I : Nat → Prop) (R : Nat → Nat → Prop) : Prop := ∀ p z, z < 2 → R p z → I p → suc E Wf on en vr R p z
theorem stepR {en : Nat → Nat → Nat} {vr : Int32} {I : Nat → Prop} {R : Nat → Nat → Prop} (hR : clR E Wf on en vr I R) {f s : Nat} {d : Int32} (he : (f, nI s, d) ∈ E) (hs : s < 2 ^ 31) {z : Nat} (hz : z < 2) (h : R f z) (hI : I f) : R s (bt d vr z) := by
  have := (hR f z hz h hI).1 (nI s) d he
  have e : dN (nI s) = s := nI_clamp hs
  rw [e] at this
  exact this
theorem E_own (w : WC a b V t K Wf on E) {q : Nat} (hq : q < sp_z t) {x : Nat × Int32 × Int32} (h : x ∈ own b (sp_z t) (K (ID t q)) (ID t q) Wf []) : x ∈ E := (w.2.2.1.2 x).mpr (Or.inr ⟨q, hq, Or.inr h⟩)
theorem E_tr (w : WC a b V t K Wf on E) {q : Nat} (hq : q < sp_z t) {x : Nat × Int32 × Int32} (h : trM b (sp_z t) (K (ID t q)) (ID t q) Wf x) : x ∈ E := (w.2.2.1.2 x).mpr (Or.inr ⟨q, hq, Or.inl h⟩)
/-- the parts of T as edges -/
theorem T_pl (h : CU a V t) {q : Nat} (hq : q < sp_z t) (hs : SO t q = 84) : sp_pl (CO t q) ≤ 3 := by
  obtain ⟨u, v, w, e, -, -, ⟨htc, -⟩, -⟩ := W_T h hq hs
  exact htc.1.2
section PSC
variable {root : Int32} {fr to : Nat} {I : Nat → Prop} {en : Nat → Nat → Nat} {vr : Int32} {R : Nat → Nat → Prop}
/-- into the N of T -/
theorem N_in (w : WC a b V t K Wf on E) (hg : RGE a b t K Wf root fr to I) (hR : clR E Wf on en vr I R) (h0 : ∀ z, bt 0 vr z = z) {T : Nat} (hT : T < sp_z t) (hs : SO t T = 84) (hE1 : hE t T) (hin : fr ≤ T ∧ T < to) {z : Nat} (hz : z < 2) (h : R (1301 + 3 * T + 1) z) : atP (PsR t Wf root fr to R) (a c_Y_finallyTo T) z := by
  have hN := CU_N w.1.1
  have hst : stS (SO t T) := by rw [hs]; unfold stS; omega
  obtain ⟨u, v, x, e, ⟨-, l3, ez⟩, -, -, -, -, hf⟩ := W_T w.1.1 hT hs
  have hEN := EN_le hT
  rw [hf, if_pos hE1]
  cases e0 : (rtL x (T + 1 + sp_z u + sp_z v))[0]? with
  | none => exact fun hx => absurd (Or.inl (by show oI 0 < 0; decide)) hx
  | some r =>
    have hr := lnkL_get _ _ _ _ _ l3 e0
    have he : (1301 + 3 * T + 1, nI (5 * ID t r + 0), (0 : Int32)) ∈ E := by
      refine E_own w hT ?_
      rw [ow_84 w.1.2 hT hs e (T_pl w.1.1 hT hs)]
      refine Or.inl ⟨hE1, ?_⟩
      rw [chM_iff]
      exact Or.inl ⟨r, e0, rfl⟩
    have hlr := ID_lt (t := t) (i := r) (by omega)
    have := stepR hR he (by omega) hz h ((in_try w.1.1 w.1.2 w.2.2.1.1 hg hT hst (by omega)).mpr (Or.inl hin))
    rw [h0] at this
    show atP _ (oI (r + 1)) z
    rw [oI_s]
    exact (atP_n (by omega)).mpr (fun _ => jB hN (by omega) this)
/-- into the K of T -/
theorem K_in (w : WC a b V t K Wf on E) (hg : RGE a b t K Wf root fr to I) (hR : clR E Wf on en vr I R) (h0 : ∀ z, bt 0 vr z = z) {T : Nat} (hT : T < sp_z t) (hs : SO t T = 84) (hC1 : hC t T) (hin : fr ≤ T ∧ T < to) {z : Nat} (hz : z < 2) (h : R (1301 + 3 * T + 0) z) : atP (PsR t Wf root fr to R) (a c_Y_catchTo T) z := by
  have hN := CU_N w.1.1
  have hst : stS (SO t T) := by rw [hs]; unfold stS; omega
  have hid := ID_st w.1.1.1.2.2 hT hst
  obtain ⟨u, v, x, e, ⟨⟨-, l2⟩, l3, ez⟩, -, -, -, hf, -⟩ := W_T w.1.1 hT hs
  have hEN := EN_le hT
  have hI := (in_try w.1.1 w.1.2 w.2.2.1.1 hg hT hst (k := 0) (by omega)).mpr (Or.inl hin)
  have hl3 := lnkL_le _ _ _ l3
  rw [hf, if_pos hC1]
  cases e0 : (rtL v (T + 1 + sp_z u))[0]? with
  | none =>
    have hnil : rtL v (T + 1 + sp_z u) = [] := by
      cases hh : rtL v (T + 1 + sp_z u) with
      | nil => rfl
      | cons y L => rw [hh] at e0; cases e0
    show atP _ (nI (eT t T)) z
    unfold eT
    by_cases cE : hE t T
    · rw [if_pos cE]
      have hin0 := (w.2.2.2.1.1 T hT).1 hst |>.1 hs cE
      obtain ⟨y, y1, y2, y3⟩ := way_at (show (T, 0) ∈ Wf from hin0)
      have hl := w.2.2.2.2.1
      have he : (1301 + 3 * T + 0, nI (2100 + y), (0 : Int32)) ∈ E := by
        refine E_own w hT ?_
        rw [ow_84 w.1.2 hT hs e (T_pl w.1.1 hT hs)]
        refine Or.inr (Or.inl ⟨hC1, ?_⟩)
        rw [chM_iff, if_pos cE, y3]
        exact Or.inr (Or.inl ⟨hnil, rfl, nI_ne_m1 (by omega)⟩)
      have := stepR hR he (by omega) hz h hI
      rw [h0] at this
      refine (atP_n (by omega)).mpr (fun _ => jI1 hN hT ⟨fun _ _ => ?_, fun c => by omega, Or.inl ⟨hs, cE⟩⟩)
      rw [y3]
      have e1 : dN (nI (2100 + y)) = 2100 + y := nI_clamp (by omega)
      rw [e1]
      exact this
    · rw [if_neg cE]
      have he : (1301 + 3 * T + 0, nI (5 * T + 3), (0 : Int32)) ∈ E := by
        refine E_own w hT ?_
        rw [ow_84 w.1.2 hT hs e (T_pl w.1.1 hT hs)]
        refine Or.inr (Or.inl ⟨hC1, ?_⟩)
        rw [chM_iff, if_neg cE]
        exact Or.inr (Or.inl ⟨hnil, rfl, nI_ne_m1 (by omega)⟩)
      have := stepR hR he (by omega) hz h hI
      rw [h0] at this
      exact (atP_n (by omega)).mpr (fun _ => jT1 hN hT (fun _ => by rw [hid]; exact this) (fun c => absurd hst c))
  | some r =>
    have hr := lnkL_get _ _ _ _ _ l2 e0
    have he : (1301 + 3 * T + 0, nI (5 * ID t r + 0), (0 : Int32)) ∈ E := by
      refine E_own w hT ?_
      rw [ow_84 w.1.2 hT hs e (T_pl w.1.1 hT hs)]
      refine Or.inr (Or.inl ⟨hC1, ?_⟩)
      rw [chM_iff]
      exact Or.inl ⟨r, e0, rfl⟩
    have hlr := ID_lt (t := t) (i := r) (by omega)
    have := stepR hR he (by omega) hz h hI
    rw [h0] at this
    show atP _ (oI (r + 1)) z
    rw [oI_s]
    exact (atP_n (by omega)).mpr (fun _ => jB hN (by omega) this)
end PSC
end PSA
