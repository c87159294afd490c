/-! the points of the N of a T -/
section PH0
variable {a b : Nat → Nat → Int32} {V : Nat} {t : Std.Format} {K : Nat → Nat} {Wf : wL_T}
/-- the first two parts of a T are closed -/
theorem pre_in (h : CU a V t) {q : Nat} (hq : q < sp_z t) {u v w : Std.Format} (e : XI t q = .append u (.append v w)) {i : Nat} (h1 : q < i) (h2 : i < q + 1 + sp_z u + sp_z v) : EN t i ≤ q + 1 + sp_z u + sp_z v := by
  have hE : EN t q = q + 1 + sp_z u + sp_z v + sp_z w := by
    show q + 1 + sp_z (XI t q) = _
    rw [e, sp_z_a, sp_z_a]; omega
  have hs := (in_seg hq h1 (by omega)).1
  rw [e] at hs
  have hs : (cxL u ++ (cxL v ++ cxL w))[i - q - 1]? = some (CO t i, XI t i) := hs
  show i + 1 + sp_z (XI t i) ≤ _
  rcases get_app hs with hs | ⟨j, e1, hs⟩
  · have := (cx_seg u 0 0 _ _ _ hs).1
    omega
  · rw [cxL_len] at e1
    rcases get_app hs with hs | ⟨j2, e2, hs⟩
    · have := (cx_seg v 0 0 _ _ _ hs).1
      omega
    · rw [cxL_len] at e2
      omega
theorem wiN_eq (h : CU a V t) (hr : RU b V t) {ρ : Nat} (hρ : ρ < sp_z t) (hs : SO t ρ = 84) {u v w : Std.Format} (e : XI t ρ = .append u (.append v w)) : ∀ (k j : Nat), j < sp_z t → lnA b k (b r_around (ID t j)) → (wiN b ρ (k + 1) (nI (ID t j)) = 1 ↔ (ρ + 1 + sp_z u + sp_z v ≤ j ∧ j < EN t ρ))
  | k, j, hj, hk => by
    have hN := CU_N h
    have hlj := ID_lt hj
    have ed : dN (nI (ID t j)) = ID t j := nI_clamp (by omega)
    have hst : stS (SO t ρ) := by rw [hs]; unfold stS; omega
    have hid := ID_st h.1.2.2 hρ hst
    unfold wiN
    rw [ed]
    cases hp : PA t j with
    | zero =>
      have hx := (RU_rt hr hj).mpr hp
      have n1 : ¬ b r_around (ID t j) = nI ρ := by rw [hx]; exact fun z => nI_ne_m1 (by omega) z.symm
      rw [if_neg n1]
      have hk0 : k = 0 := by
        cases k with
        | zero => rfl
        | succ k =>
          obtain ⟨p, ⟨z, hz⟩, -⟩ := hk
          rw [hx] at z
          exact absurd z.symm (nI_ne_m1 (by omega))
      subst hk0
      refine ⟨fun z => absurd (show (0 : Nat) = 1 from z) (by decide), fun z => ?_⟩
      have := PA_in hρ (show ρ < j by omega) z.2
      omega
    | succ q =>
      have hq := PA_sub hj hp
      have hqN : q < sp_z t := by omega
      have hx := (RU_kid hr hj hqN).mpr hp
      have hlq := ID_lt hqN
      by_cases c : q = ρ
      · subst c
        rw [if_pos (by rw [hx, hid])]
        have hm := (KI_mem hqN hj).mp hp
        have hstj := ks_84 h.1.2.1 hqN hs j hm
        obtain ⟨u', v', w', e', g⟩ := ((RU_pt hr hj hstj).2 q hp).2 hs
        rw [e] at e'
        cases e'
        rw [ID_st h.1.2.2 hj hstj]
        rcases g with ⟨g1, g2⟩ | ⟨g1, g2⟩ | ⟨g1, g2⟩
        · rw [g2, if_neg (by decide)]
          exact ⟨fun z => absurd z (by decide), fun z => by omega⟩
        · rw [g2, if_neg (by decide)]
          exact ⟨fun z => absurd z (by decide), fun z => by omega⟩
        · rw [g2, if_pos rfl]
          exact ⟨fun _ => ⟨g1, hq.2.1⟩, fun _ => rfl⟩
      · have n1 : ¬ b r_around (ID t j) = nI ρ := by
          rw [hx, nI_eq (by omega) (by omega)]
          intro z
          exact c (ID_inj hqN hρ (by rw [hid]; exact z))
        rw [if_neg n1]
        cases k with
        | zero =>
          have hk : b r_around (ID t j) = -1 := hk
          rw [hx] at hk
          exact absurd hk (nI_ne_m1 (by omega))
        | succ k =>
          obtain ⟨p, ⟨z, hz⟩, hk2⟩ := hk
          rw [hx, nI_eq (by omega) (by omega)] at z
          subst z
          have ih := wiN_eq h hr hρ hs e k q hqN hk2
          rw [hx, ih]
          constructor
          · rintro ⟨z1, z2⟩
            have := PA_out hρ hj hp (by omega) z2
            exact ⟨by omega, this⟩
          · rintro ⟨z1, z2⟩
            have z3 := PA_in hρ (show ρ < j by omega) z2
            refine ⟨?_, by omega⟩
            apply Classical.byContradiction
            intro n
            have := pre_in h hρ e (i := q) (by omega) (by omega)
            omega
/-- a range of nodes, with the reference's points -/
def RGE (a b : Nat → Nat → Int32) (t : Std.Format) (K : Nat → Nat) (Wf : wL_T) (root : Int32) (fr to : Nat) (I : Nat → Prop) : Prop :=
  (root = -1 ∧ fr = 0 ∧ to = sp_z t ∧ ∀ p, I p) ∨ ∃ ρ, ρ < sp_z t ∧ (SO t ρ = 84 ∧ hE t ρ) ∧ root = nI ρ ∧ (a c_P_finallyFrom ρ = nI fr ∧ fr < 300) ∧ to = EN t ρ ∧ ∀ p, I p ↔ wiF b K Wf ρ p = 1
theorem rg_T (h : CU a V t) {ρ fr : Nat} (hρ : ρ < sp_z t) (hs : SO t ρ = 84) (hE1 : hE t ρ) (hf : a c_P_finallyFrom ρ = nI fr) (hfr : fr < 300) : ∃ u v w, XI t ρ = .append u (.append v w) ∧ fr = ρ + 1 + sp_z u + sp_z v ∧ EN t ρ = fr + sp_z w := by
  have hN := CU_N h
  have hEN := EN_le hρ
  obtain ⟨u, v, w, e, ⟨-, -, ez⟩, -, ⟨-, -, hf2⟩, -⟩ := W_T h hρ hs
  rw [hf, if_pos hE1, nI_eq (by omega) (by omega)] at hf2
  exact ⟨u, v, w, e, hf2, by omega⟩
section PH1
variable {root : Int32} {fr to : Nat} {I : Nat → Prop}
theorem in_node (h : CU a V t) (hr : RU b V t) (hK : ∀ p, p < sp_z t → lnA b (K p) (b r_around p)) (hg : RGE a b t K Wf root fr to I) {j k : Nat} (hj : j < sp_z t) (hk : k < 5) : I (5 * ID t j + k) ↔ (fr ≤ j ∧ j < to) := by
  have hN := CU_N h
  have hl := ID_lt hj
  rcases hg with ⟨-, rfl, rfl, hI⟩ | ⟨ρ, hρ, ⟨hs, hE1⟩, -, ⟨hf, hfr⟩, rfl, hI⟩
  · exact ⟨fun _ => ⟨Nat.zero_le _, hj⟩, fun _ => hI _⟩
  · obtain ⟨u, v, w, e, e1, -⟩ := rg_T h hρ hs hE1 hf hfr
    rw [hI]
    unfold wiF
    rw [if_neg (by omega)]
    have ep : plN Wf (5 * ID t j + k) = ID t j + 1 := by
      unfold plN
      rw [if_pos (by omega)]
      omega
    rw [ep, if_neg (by omega), Nat.add_sub_cancel, wiN_eq h hr hρ hs e _ j hj (hK _ hl), e1]
theorem in_try (h : CU a V t) (hr : RU b V t) (hK : ∀ p, p < sp_z t → lnA b (K p) (b r_around p)) (hg : RGE a b t K Wf root fr to I) {q k : Nat} (hq : q < sp_z t) (hst : stS (SO t q)) (hk : k < 3) : I (1301 + 3 * q + k) ↔ ((fr ≤ q ∧ q < to) ∨ (root = nI q ∧ 0 < k)) := by
  have hN := CU_N h
  rcases hg with ⟨rfl, rfl, rfl, hI⟩ | ⟨ρ, hρ, ⟨hs, hE1⟩, rfl, ⟨hf, hfr⟩, rfl, hI⟩
  · exact ⟨fun _ => Or.inl ⟨Nat.zero_le _, hq⟩, fun _ => hI _⟩
  · obtain ⟨u, v, w, e, e1, -⟩ := rg_T h hρ hs hE1 hf hfr
    rw [hI]
    unfold wiF
    by_cases c : ρ = q
    · subst c
      rw [if_pos ⟨⟨by omega, by omega⟩, by omega⟩]
      have em : (1301 + 3 * ρ + k - 1301) % 3 = k := by omega
      rw [em]
      by_cases c2 : 0 < k
      · rw [if_pos c2]
        exact ⟨fun _ => Or.inr ⟨rfl, c2⟩, fun _ => rfl⟩
      · rw [if_neg c2]
        refine ⟨fun z => absurd z (by decide), fun z => ?_⟩
        rcases z with z | z
        · omega
        · exact absurd z.2 c2
    · rw [if_neg (by omega)]
      have ep : plN Wf (1301 + 3 * q + k) = ID t q + 1 := by
        unfold plN
        rw [if_neg (by omega), if_pos (by omega), ID_st h.1.2.2 hq hst]
        omega
      rw [ep, if_neg (by omega), Nat.add_sub_cancel, wiN_eq h hr hρ hs e _ q hq (hK _ (ID_lt hq)), e1]
      refine ⟨Or.inl, fun z => z.resolve_right (fun z2 => ?_)⟩
      rw [nI_eq (by omega) (by omega)] at z2
      exact c z2.1
theorem in_way (h : CU a V t) (hr : RU b V t) (hK : ∀ p, p < sp_z t → lnA b (K p) (b r_around p)) (hg : RGE a b t K Wf root fr to I) {w T c : Nat} (hw : Wf.reverse[w]? = some (T, c)) (hl : Wf.length < 1499) (hT : T < sp_z t) (hst : stS (SO t T)) : I (2100 + w) ↔ (fr ≤ T ∧ T < to) := by
  have hN := CU_N h
  have hwl := get_lt hw
  rw [List.length_reverse] at hwl
  rcases hg with ⟨-, rfl, rfl, hI⟩ | ⟨ρ, hρ, ⟨hs, hE1⟩, -, ⟨hf, hfr⟩, rfl, hI⟩
  · exact ⟨fun _ => ⟨Nat.zero_le _, hT⟩, fun _ => hI _⟩
  · obtain ⟨u, v, w', e, e1, -⟩ := rg_T h hρ hs hE1 hf hfr
    rw [hI]
    unfold wiF
    rw [if_neg (by omega)]
    have ep : plN Wf (2100 + w) = ID t T + 1 := by
      unfold plN
      rw [if_neg (by omega), if_neg (by omega), if_pos (by omega), Nat.add_sub_cancel_left, hw, ID_st h.1.2.2 hT hst]
    rw [ep, if_neg (by omega), Nat.add_sub_cancel, wiN_eq h hr hρ hs e _ T hT (hK _ (ID_lt hT)), e1]
theorem in_out (h : CU a V t) (hg : RGE a b t K Wf root fr to I) : (I 1300 ↔ root = -1) ∧ (I 3599 ↔ root = -1) := by
  have hN := CU_N h
  rcases hg with ⟨rfl, rfl, rfl, hI⟩ | ⟨ρ, hρ, ⟨hs, hE1⟩, rfl, ⟨hf, hfr⟩, rfl, hI⟩
  · exact ⟨⟨fun _ => rfl, fun _ => hI _⟩, ⟨fun _ => rfl, fun _ => hI _⟩⟩
  · have n1 : ¬ nI ρ = -1 := nI_ne_m1 (by omega)
    refine ⟨⟨fun z => ?_, fun z => absurd z n1⟩, ⟨fun z => ?_, fun z => absurd z n1⟩⟩
    · rw [hI] at z
      have ep : plN Wf 1300 = 0 := by
        unfold plN
        rw [if_neg (by omega), if_neg (by omega), if_neg (by omega)]
      unfold wiF at z
      rw [if_neg (by omega), ep, if_pos rfl] at z
      exact absurd z (by decide)
    · rw [hI] at z
      have ep : plN Wf 3599 = 0 := by
        unfold plN
        rw [if_neg (by omega), if_neg (by omega), if_neg (by omega)]
      unfold wiF at z
      rw [if_neg (by omega), ep, if_pos rfl] at z
      exact absurd z (by decide)
/-- the range is closed -/
theorem rg_cl (h : CU a V t) (hg : RGE a b t K Wf root fr to I) : (fr ≤ to ∧ to ≤ sp_z t) ∧ ∀ q, fr ≤ q → q < to → EN t q ≤ to := by
  rcases hg with ⟨rfl, rfl, rfl, hI⟩ | ⟨ρ, hρ, ⟨hs, hE1⟩, rfl, ⟨hf, hfr⟩, rfl, hI⟩
  · exact ⟨⟨Nat.zero_le _, Nat.le_refl _⟩, fun q _ hq => EN_le hq⟩
  · obtain ⟨u, v, w, e, e1, e2⟩ := rg_T h hρ hs hE1 hf hfr
    exact ⟨⟨by omega, EN_le hρ⟩, fun q h1 h2 => EN_in hρ (by omega) h2⟩
/-- kids of the range's nodes lie in it, and the outer node of one of its nodes lies in it, or is the root -/
theorem rg_par (h : CU a V t) (hg : RGE a b t K Wf root fr to I) {p : Nat} (hp : fr ≤ p ∧ p < to) : (PA t p = 0 ∧ root = -1) ∨ ∃ q, PA t p = q + 1 ∧ ((fr ≤ q ∧ q < to) ∨ (root = nI q ∧ SO t q = 84 ∧ hE t q ∧ a c_P_finallyFrom q = nI fr ∧ to = EN t q)) := by
  have hN := CU_N h
  rcases hg with ⟨rfl, rfl, rfl, hI⟩ | ⟨ρ, hρ, ⟨hs, hE1⟩, rfl, ⟨hf, hfr⟩, rfl, hI⟩
  · cases e : PA t p with
    | zero => exact Or.inl ⟨rfl, rfl⟩
    | succ q =>
      have := PA_sub hp.2 e
      exact Or.inr ⟨q, rfl, Or.inl ⟨Nat.zero_le _, by omega⟩⟩
  · obtain ⟨u, v, w, e, e1, e2⟩ := rg_T h hρ hs hE1 hf hfr
    have hEN := EN_le hρ
    have h1 := PA_in hρ (show ρ < p by omega) hp.2
    obtain ⟨q, hq⟩ : ∃ q, PA t p = q + 1 := ⟨PA t p - 1, by omega⟩
    have h2 := PA_sub (show p < sp_z t by omega) hq
    refine Or.inr ⟨q, hq, ?_⟩
    by_cases c : q = ρ
    · subst c
      exact Or.inr ⟨rfl, hs, hE1, hf, rfl⟩
    · refine Or.inl ⟨?_, by omega⟩
      apply Classical.byContradiction
      intro n
      have := pre_in h hρ e (i := q) (by omega) (by omega)
      omega
theorem rg_kid (h : CU a V t) (hg : RGE a b t K Wf root fr to I) {q r : Nat} (hq : fr ≤ q ∧ q < to) (hr : r ∈ KI t q) : fr ≤ r ∧ r < to := by
  have h1 := rg_cl h hg
  have h2 := h1.2 q hq.1 hq.2
  have h3 := rt_in _ _ _ hr
  have h4 : EN t q = q + 1 + sp_z (XI t q) := rfl
  exact ⟨by omega, by omega⟩
end PH1
end PH0
