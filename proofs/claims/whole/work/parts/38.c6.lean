def eW (V : Nat) : Std.Format → Prop
  | .tag c x =>
    if sp_s c = 63 then sp_v c = 0 ∧ (match x with
      | .append y (.append z w) => eW V y ∧ eW V z ∧ eW V w
      | _ => False)
    else if sp_s c = 124 ∨ sp_s c = 38 then sp_v c = 0 ∧ (match x with
      | .append y z => eW V y ∧ eW V z
      | _ => False)
    else if sp_s c = 33 then sp_v c = 0 ∧ eW V x
    else if sp_s c = 61 then (1 ≤ sp_v c ∧ sp_v c ≤ V) ∧ eW V x
    else if 97 ≤ sp_s c ∧ sp_s c ≤ 122 then (1 ≤ sp_v c ∧ sp_v c ≤ V) ∧ x = .nil
    else (sp_s c = 48 ∨ sp_s c = 49 ∨ sp_s c = 35) ∧ sp_v c = 0 ∧ x = .nil
  | _ => False
theorem eW_63 {V c : Nat} {y z w : Std.Format} (hs : sp_s c = 63) : eW V (.tag c (.append y (.append z w))) ↔ (sp_v c = 0 ∧ eW V y ∧ eW V z ∧ eW V w) := by
  rw [eW, if_pos hs]
theorem eW_2 {V c : Nat} {y z : Std.Format} (hs : sp_s c = 124 ∨ sp_s c = 38) : eW V (.tag c (.append y z)) ↔ (sp_v c = 0 ∧ eW V y ∧ eW V z) := by
  rw [eW.eq_def]
  simp only
  rw [if_neg (by omega), if_pos hs]
theorem eW_33 {V c : Nat} {x : Std.Format} (hs : sp_s c = 33) : eW V (.tag c x) ↔ (sp_v c = 0 ∧ eW V x) := by
  rw [eW.eq_def]
  simp only
  rw [if_neg (by omega), if_neg (by omega), if_pos hs]
theorem eW_61 {V c : Nat} {x : Std.Format} (hs : sp_s c = 61) : eW V (.tag c x) ↔ ((1 ≤ sp_v c ∧ sp_v c ≤ V) ∧ eW V x) := by
  rw [eW.eq_def]
  simp only
  rw [if_neg (by omega), if_neg (by omega), if_neg (by omega), if_pos hs]
theorem eW_nm {V c : Nat} {x : Std.Format} (hs : 97 ≤ sp_s c ∧ sp_s c ≤ 122) : eW V (.tag c x) ↔ ((1 ≤ sp_v c ∧ sp_v c ≤ V) ∧ x = .nil) := by
  rw [eW.eq_def]
  simp only
  rw [if_neg (by omega), if_neg (by omega), if_neg (by omega), if_neg (by omega), if_pos hs]
theorem eW_lf {V c : Nat} {x : Std.Format} (hs : sp_s c = 48 ∨ sp_s c = 49 ∨ sp_s c = 35) : eW V (.tag c x) ↔ (sp_v c = 0 ∧ x = .nil) := by
  rw [eW.eq_def]
  simp only
  rw [if_neg (by omega), if_neg (by omega), if_neg (by omega), if_neg (by omega), if_neg (by omega)]
  exact ⟨fun h => h.2, fun h => ⟨hs, h⟩⟩
theorem eW_tag {V : Nat} {t : Std.Format} (h : eW V t) : ∃ c x, t = .tag c x ∧ ((sp_s c = 63 ∧ ∃ y z w, x = .append y (.append z w)) ∨ ((sp_s c = 124 ∨ sp_s c = 38) ∧ ∃ y z, x = .append y z) ∨ sp_s c = 33 ∨ sp_s c = 61 ∨ (97 ≤ sp_s c ∧ sp_s c ≤ 122) ∨ (sp_s c = 48 ∨ sp_s c = 49 ∨ sp_s c = 35)) := by
  cases t with
  | tag c x =>
    refine ⟨c, x, rfl, ?_⟩
    by_cases h1 : sp_s c = 63
    · left
      refine ⟨h1, ?_⟩
      rw [eW.eq_def] at h
      simp only at h
      rw [if_pos h1] at h
      replace h := h.2
      split at h
      · next y z w => exact ⟨y, z, w, rfl⟩
      · exact h.elim
    by_cases h2 : sp_s c = 124 ∨ sp_s c = 38
    · right; left
      refine ⟨h2, ?_⟩
      rw [eW.eq_def] at h
      simp only at h
      rw [if_neg h1, if_pos h2] at h
      replace h := h.2
      split at h
      · next y z => exact ⟨y, z, rfl⟩
      · exact h.elim
    by_cases h3 : sp_s c = 33
    · exact Or.inr (Or.inr (Or.inl h3))
    by_cases h4 : sp_s c = 61
    · exact Or.inr (Or.inr (Or.inr (Or.inl h4)))
    by_cases h5 : 97 ≤ sp_s c ∧ sp_s c ≤ 122
    · exact Or.inr (Or.inr (Or.inr (Or.inr (Or.inl h5))))
    · rw [eW.eq_def] at h
      simp only at h
      rw [if_neg h1, if_neg h2, if_neg h3, if_neg h4, if_neg h5] at h
      exact Or.inr (Or.inr (Or.inr (Or.inr (Or.inr h.1))))
  | _ => exact h.elim
theorem eW_notS {V : Nat} {c : Nat} {x : Std.Format} (h : eW V (.tag c x)) : ¬ stS (sp_s c) := by
  obtain ⟨c', x', e, h⟩ := eW_tag h
  cases e
  unfold stS
  rcases h with ⟨h, -⟩ | ⟨h, -⟩ | h | h | h | h <;> omega
/-- an e's tree by its kinds -/
theorem eW_ind {V : Nat} {M : Std.Format → Prop}
    (h63 : ∀ c y z w, sp_s c = 63 → sp_v c = 0 → M y → M z → M w → M (.tag c (.append y (.append z w))))
    (h2 : ∀ c y z, (sp_s c = 124 ∨ sp_s c = 38) → sp_v c = 0 → M y → M z → M (.tag c (.append y z)))
    (h33 : ∀ c x, sp_s c = 33 → sp_v c = 0 → M x → M (.tag c x))
    (h61 : ∀ c x, sp_s c = 61 → (1 ≤ sp_v c ∧ sp_v c ≤ V) → M x → M (.tag c x))
    (hnm : ∀ c, (97 ≤ sp_s c ∧ sp_s c ≤ 122) → (1 ≤ sp_v c ∧ sp_v c ≤ V) → M (.tag c .nil))
    (hlf : ∀ c, (sp_s c = 48 ∨ sp_s c = 49 ∨ sp_s c = 35) → sp_v c = 0 → M (.tag c .nil)) : ∀ (N : Nat) (t : Std.Format), sp_z t ≤ N → eW V t → M t := by
  intro N
  induction N with
  | zero =>
    intro t hN h
    obtain ⟨c, x, rfl, -⟩ := eW_tag h
    simp only [sp_z] at hN; omega
  | succ N ih =>
    intro t hN h
    obtain ⟨c, x, rfl, hk⟩ := eW_tag h
    simp only [sp_z] at hN
    rcases hk with ⟨h1, y, z, w, rfl⟩ | ⟨h1, y, z, rfl⟩ | h1 | h1 | h1 | h1
    · rw [eW_63 h1] at h
      simp only [sp_z] at hN
      exact h63 c y z w h1 h.1 (ih y (by omega) h.2.1) (ih z (by omega) h.2.2.1) (ih w (by omega) h.2.2.2)
    · rw [eW_2 h1] at h
      simp only [sp_z] at hN
      exact h2 c y z h1 h.1 (ih y (by omega) h.2.1) (ih z (by omega) h.2.2)
    · rw [eW_33 h1] at h
      exact h33 c x h1 h.1 (ih x (by omega) h.2)
    · rw [eW_61 h1] at h
      exact h61 c x h1 h.1 (ih x (by omega) h.2)
    · rw [eW_nm h1] at h
      rw [h.2]; exact hnm c h1 h.1
    · rw [eW_lf h1] at h
      rw [h.2]; exact hlf c h1 h.1
section EW
variable {tx : Nat → Int32} {n : Nat} {nm : Nat → Int32} {V : Nat}
theorem nm_27 {c : Int32} (h : sp_nm c) : (c - 97).toNatClampNeg < 26 ∧ c.toNatClampNeg = (c - 97).toNatClampNeg + 97 ∧ c = nI ((c - 97).toNatClampNeg + 97) := by
  have h0 : ¬ c < 0 := fun q => absurd (Int32.lt_of_le_of_lt h.1 q) (by decide)
  obtain ⟨j, hj, rfl⟩ := nI_of h0
  have h1 : (nI 97) ≤ nI j := h.1
  have h2 : nI j ≤ nI 122 := h.2
  rw [nI_leI (by omega) hj] at h1
  rw [nI_leI hj (by omega)] at h2
  obtain ⟨k, rfl⟩ := Nat.exists_eq_add_of_le' h1
  have e : nI (k + 97) - 97 = nI k := by
    rw [← nI_add, show nI 97 = 97 from rfl, Int32.add_sub_cancel]
  rw [e, nI_clamp (by omega), nI_clamp hj]
  exact ⟨by omega, rfl, rfl⟩
theorem sp_e_W (hn : n ≤ 240) (hnm : ∀ u, u < 26 → nm u = -1 ∨ ∃ v, v < V ∧ nm u = nI v) (hV : V ≤ 12) : ∀ (f g lv p : Nat) (t : Std.Format) (q : Nat) (u : Std.Format), g ≤ 6 → (g = 5 ∨ g = 6 → eW V t) → sp_e tx n nm f g lv p t = .inr (q, u) → eW V u := by
  intro f
  induction f with
  | zero => intro g lv p t q u _ _ h; cases h
  | succ f ih =>
    intro g lv p t q u hg ht h
    have hgs : g = 0 ∨ g = 1 ∨ g = 2 ∨ g = 3 ∨ g = 4 ∨ g = 5 ∨ g = 6 := by omega
    rcases hgs with rfl | rfl | rfl | rfl | rfl | rfl | rfl
    · rw [sp_e0] at h
      split at h
      · cases h
      · split at h
        · next hc =>
          have hp1 := sp_nm_lt hc.1
          have hu := nm_27 hc.1
          split at h
          · cases h
          · next hne =>
            obtain ⟨q1, u1, e1, e2⟩ := sp_b_inr h
            cases e2
            have i := ih 0 (lv + 1) _ .nil q u1 (by omega) (by omega) e1
            obtain ⟨v, hv, ev⟩ := (hnm _ hu.1).resolve_left hne
            rw [ev, nI_clamp (by omega), eW_61 (sp_s_n (by omega) (by omega)), sp_v_n (by omega) (by omega)]
            exact ⟨by omega, i⟩
        · exact ih 1 lv p .nil q u (by omega) (by omega) h
    · rw [sp_e1] at h
      split at h
      · cases h
      · obtain ⟨q1, u1, e1, e2⟩ := sp_b_inr h
        have g1 := ih 2 lv p .nil q1 u1 (by omega) (by omega) e1
        split at e2
        · obtain ⟨q2, u2, e3, e4⟩ := sp_b_inr e2
          have g2 := ih 0 (lv + 1) _ .nil q2 u2 (by omega) (by omega) e3
          split at e4
          · obtain ⟨q3, u3, e5, e6⟩ := sp_b_inr e4
            have g3 := ih 1 (lv + 1) _ .nil q3 u3 (by omega) (by omega) e5
            cases e6
            rw [eW_63 (sp_s_n (by omega) (sp_1_lt _)), sp_v_n (by omega) (sp_1_lt _)]
            exact ⟨rfl, g1, g2, g3⟩
          · cases e4
        · cases e2; exact g1
    · rw [sp_e2] at h
      obtain ⟨q1, u1, e1, e2⟩ := sp_b_inr h
      exact ih 5 lv q1 u1 q u (by omega) (fun _ => ih 3 lv p .nil q1 u1 (by omega) (by omega) e1) e2
    · rw [sp_e3] at h
      obtain ⟨q1, u1, e1, e2⟩ := sp_b_inr h
      exact ih 6 lv q1 u1 q u (by omega) (fun _ => ih 4 lv p .nil q1 u1 (by omega) (by omega) e1) e2
    · rw [sp_e4] at h
      split at h
      · cases h
      · split at h
        · obtain ⟨q1, u1, e1, e2⟩ := sp_b_inr h
          split at e2
          · cases e2; exact ih 0 (lv + 1) _ .nil q1 u (by omega) (by omega) e1
          · cases e2
        · split at h
          · next hc =>
            have hp1 := sp_c_lt hc (by decide)
            obtain ⟨q1, u1, e1, e2⟩ := sp_b_inr h
            have i := ih 4 (lv + 1) _ .nil q1 u1 (by omega) (by omega) e1
            cases e2
            rw [eW_33 (sp_s_n (by omega) (by omega)), sp_v_n (by omega) (by omega)]
            exact ⟨rfl, i⟩
          · split at h
            · next hc =>
              have hp1 := sp_nm_lt hc
              have hu := nm_27 hc
              split at h
              · cases h
              · next hne =>
                cases h
                obtain ⟨v, hv, ev⟩ := (hnm _ hu.1).resolve_left hne
                have hs : sp_s (sp_n (sp_c tx n p).toNatClampNeg p ((nm (sp_c tx n p - 97).toNatClampNeg).toNatClampNeg + 1)) = (sp_c tx n p).toNatClampNeg := sp_s_n (by omega) (by omega)
                rw [eW_nm (by rw [hs]; omega), ev, nI_clamp (by omega), sp_v_n (by omega) (by omega)]
                exact ⟨by omega, rfl⟩
            · split at h
              · next hc =>
                have hp1 : p < n := by rcases hc with hc | hc | hc <;> exact sp_c_lt hc (by decide)
                have hs : (sp_c tx n p).toNatClampNeg = 48 ∨ (sp_c tx n p).toNatClampNeg = 49 ∨ (sp_c tx n p).toNatClampNeg = 35 := by
                  rcases hc with hc | hc | hc
                  · rw [hc]; left; decide
                  · rw [hc]; right; left; decide
                  · rw [hc]; right; right; decide
                cases h
                rw [eW_lf (by rw [sp_s_n (by omega) (by omega)]; exact hs), sp_v_n (by omega) (by omega)]
                exact ⟨rfl, rfl⟩
              · cases h
    · rw [sp_e5] at h
      split at h
      · obtain ⟨q1, u1, e1, e2⟩ := sp_b_inr h
        have i := ih 3 lv _ .nil q1 u1 (by omega) (by omega) e1
        refine ih 5 lv q1 _ q u (by omega) (fun _ => ?_) e2
        rw [eW_2 (by rw [sp_s_n (by omega) (sp_1_lt _)]; omega), sp_v_n (by omega) (sp_1_lt _)]
        exact ⟨rfl, ht (Or.inl rfl), i⟩
      · cases h; exact ht (Or.inl rfl)
    · rw [sp_e6] at h
      split at h
      · obtain ⟨q1, u1, e1, e2⟩ := sp_b_inr h
        have i := ih 4 lv _ .nil q1 u1 (by omega) (by omega) e1
        refine ih 6 lv q1 _ q u (by omega) (fun _ => ?_) e2
        rw [eW_2 (by rw [sp_s_n (by omega) (sp_1_lt _)]; omega), sp_v_n (by omega) (sp_1_lt _)]
        exact ⟨rfl, ht (Or.inr rfl), i⟩
      · cases h; exact ht (Or.inr rfl)
end EW
theorem eW_cnt {V : Nat} {t : Std.Format} (h : eW V t) {v : Nat} (hv : V ≤ v) : cU v t = 0 ∧ cA v t = 0 := by
  refine eW_ind (M := fun t => cU v t = 0 ∧ cA v t = 0) ?_ ?_ ?_ ?_ ?_ ?_ (sp_z t) t (Nat.le_refl _) h
  all_goals intros
  all_goals simp only [cU, cA]
  all_goals repeat rw [if_neg (by omega)]
  all_goals omega
/-- uses and assignments in a statement's tree: those of its e's -/
def uS (v : Nat) : Std.Format → Nat
  | .tag c x => if stS (sp_s c) then uS v x else cU v (.tag c x)
  | .append x y => uS v x + uS v y
  | _ => 0
def aS (v : Nat) : Std.Format → Nat
  | .tag c x => if stS (sp_s c) then aS v x else cA v (.tag c x)
  | .append x y => aS v x + aS v y
  | _ => 0
theorem uS_e {V : Nat} {t : Std.Format} (h : eW V t) (v : Nat) : uS v t = cU v t ∧ aS v t = cA v t := by
  obtain ⟨c, x, rfl, -⟩ := eW_tag h
  have hn := eW_notS h
  simp only [uS, aS]
  rw [if_neg hn, if_neg hn]
  exact ⟨rfl, rfl⟩
