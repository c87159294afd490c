theorem sW_ind {W : Nat} {M0 M1 : kx_T → Std.Format → Nat → Prop}
    (hg : ∀ cx c b, (sp_s c = 36 ∨ sp_s c = 37) → (1 ≤ sp_pl c % 16 ∧ sp_pl c % 16 ≤ W) → M0 cx (.tag c .nil) b)
    (h123 : ∀ cx c x b, sp_s c = 123 → M1 ((b, 123) :: cx) x (b + 1) → M0 cx (.tag c x) b)
    (h58 : ∀ cx c t b, sp_s c = 58 → M0 ((b, 58) :: cx) t (b + 1) → M0 cx (.tag c (.append t .nil)) b)
    (h59 : ∀ cx c e b, sp_s c = 59 → eW W e → M0 cx (.tag c (.append e .nil)) b)
    (h73 : ∀ cx c e t b, sp_s c = 73 → eW W e → M0 ((b, 73) :: cx) t (b + 1 + sp_z e) → M0 cx (.tag c (.append e (.append t .nil))) b)
    (h73b : ∀ cx c e t t2 b, sp_s c = 73 → eW W e → M0 ((b, 73) :: cx) t (b + 1 + sp_z e) → M0 ((b, 73) :: cx) t2 (b + 1 + sp_z e + sp_z t) → M0 cx (.tag c (.append e (.append t (.append t2 .nil)))) b)
    (h87 : ∀ cx c e t b, sp_s c = 87 → eW W e → M0 ((b, 87) :: cx) t (b + 1 + sp_z e) → M0 cx (.tag c (.append e (.append t .nil))) b)
    (h68 : ∀ cx c e t b, sp_s c = 68 → eW W e → M0 ((b, 68) :: cx) t (b + 1) → M0 cx (.tag c (.append t (.append e .nil))) b)
    (h70 : ∀ cx c e e2 t b, sp_s c = 70 → eW W e → eW W e2 → M0 ((b, 70) :: cx) t (b + 1 + sp_z e + sp_z e2) → M0 cx (.tag c (.append e (.append e2 (.append t .nil)))) b)
    (h83 : ∀ cx c e y b, sp_s c = 83 → eW W e → M1 ((b, 83) :: cx) y (b + 1 + sp_z e) → M0 cx (.tag c (.append e y)) b)
    (h84 : ∀ cx c u v w b, sp_s c = 84 → tC c v w → M1 ((b, 84) :: cx) u (b + 1) → M1 ((b, 84) :: cx) v (b + 1 + sp_z u) → M1 ((b, 84) :: cx) w (b + 1 + sp_z u + sp_z v) → M0 cx (.tag c (.append u (.append v w))) b)
    (hj : ∀ cx c b, (sp_s c = 66 ∨ sp_s c = 67) → (∃ i s, (i, s) ∈ cx ∧ sp_pl c = i + 1 ∧ (sp_s c = 67 → is_lp s)) → M0 cx (.tag c .nil) b)
    (hr : ∀ cx c b, (sp_s c = 82 ∨ sp_s c = 88) → M0 cx (.tag c .nil) b)
    (hre : ∀ cx c e b, (sp_s c = 82 ∨ sp_s c = 88) → eW W e → M0 cx (.tag c (.append e .nil)) b)
    (hc : ∀ cx t y b, M0 cx t b → M1 cx y (b + sp_z t) → M1 cx (.append t y) b) (hn : ∀ cx b, M1 cx .nil b) (hl : ∀ cx b, M1 cx .line b) :
    ∀ (N : Nat) (t : Std.Format), SizeOf.sizeOf t < N → ∀ (cx : kx_T) (b : Nat), (sW W 0 cx t b → M0 cx t b) ∧ (sW W 1 cx t b → M1 cx t b) := by
  intro N
  induction N with
  | zero => intro t ht; omega
  | succ N ih =>
    intro t ht cx b
    refine ⟨fun h => ?_, fun h => ?_⟩
    · obtain ⟨c, x, rfl, hs⟩ := sW_tag h
      simp at ht
      have hs' := hs
      unfold stS at hs'
      rcases hs' with h1 | h1 | h1 | h1 | h1 | h1 | h1 | h1 | h1 | h1 | h1 | h1 | h1 | h1 | h1
      · obtain ⟨h2, rfl⟩ := (sW_given (Or.inl h1)).mp h
        exact hg cx c b (Or.inl h1) h2
      · obtain ⟨h2, rfl⟩ := (sW_given (Or.inr h1)).mp h
        exact hg cx c b (Or.inr h1) h2
      · exact h123 cx c x b h1 ((ih x (by omega) _ _).2 ((sW_123 h1).mp h))
      · obtain ⟨t, rfl, h2⟩ := (sW_58 h1).mp h
        simp at ht
        exact h58 cx c t b h1 ((ih t (by omega) _ _).1 h2)
      · obtain ⟨e, rfl, h2⟩ := (sW_59 h1).mp h
        exact h59 cx c e b h1 h2
      · rcases (sW_73 h1).mp h with ⟨e, t, rfl, h2, h3⟩ | ⟨e, t, t2, rfl, h2, h3, h4⟩
        · simp at ht
          exact h73 cx c e t b h1 h2 ((ih t (by omega) _ _).1 h3)
        · simp at ht
          exact h73b cx c e t t2 b h1 h2 ((ih t (by omega) _ _).1 h3) ((ih t2 (by omega) _ _).1 h4)
      · obtain ⟨e, t, rfl, h2, h3⟩ := (sW_87 h1).mp h
        simp at ht
        exact h87 cx c e t b h1 h2 ((ih t (by omega) _ _).1 h3)
      · obtain ⟨e, t, rfl, h2, h3⟩ := (sW_68 h1).mp h
        simp at ht
        exact h68 cx c e t b h1 h2 ((ih t (by omega) _ _).1 h3)
      · obtain ⟨e, e2, t, rfl, ⟨h2, h3⟩, h4⟩ := (sW_70 h1).mp h
        simp at ht
        exact h70 cx c e e2 t b h1 h2 h3 ((ih t (by omega) _ _).1 h4)
      · obtain ⟨e, y, rfl, h2, h3⟩ := (sW_83 h1).mp h
        simp at ht
        exact h83 cx c e y b h1 h2 ((ih y (by omega) _ _).2 h3)
      · obtain ⟨hp, u, v, w, rfl, hvw, h2, h3, h4⟩ := (sW_84 h1).mp h
        simp at ht
        exact h84 cx c u v w b h1 ⟨hp, hvw⟩ ((ih u (by omega) _ _).2 h2) ((ih v (by omega) _ _).2 h3) ((ih w (by omega) _ _).2 h4)
      · obtain ⟨rfl, h2⟩ := (sW_jump (Or.inl h1)).mp h
        exact hj cx c b (Or.inl h1) h2
      · obtain ⟨rfl, h2⟩ := (sW_jump (Or.inr h1)).mp h
        exact hj cx c b (Or.inr h1) h2
      · rcases (sW_RX (Or.inl h1)).mp h with rfl | ⟨e, rfl, h2⟩
        · exact hr cx c b (Or.inl h1)
        · exact hre cx c e b (Or.inl h1) h2
      · rcases (sW_RX (Or.inr h1)).mp h with rfl | ⟨e, rfl, h2⟩
        · exact hr cx c b (Or.inr h1)
        · exact hre cx c e b (Or.inr h1) h2
    · cases t with
      | append x y =>
        simp at ht
        rw [sW_1] at h
        exact hc cx x y b ((ih x (by omega) _ _).1 h.1) ((ih y (by omega) _ _).2 h.2)
      | nil => exact hn cx b
      | line => exact hl cx b
      | _ => rw [sW.eq_def] at h; exact h.elim
/-- what holds of every place's rows -/
def plR (a : Nat → Nat → Int32) (N i : Nat) : Prop :=
  (∃ e, a c_P_end i = nI e ∧ i < e ∧ e ≤ N ∧ (a c_P_catchFrom i = -1 ∨ ∃ x, a c_P_catchFrom i = nI x ∧ x ≤ e) ∧ (a c_P_finallyFrom i = -1 ∨ ∃ x, a c_P_finallyFrom i = nI x ∧ x ≤ e)) ∧
  (∃ k, a c_P_named i = oI k ∧ k ≤ 12) ∧ (a c_P_sort i = 66 ∨ a c_P_sort i = 67 → ∃ t, t < N ∧ a c_P_target i = nI t)
theorem plR_e {a : Nat → Nat → Int32} {V N : Nat} (hV : V ≤ 12) (hN : N ≤ 241) {u : Std.Format} (hu : eW V u) : ∀ b, b + sp_z u ≤ N → PrE a u b → (∀ i, b ≤ i → i < b + sp_z u → ∃ th, unf a th i) → ∀ i, b ≤ i → i < b + sp_z u → plR a N i := by
  have node : ∀ c x b, ¬ stS (sp_s c) → sp_v c ≤ 12 → b + 1 + sp_z x ≤ N → ndC a b c (b + 1 + sp_z x) → (∃ th, unf a th b) → plR a N b := by
    intro c x b hs hv hb hn ⟨th, hu⟩
    refine ⟨⟨_, hn.2.2, by omega, hb, Or.inl hu.2.1.1, Or.inl hu.2.1.2⟩, ⟨sp_v c, ?_, hv⟩, fun q => ?_⟩
    · rw [hn.2.1]
      cases sp_v c with
      | zero => rfl
      | succ k => rw [nI_pred, oI_s]
    · exfalso
      rw [hn.1.1, show (66 : Int32) = nI 66 from rfl, show (67 : Int32) = nI 67 from rfl, nI_eq (by unfold sp_s; omega) (by omega), nI_eq (by unfold sp_s; omega) (by omega)] at q
      exact hs (by unfold stS; omega)
  refine eW_ind (V := V) (M := fun u => ∀ b, b + sp_z u ≤ N → PrE a u b → (∀ i, b ≤ i → i < b + sp_z u → ∃ th, unf a th i) → ∀ i, b ≤ i → i < b + sp_z u → plR a N i) ?_ ?_ ?_ ?_ ?_ ?_ (sp_z u) u (Nat.le_refl _) hu
  · intro c y z w hs hv hy hz hw b hb hP hun i i1 i2
    simp only [sp_z] at hb hun i2
    obtain ⟨h1, h2, h3, h4⟩ := hP
    simp only [sp_z] at h1 h3 h4
    by_cases c0 : i = b
    · rw [c0]
      exact node c (.append y (.append z w)) b (by rw [hs]; decide) (by omega) (by simp only [sp_z]; omega) h1 (hun b (Nat.le_refl _) (by omega))
    · by_cases c1 : i < b + 1 + sp_z y
      · exact hy (b + 1) (by omega) h2 (fun k k1 k2 => hun k (by omega) (by omega)) i (by omega) c1
      · by_cases c2 : i < b + 1 + sp_z y + sp_z z
        · exact hz _ (by omega) h3 (fun k k1 k2 => hun k (by omega) (by omega)) i (by omega) c2
        · exact hw _ (by omega) h4 (fun k k1 k2 => hun k (by omega) (by omega)) i (by omega) (by omega)
  · intro c y z hs hv hy hz b hb hP hun i i1 i2
    simp only [sp_z] at hb hun i2
    obtain ⟨h1, h2, h3⟩ := hP
    simp only [sp_z] at h1
    by_cases c0 : i = b
    · rw [c0]
      exact node c (.append y z) b (nS_2 hs) (by omega) (by simp only [sp_z]; omega) h1 (hun b (Nat.le_refl _) (by omega))
    · by_cases c1 : i < b + 1 + sp_z y
      · exact hy (b + 1) (by omega) h2 (fun k k1 k2 => hun k (by omega) (by omega)) i (by omega) c1
      · exact hz _ (by omega) h3 (fun k k1 k2 => hun k (by omega) (by omega)) i (by omega) (by omega)
  · intro c x hs hv hx b hb hP hun i i1 i2
    simp only [sp_z] at hb hun i2
    by_cases c0 : i = b
    · rw [c0]
      exact node c x b (by rw [hs]; decide) (by omega) (by omega) hP.1 (hun b (Nat.le_refl _) (by omega))
    · exact hx (b + 1) (by omega) hP.2 (fun k k1 k2 => hun k (by omega) (by omega)) i (by omega) (by omega)
  · intro c x hs hv hx b hb hP hun i i1 i2
    simp only [sp_z] at hb hun i2
    by_cases c0 : i = b
    · rw [c0]
      exact node c x b (by rw [hs]; decide) (by omega) (by omega) hP.1 (hun b (Nat.le_refl _) (by omega))
    · exact hx (b + 1) (by omega) hP.2 (fun k k1 k2 => hun k (by omega) (by omega)) i (by omega) (by omega)
  · intro c hs hv b hb hP hun i i1 i2
    simp only [sp_z] at hb hun i2
    have c0 : i = b := by omega
    rw [c0]
    exact node c .nil b (nS_nm hs) (by omega) (by simp only [sp_z]; omega) hP.1 (hun b (Nat.le_refl _) (by omega))
  · intro c hs hv b hb hP hun i i1 i2
    simp only [sp_z] at hb hun i2
    have c0 : i = b := by omega
    rw [c0]
    exact node c .nil b (nS_lf hs) (by omega) (by simp only [sp_z]; omega) hP.1 (hun b (Nat.le_refl _) (by omega))
