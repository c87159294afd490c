def lkR (a : Nat → Nat → Int32) (N i : Nat) : Prop := (∃ o, a c_P_around i = oI o ∧ o ≤ N) ∧ (∃ t, a c_P_tryAround i = oI t ∧ t ≤ N)
theorem lkR_all {a : Nat → Nat → Int32} {V N : Nat} {t : Std.Format} (ht : fT V t) : ∀ (b o k ta tp : Nat) (md : Bool), b + sp_z t ≤ N → o ≤ N → ta ≤ N → LkS a t b o k ta tp md → ∀ i, b ≤ i → i < b + sp_z t → lkR a N i := by
  have one : ∀ (c : Nat) (x : Std.Format), ¬ sp_s c = 84 → (∀ (b o k ta tp : Nat) (md : Bool), b + sp_z x ≤ N → o ≤ N → ta ≤ N → LkS a x b o k ta tp md → ∀ i, b ≤ i → i < b + sp_z x → lkR a N i) → ∀ (b o k ta tp : Nat) (md : Bool), b + sp_z (.tag c x) ≤ N → o ≤ N → ta ≤ N → LkS a (.tag c x) b o k ta tp md → ∀ i, b ≤ i → i < b + sp_z (.tag c x) → lkR a N i := by
    intro c x h8 hx b o k ta tp md hb ho hta h i i1 i2
    simp only [sp_z] at hb i2
    unfold LkS at h
    rw [if_neg h8] at h
    by_cases q : i = b
    · rw [q]; exact ⟨⟨o, h.1.1.1, ho⟩, ta, h.1.2.1, hta⟩
    · exact hx (b + 1) (b + 1) 0 ta tp false (by omega) (by omega) hta h.2 i (by omega) (by omega)
  have app : ∀ x y : Std.Format, (∀ (b o k ta tp : Nat) (md : Bool), b + sp_z x ≤ N → o ≤ N → ta ≤ N → LkS a x b o k ta tp md → ∀ i, b ≤ i → i < b + sp_z x → lkR a N i) → (∀ (b o k ta tp : Nat) (md : Bool), b + sp_z y ≤ N → o ≤ N → ta ≤ N → LkS a y b o k ta tp md → ∀ i, b ≤ i → i < b + sp_z y → lkR a N i) → ∀ (b o k ta tp : Nat) (md : Bool), b + sp_z (.append x y) ≤ N → o ≤ N → ta ≤ N → LkS a (.append x y) b o k ta tp md → ∀ i, b ≤ i → i < b + sp_z (.append x y) → lkR a N i := by
    intro x y hx hy b o k ta tp md hb ho hta h i i1 i2
    simp only [sp_z] at hb i2
    by_cases q : i < b + sp_z x
    · exact hx b o k ta tp md (by omega) ho hta h.1 i i1 q
    · exact hy (b + sp_z x) o _ ta tp md (by omega) ho hta h.2 i (by omega) (by omega)
  have nt : ∀ c, ¬ stS (sp_s c) → ¬ sp_s c = 84 := fun c h q => h (by rw [q]; unfold stS; omega)
  refine fT_ind (V := V) (M := fun t => ∀ (b o k ta tp : Nat) (md : Bool), b + sp_z t ≤ N → o ≤ N → ta ≤ N → LkS a t b o k ta tp md → ∀ i, b ≤ i → i < b + sp_z t → lkR a N i) app ?_ ?_ ?_ ?_ ?_ ?_ _ t (Nat.lt_succ_self _) ht
  · intro b o k ta tp md _ _ _ _ i i1 i2; simp only [sp_z] at i2; omega
  · intro b o k ta tp md _ _ _ _ i i1 i2; simp only [sp_z] at i2; omega
  · intro c x _ h8 hx; exact one c x h8 hx
  · intro c u v w h8 hc hu hv hw b o k ta tp md hb ho hta h i i1 i2
    simp only [sp_z] at hb i2
    unfold LkS at h
    rw [if_pos h8] at h
    simp only at h
    by_cases q : i = b
    · rw [q]; exact ⟨⟨o, h.1.1.1, ho⟩, ta, h.1.2.1, hta⟩
    · by_cases q1 : i < b + 1 + sp_z u
      · exact hu (b + 1) (b + 1) 0 (b + 1) 1 true (by omega) (by omega) (by omega) h.2.1 i (by omega) q1
      · by_cases q2 : i < b + 1 + sp_z u + sp_z v
        · exact hv _ (b + 1) 1 (b + 1) 2 true (by omega) (by omega) (by omega) h.2.2.1 i (by omega) q2
        · exact hw _ (b + 1) 2 (b + 1) 3 true (by omega) (by omega) (by omega) h.2.2.2 i (by omega) (by omega)
  · intro c u v hs _ hu hv; exact one c _ (nt c hs) (app u v hu hv)
  · intro c x hs _ _ hx; exact one c x (nt c hs) hx
theorem dO_oI {k : Nat} (hk : k < 2 ^ 20) : dO (oI k) = k := by
  unfold dO
  cases k with
  | zero => rfl
  | succ k => rw [oI_s, if_neg (nI_ne_m1 (by omega)), nI_clamp (by omega)]
/-- all rows that the walks and the judge ask for -/
theorem rows_all {a : Nat → Nat → Int32} {N : Nat} (hN : N ≤ 241) (h1 : ∀ i, i < N → plR a N i) (h2 : ∀ i, i < N → lkR a N i) : (wRow a N ∧ aRow a N) ∧ (oRow a N ∧ ffRow a N) ∧ nRow a N := by
  have hE : eRow a N := by
    intro q hq
    obtain ⟨⟨e, he, -, heN, -⟩, -⟩ := h1 q hq
    rw [he, show dN (nI e) = e from nI_clamp (by omega)]
    exact ⟨rfl, by omega⟩
  refine ⟨⟨⟨hE, fun p hp => ?_⟩, fun q hq => ?_⟩, ⟨fun q hq => ?_, fun t ht => ?_⟩, fun p hp => ?_⟩
  · obtain ⟨⟨e, he, -, heN, hc, hf⟩, -, hj⟩ := h1 p hp
    obtain ⟨⟨o, ho, hoN⟩, -⟩ := h2 p hp
    refine ⟨⟨?_, ?_⟩, hj, ?_⟩
    · rcases hc with q | ⟨x, q, q2⟩
      · exact Or.inl q
      · exact Or.inr ⟨x, q, by omega⟩
    · rcases hf with q | ⟨x, q, q2⟩
      · exact Or.inl q
      · exact Or.inr ⟨x, q, by omega⟩
    · rw [ho]
      cases o with
      | zero => exact Or.inl rfl
      | succ o => exact Or.inr ⟨o, by omega, oI_s o⟩
  · obtain ⟨-, k, hk, hkN⟩ := h2 q hq
    rw [hk, dO_oI (by omega)]
    exact ⟨rfl, hkN⟩
  · obtain ⟨⟨k, hk, hkN⟩, -⟩ := h2 q hq
    rw [hk, dO_oI (by omega)]
    exact ⟨rfl, hkN⟩
  · obtain ⟨⟨e, he, -, heN, -, hf⟩, -⟩ := h1 t ht
    rcases hf with q | ⟨x, q, q2⟩
    · exact Or.inl q
    · exact Or.inr ⟨x, e, ⟨q, he⟩, q2, heN⟩
  · obtain ⟨-, ⟨k, hk, hk2⟩, -⟩ := h1 p hp
    rw [hk, dO_oI (by omega)]
    exact ⟨rfl, hk2⟩
theorem plR_row {a a' : Nat → Nat → Int32} {N i : Nat} (h : ∀ j, (j = 2 ∨ j = 4 ∨ j = 6 ∨ j = 11 ∨ j = 12 ∨ j = 13) → a' j i = a j i) (hp : plR a N i) : plR a' N i := by
  unfold plR at hp ⊢
  rw [h c_P_end (by decide), h c_P_catchFrom (by decide), h c_P_finallyFrom (by decide), h c_P_named (by decide), h c_P_sort (by decide), h c_P_target (by decide)]
  exact hp
theorem lkR_row {a a' : Nat → Nat → Int32} {N i : Nat} (h : ∀ j, (j = 7 ∨ j = 9) → a' j i = a j i) (hp : lkR a N i) : lkR a' N i := by
  unfold lkR at hp ⊢
  rw [h c_P_around (by decide), h c_P_tryAround (by decide)]
  exact hp
