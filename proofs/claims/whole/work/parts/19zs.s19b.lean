/-- a row of a node ahead of a block leaves the block as it is -/
theorem BlkS_up {a : Nat → Nat → Int32} {W b j B : Nat} {y : Int32} {o : Int32} {pt : Nat} {sc : sc_T} {t : Std.Format} (hj : (3 ≤ j ∧ j ≤ 17) ∨ j = 42) (hb : b + 1 ≤ B) (h : BlkS a W t B o pt sc) : BlkS (up2 a j b y) W t B o pt sc := by
  have key : ∀ (N : Nat) (t : Std.Format), SizeOf.sizeOf t < N → ∀ (B : Nat) (o : Int32) (pt : Nat) (sc : sc_T), b + 1 ≤ B → BlkS a W t B o pt sc → BlkS (up2 a j b y) W t B o pt sc := by
    intro N
    induction N with
    | zero => intro t ht; omega
    | succ N ih =>
      intro t ht B o pt sc hB h
      have e : ∀ k i, b + 1 ≤ i → up2 a j b y k i = a k i := fun k i hi => up2_ne _ _ (fun q => by have := q.2; omega)
      have ev : ∀ k i, ¬ ((3 ≤ k ∧ k ≤ 17) ∨ k = 42) → up2 a j b y k i = a k i := fun k i hk => up2_ne _ _ (fun q => hk (by rw [q.1]; exact hj))
      cases t with
      | append x z =>
        simp at ht
        exact ⟨ih x (by omega) B o pt sc hB h.1, ih z (by omega) _ o pt _ (by omega) h.2⟩
      | tag c x =>
        simp at ht
        unfold BlkS at h ⊢
        by_cases hs : stS (sp_s c)
        · rw [if_pos hs] at h ⊢
          obtain ⟨⟨h1, h2, h3⟩, h4⟩ := h
          refine ⟨⟨?_, ?_, ?_⟩, ?_⟩
          · obtain ⟨⟨⟨k1, k2⟩, ⟨k3, k4⟩, k5, k6⟩, k7, k8, k9, k10⟩ := h1
            refine ⟨⟨⟨(e _ _ hB).trans k1, (e _ _ hB).trans k2⟩, ⟨(e _ _ hB).trans k3, (e _ _ hB).trans k4⟩, (e _ _ hB).trans k5, (e _ _ hB).trans k6⟩, fun q => ⟨(k7 q).1, ⟨(e _ _ hB).trans (k7 q).2.1.1, (e _ _ hB).trans (k7 q).2.1.2⟩, (ev _ _ (by decide)).trans (k7 q).2.2.1, (ev _ _ (by decide)).trans (k7 q).2.2.2.1, (ev _ _ (by decide)).trans (k7 q).2.2.2.2⟩, fun q => ⟨(e _ _ hB).trans (k8 q).1, (e _ _ hB).trans (k8 q).2⟩, fun q => ⟨(k9 q).1, (e _ _ hB).trans (k9 q).2⟩, fun q => ⟨(e _ _ hB).trans (k10 q).1, (e _ _ hB).trans (k10 q).2⟩⟩
          · exact h2.imp_right (fun q => (e _ _ hB).trans q)
          · intro q
            rw [e _ _ hB, e _ _ hB]
            exact h3 q
          · by_cases h84 : sp_s c = 84
            · rw [if_pos h84] at h4 ⊢
              cases x with
              | append u v =>
                cases v with
                | append v w =>
                  simp at ht
                  exact ⟨ih u (by omega) _ _ _ _ (by omega) h4.1, ih v (by omega) _ _ _ _ (by omega) h4.2.1, ih w (by omega) _ _ _ _ (by omega) h4.2.2⟩
                | _ => exact h4.elim
              | _ => exact h4.elim
            · rw [if_neg h84] at h4 ⊢
              exact ih x (by omega) _ _ _ _ (by omega) h4
        · rw [if_neg hs] at h ⊢
          obtain ⟨r, ⟨h1, h2⟩, h3⟩ := h
          have hr := Blk_root h1
          refine ⟨r, ⟨Blk_same _ _ (Nat.le_refl _) B r (fun i i1 _ => ⟨⟨e _ _ (by omega), e _ _ (by omega)⟩, ⟨e _ _ (by omega), e _ _ (by omega)⟩, fun _ => e _ _ (by omega)⟩) h1, (e _ _ (by omega)).trans h2⟩, fun i i1 i2 => ⟨(e _ _ (by omega)).trans (h3 i i1 i2).1, (e _ _ (by omega)).trans (h3 i i1 i2).2⟩⟩
      | _ => trivial
  exact key _ t (Nat.lt_succ_self _) B o pt sc hb h
theorem nd1_up {a : Nat → Nat → Int32} {b j : Nat} {y s f th o pt e : Int32} (hj : j = 17 ∨ j = 42 ∨ j = 38) (h : nd1 a b s f th o pt e) : nd1 (up2 a j b y) b s f th o pt e := by
  have ne : ∀ k i, ¬ (k = 17 ∨ k = 42 ∨ k = 38) → up2 a j b y k i = a k i := fun k i hk => up2_ne _ _ (fun q => hk (by rw [q.1]; exact hj))
  obtain ⟨⟨⟨h1, h2⟩, ⟨h3, h4⟩, h5, h6⟩, ⟨⟨h7, h8⟩, h10, h11⟩, h12, h13, h14⟩ := h
  exact ⟨⟨⟨(ne _ _ (by decide)).trans h1, (ne _ _ (by decide)).trans h2⟩, ⟨(ne _ _ (by decide)).trans h3, (ne _ _ (by decide)).trans h4⟩, (ne _ _ (by decide)).trans h5, (ne _ _ (by decide)).trans h6⟩, ⟨⟨(ne _ _ (by decide)).trans h7, (ne _ _ (by decide)).trans h8⟩, (ne _ _ (by decide)).trans h10, (ne _ _ (by decide)).trans h11⟩, (ne _ _ (by decide)).trans h12, (ne _ _ (by decide)).trans h13, (ne _ _ (by decide)).trans h14⟩
