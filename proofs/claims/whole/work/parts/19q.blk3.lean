theorem Blk_same {a a' : Nat → Nat → Int32} : ∀ (n : Nat) (t : Std.Format), sp_z t ≤ n → ∀ b r, sameOn a a' b (sp_z t) r → Blk a t b r → Blk a' t b r := by
  intro n
  induction n with
  | zero =>
    intro t ht b r _ h
    have := Blk_root h
    omega
  | succ n ih =>
    intro t ht b r hs h
    have hr := Blk_root h
    cases t with
    | tag c x =>
      cases x with
      | nil =>
        obtain ⟨rfl, h2⟩ := h
        exact ⟨rfl, ndF_same hs (by omega) hr.2 h2⟩
      | append u v =>
        cases v with
        | append v w =>
          simp only [sp_z] at ht hs hr
          obtain ⟨⟨h1, h2⟩, x, y, z, ⟨h3, h4, h5⟩, h6, h7, h8⟩ := h
          have r3 := Blk_root h3
          have r4 := Blk_root h4
          have r5 := Blk_root h5
          subst h1
          exact ⟨⟨rfl, ndF_same hs (by omega) (by omega) h2⟩, x, y, z, ⟨ih u (by omega) _ _ (sameOn_sub hs (by omega) (by omega) (Or.inr (by omega))) h3, ih v (by omega) _ _ (sameOn_sub hs (by omega) (by omega) (Or.inl (by omega))) h4, ih w (by omega) _ _ (sameOn_sub hs (by omega) (by omega) (Or.inl (by omega))) h5⟩, ((hs x (by omega) (by omega)).2.2 (by omega)).trans h6, ((hs y (by omega) (by omega)).2.2 (by omega)).trans h7, ((hs z (by omega) (by omega)).2.2 (by omega)).trans h8⟩
        | tag c' v' =>
          simp only [sp_z] at ht hs hr
          obtain ⟨⟨h1, h2⟩, x, y, ⟨h3, h4⟩, h6, h7⟩ := h
          have r3 := Blk_root h3
          have r4 := Blk_root h4
          simp only [sp_z] at r4
          subst h1
          exact ⟨⟨rfl, ndF_same hs (by omega) (by omega) h2⟩, x, y, ⟨ih u (by omega) _ _ (sameOn_sub hs (by omega) (by omega) (Or.inr (by omega))) h3, ih (.tag c' v') (by simp only [sp_z]; omega) _ _ (sameOn_sub hs (by omega) (by simp only [sp_z]; omega) (Or.inl (by omega))) h4⟩, ((hs x (by omega) (by omega)).2.2 (by omega)).trans h6, ((hs y (by omega) (by omega)).2.2 (by omega)).trans h7⟩
        | _ => exact absurd h.2.choose_spec.choose_spec.1.2 (by simp [Blk])
      | tag c' u' =>
        simp only [sp_z] at ht hs hr
        obtain ⟨⟨h1, h2⟩, x, h3, h6⟩ := h
        have r3 := Blk_root h3
        simp only [sp_z] at r3
        subst h1
        exact ⟨⟨rfl, ndF_same hs (by omega) (by omega) h2⟩, x, ih (.tag c' u') (by simp only [sp_z]; omega) _ _ (sameOn_sub hs (by omega) (by simp only [sp_z]; omega) (Or.inl (by omega))) h3, ((hs x (by omega) (by omega)).2.2 (by omega)).trans h6⟩
      | _ => exact absurd h.2.choose_spec.1 (by simp [Blk])
    | _ => exact absurd h (by simp [Blk])
