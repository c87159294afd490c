theorem Cln_Fr {th : Int32} {a a' : Nat → Nat → Int32} {u : Std.Format} {b t r B k T : Nat} (h : Fr a a' B k T) (hb : b + sp_z u ≤ B) (ht : t < T) (hC : Cln th a u b t r) : Cln th a' u b t r := ⟨⟨Blk_Fr h hb hC.1.1, (Fr_done h ht).trans hC.1.2⟩, fun i h1 h2 => ⟨(Fr_row h (by decide) (by decide) (by omega)).trans (hC.2 i h1 h2).1, (Fr_row h (by decide) (by decide) (by omega)).trans (hC.2 i h1 h2).2⟩⟩
/-- & and |: the left side is done, the right side waits -/
theorem Pnd_2 {th : Int32} {lev ly : Nat} {a2 a' : Nat → Nat → Int32} {x y : Std.Format} {b b' k t z K T Z rx c : Nat} {s : Int32} (hlev : ∀ p q w, okf lev p q w → okf ly p q w ∧ ((s = 38 ∧ ¬ p = 0) ∨ (s = 124 ∧ ¬ q = 0))) (hs : s = 38 ∨ s = 124) (hk : k < 92) (ht : t ≤ k) (hb : b' = b + sp_z x) (hb2 : b' + 1 + sp_z y ≤ 260) (hF : Fr a2 a' (b' + 1) (k + 1) (t + 1)) (h1 : a2 r_opSign k = s) (h2 : a2 r_opNode k = nI b') (h3 : Cln th a2 x b t rx) (h4 : ndF a2 b' c) (h5 : a2 r_thereBefore b' = th ∧ a2 r_thereAfter b' = th) (hy : sp_ok y) (hP : Pnd th ly a' y (b' + 1) (k + 1) (t + 1) z K T Z) : Pnd th lev a' (.tag c (.append x y)) b k t z K T Z := by
  obtain ⟨⟨⟨hk1, hk2⟩, hops⟩, a1, ry, ⟨hF1, hC⟩, hrw⟩ := hP
  have hF2 : Fr a2 a1 (b' + 1) (k + 1) (t + 1) := Fr_trans hF hF1 (Nat.le_refl _) (Nat.le_refl _) (Nat.le_refl _)
  have hx := Blk_root h3.1.1
  have hyr := Blk_root hC.1.1
  have s1 : a1 r_opSign k = s := (Fr_sign hF2 (by omega)).trans h1
  have s2 : a1 r_opNode k = nI b' := (Fr_onode hF2 (by omega)).trans h2
  have hCx : Cln th a1 x b t rx := Cln_Fr hF2 (by omega) (by omega) h3
  refine ⟨⟨⟨by omega, hk2⟩, fun i i1 i2 => ?_⟩, up2 (up2 (up2 a1 r_around ry (nI b')) r_around rx (nI b')) r_done t (nI b'), b', ⟨?_, ⟨?_, ?_⟩, ?_⟩, ?_⟩
  · by_cases e : i = k
    · rw [e, Fr_sign hF (by omega), h1]
      rcases hs with rfl | rfl
      · exact Or.inl rfl
      · exact Or.inr (Or.inl rfl)
    · exact hops i (by omega) i2
  · exact Fr_dn (Fr_nd (Fr_nd (Fr_le hF1 (by omega) (by omega) (by omega)) _ (by decide) (by decide) (by omega)) _ (by decide) (by decide) (by omega)) _ (Nat.le_refl _)
  · refine Blk_2 hy hb ?_ (Blk_dn _ (Blk_ar _ (Blk_ar _ hCx.1.1 (Or.inr (Or.inl (by omega)))) (Or.inr (Or.inr rfl)))) (Blk_dn _ (Blk_ar _ (Blk_ar _ hC.1.1 (Or.inr (Or.inr rfl))) (Or.inl (by omega)))) ?_ ?_
    · have q := ndF_Fr hF2 (by omega) h4
      exact ⟨⟨(up2_ne _ _ (fun q => absurd q.1 (by decide))).trans ((up2_ne _ _ (fun q => absurd q.1 (by decide))).trans ((up2_ne _ _ (fun q => absurd q.1 (by decide))).trans q.1.1)), (up2_ne _ _ (fun q => absurd q.1 (by decide))).trans ((up2_ne _ _ (fun q => absurd q.1 (by decide))).trans ((up2_ne _ _ (fun q => absurd q.1 (by decide))).trans q.1.2))⟩, (up2_ne _ _ (fun q => absurd q.1 (by decide))).trans ((up2_ne _ _ (fun q => absurd q.1 (by decide))).trans ((up2_ne _ _ (fun q => absurd q.1 (by decide))).trans q.2.1)), (up2_ne _ _ (fun q => absurd q.1 (by decide))).trans ((up2_ne _ _ (fun q => absurd q.1 (by decide))).trans ((up2_ne _ _ (fun q => absurd q.1 (by decide))).trans q.2.2))⟩
    · exact (up2_ne _ _ (fun q => absurd q.1 (by decide))).trans (up2_eq _ _ _ _)
    · exact (up2_ne _ _ (fun q => absurd q.1 (by decide))).trans ((up2_ne _ _ (fun q => by have := q.2; omega)).trans (up2_eq _ _ _ _))
  · exact up2_eq _ _ _ _
  · intro i i1 i2
    simp only [sp_z] at i2
    have q : a1 r_thereBefore i = th ∧ a1 r_thereAfter i = th := by
      by_cases e1 : i < b'
      · exact hCx.2 i i1 (by omega)
      · by_cases e2 : i = b'
        · rw [e2]
          exact ⟨(Fr_row hF2 (by decide) (by decide) (by omega)).trans h5.1, (Fr_row hF2 (by decide) (by decide) (by omega)).trans h5.2⟩
        · exact hC.2 i (by omega) (by omega)
    exact ⟨(up2_ne _ _ (fun q => absurd q.1 (by decide))).trans ((up2_ne _ _ (fun q => absurd q.1 (by decide))).trans ((up2_ne _ _ (fun q => absurd q.1 (by decide))).trans q.1)), (up2_ne _ _ (fun q => absurd q.1 (by decide))).trans ((up2_ne _ _ (fun q => absurd q.1 (by decide))).trans ((up2_ne _ _ (fun q => absurd q.1 (by decide))).trans q.2))⟩
  · intro d p q w hok m P B m' a'' h
    obtain ⟨k1, k2⟩ := hlev p q w hok
    refine hrw d p q w k1 m P B m' a'' (rwG_2 d p q w m m' a1 a'' (by omega) (by omega) hC.1.2 hCx.1.2 (by omega) (by omega) (by rw [s1]; exact k2) ?_)
    rw [s2]
    exact h
/-- NAME = e: its node waits -/
theorem Pnd_1 {th : Int32} {a2 a' : Nat → Nat → Int32} {y : Std.Format} {b k t z K T Z c : Nat} (hk : k < 92) (ht : t ≤ k) (hb2 : b + 1 + sp_z y ≤ 260) (hF : Fr a2 a' (b + 1) (k + 1) t) (h1 : a2 r_opSign k = 61) (h2 : a2 r_opNode k = nI b) (h4 : ndF a2 b c) (h5 : a2 r_thereBefore b = th ∧ a2 r_thereAfter b = th) (hy : sp_ok y) (hP : Pnd th 1 a' y (b + 1) (k + 1) t (z + 1) K T Z) : Pnd th 1 a' (.tag c y) b k t z K T Z := by
  obtain ⟨⟨⟨hk1, hk2⟩, hops⟩, a1, ry, ⟨hF1, hC⟩, hrw⟩ := hP
  have hF2 : Fr a2 a1 (b + 1) (k + 1) t := Fr_trans hF hF1 (Nat.le_refl _) (Nat.le_refl _) (Nat.le_refl _)
  have hyr := Blk_root hC.1.1
  have s1 : a1 r_opSign k = 61 := (Fr_sign hF2 (by omega)).trans h1
  have s2 : a1 r_opNode k = nI b := (Fr_onode hF2 (by omega)).trans h2
  refine ⟨⟨⟨by omega, hk2⟩, fun i i1 i2 => ?_⟩, up2 (up2 a1 r_around ry (nI b)) r_done t (nI b), b, ⟨?_, ⟨?_, ?_⟩, ?_⟩, ?_⟩
  · by_cases e : i = k
    · rw [e, Fr_sign hF (by omega), h1]
      exact Or.inr (Or.inr (Or.inl rfl))
    · exact hops i (by omega) i2
  · exact Fr_dn (Fr_nd (Fr_le hF1 (by omega) (by omega) (by omega)) _ (by decide) (by decide) (by omega)) _ (Nat.le_refl _)
  · refine Blk_1 hy ?_ (Blk_dn _ (Blk_ar _ hC.1.1 (Or.inr (Or.inr rfl)))) ?_
    · have q := ndF_Fr hF2 (by omega) h4
      exact ⟨⟨(up2_ne _ _ (fun q => absurd q.1 (by decide))).trans ((up2_ne _ _ (fun q => absurd q.1 (by decide))).trans q.1.1), (up2_ne _ _ (fun q => absurd q.1 (by decide))).trans ((up2_ne _ _ (fun q => absurd q.1 (by decide))).trans q.1.2)⟩, (up2_ne _ _ (fun q => absurd q.1 (by decide))).trans ((up2_ne _ _ (fun q => absurd q.1 (by decide))).trans q.2.1), (up2_ne _ _ (fun q => absurd q.1 (by decide))).trans ((up2_ne _ _ (fun q => absurd q.1 (by decide))).trans q.2.2)⟩
    · exact (up2_ne _ _ (fun q => absurd q.1 (by decide))).trans (up2_eq _ _ _ _)
  · exact up2_eq _ _ _ _
  · intro i i1 i2
    simp only [sp_z] at i2
    have q : a1 r_thereBefore i = th ∧ a1 r_thereAfter i = th := by
      by_cases e2 : i = b
      · rw [e2]
        exact ⟨(Fr_row hF2 (by decide) (by decide) (by omega)).trans h5.1, (Fr_row hF2 (by decide) (by decide) (by omega)).trans h5.2⟩
      · exact hC.2 i (by omega) (by omega)
    exact ⟨(up2_ne _ _ (fun q => absurd q.1 (by decide))).trans ((up2_ne _ _ (fun q => absurd q.1 (by decide))).trans q.1), (up2_ne _ _ (fun q => absurd q.1 (by decide))).trans ((up2_ne _ _ (fun q => absurd q.1 (by decide))).trans q.2)⟩
  · intro d p q w hok m P B m' a'' h
    refine hrw d p q w hok m P B m' a'' (rwG_1 d p q w m m' a1 a'' (by omega) (by omega) hC.1.2 (by omega) ⟨Or.inl s1, hok.2.2 (by omega)⟩ ?_)
    rw [s2]
    exact h
/-- ? : with its first two sides done, the third waits -/
theorem Pnd_3 {th : Int32} {a2 a' : Nat → Nat → Int32} {x v y : Std.Format} {b b' k t z K T Z c rx rv : Nat} (hk : k < 92) (ht : t ≤ k) (hb : b' = b + sp_z x) (hb2 : b' + 1 + sp_z v + sp_z y ≤ 260) (hF : Fr a2 a' (b' + 1 + sp_z v) (k + 1) t) (h1 : a2 r_opSign k = 58) (h2 : a2 r_opNode k = nI b') (h4 : ndF a2 b' c) (h5 : ∀ i, b ≤ i → i < b' + 1 + sp_z v → a2 r_thereBefore i = th ∧ a2 r_thereAfter i = th) (h6 : Blk a2 x b rx) (h7 : Blk a2 v (b' + 1) rv) (h8 : a2 r_around rx = nI b') (h9 : a2 r_around rv = nI b') (hP : Pnd th 1 a' y (b' + 1 + sp_z v) (k + 1) t (z + 1) K T Z) : Pnd th 1 a' (.tag c (.append x (.append v y))) b k t z K T Z := by
  obtain ⟨⟨⟨hk1, hk2⟩, hops⟩, a1, ry, ⟨hF1, hC⟩, hrw⟩ := hP
  have hF2 : Fr a2 a1 (b' + 1 + sp_z v) (k + 1) t := Fr_trans hF hF1 (Nat.le_refl _) (Nat.le_refl _) (Nat.le_refl _)
  have hyr := Blk_root hC.1.1
  have hxr := Blk_root h6
  have hvr := Blk_root h7
  have s1 : a1 r_opSign k = 58 := (Fr_sign hF2 (by omega)).trans h1
  have s2 : a1 r_opNode k = nI b' := (Fr_onode hF2 (by omega)).trans h2
  refine ⟨⟨⟨by omega, hk2⟩, fun i i1 i2 => ?_⟩, up2 (up2 a1 r_around ry (nI b')) r_done t (nI b'), b', ⟨?_, ⟨?_, ?_⟩, ?_⟩, ?_⟩
  · by_cases e : i = k
    · rw [e, Fr_sign hF (by omega), h1]
      exact Or.inr (Or.inr (Or.inr rfl))
    · exact hops i (by omega) i2
  · exact Fr_dn (Fr_nd (Fr_le hF1 (by omega) (by omega) (by omega)) _ (by decide) (by decide) (by omega)) _ (Nat.le_refl _)
  · refine Blk_3 hb ?_ (Blk_dn _ (Blk_ar _ (Blk_Fr hF2 (by omega) h6) (Or.inr (Or.inl (by omega))))) (Blk_dn _ (Blk_ar _ (Blk_Fr hF2 (by omega) h7) (Or.inr (Or.inl (by omega))))) (Blk_dn _ (Blk_ar _ hC.1.1 (Or.inr (Or.inr rfl)))) ?_ ?_ ?_
    · have q := ndF_Fr hF2 (by omega) h4
      exact ⟨⟨(up2_ne _ _ (fun q => absurd q.1 (by decide))).trans ((up2_ne _ _ (fun q => absurd q.1 (by decide))).trans q.1.1), (up2_ne _ _ (fun q => absurd q.1 (by decide))).trans ((up2_ne _ _ (fun q => absurd q.1 (by decide))).trans q.1.2)⟩, (up2_ne _ _ (fun q => absurd q.1 (by decide))).trans ((up2_ne _ _ (fun q => absurd q.1 (by decide))).trans q.2.1), (up2_ne _ _ (fun q => absurd q.1 (by decide))).trans ((up2_ne _ _ (fun q => absurd q.1 (by decide))).trans q.2.2)⟩
    · exact (up2_ne _ _ (fun q => absurd q.1 (by decide))).trans ((up2_ne _ _ (fun q => by have := q.2; omega)).trans ((Fr_row hF2 (by decide) (by decide) (by omega)).trans h8))
    · exact (up2_ne _ _ (fun q => absurd q.1 (by decide))).trans ((up2_ne _ _ (fun q => by have := q.2; omega)).trans ((Fr_row hF2 (by decide) (by decide) (by omega)).trans h9))
    · exact (up2_ne _ _ (fun q => absurd q.1 (by decide))).trans (up2_eq _ _ _ _)
  · exact up2_eq _ _ _ _
  · intro i i1 i2
    simp only [sp_z] at i2
    have q : a1 r_thereBefore i = th ∧ a1 r_thereAfter i = th := by
      by_cases e2 : i < b' + 1 + sp_z v
      · exact ⟨(Fr_row hF2 (by decide) (by decide) (by omega)).trans (h5 i i1 e2).1, (Fr_row hF2 (by decide) (by decide) (by omega)).trans (h5 i i1 e2).2⟩
      · exact hC.2 i (by omega) (by omega)
    exact ⟨(up2_ne _ _ (fun q => absurd q.1 (by decide))).trans ((up2_ne _ _ (fun q => absurd q.1 (by decide))).trans q.1), (up2_ne _ _ (fun q => absurd q.1 (by decide))).trans ((up2_ne _ _ (fun q => absurd q.1 (by decide))).trans q.2)⟩
  · intro d p q w hok m P B m' a'' h
    refine hrw d p q w hok m P B m' a'' (rwG_1 d p q w m m' a1 a'' (by omega) (by omega) hC.1.2 (by omega) ⟨Or.inr s1, hok.2.2 (by omega)⟩ ?_)
    rw [s2]
    exact h
