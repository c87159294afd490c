/-! the reference's nodes of statements -/
abbrev stS (s : Nat) : Prop := s = 36 ∨ s = 37 ∨ s = 123 ∨ s = 58 ∨ s = 59 ∨ s = 73 ∨ s = 87 ∨ s = 68 ∨ s = 70 ∨ s = 83 ∨ s = 84 ∨ s = 66 ∨ s = 67 ∨ s = 82 ∨ s = 88
/-- a statement's code: what it bears (a variable, a target), and whether it is entered -/
abbrev sp_pl (c : Nat) : Nat := sp_v c / 2
abbrev sp_en (c : Nat) : Nat := sp_v c % 2
def scA (sc : sc_T) : Std.Format → sc_T
  | .tag c _ => if sp_s c = 36 ∨ sp_s c = 37 then (sp_pl c / 16, sp_pl c % 16 - 1) :: sc else sc
  | _ => sc
def fLine : Std.Format → Prop
  | .append _ y => fLine y
  | .line => True
  | _ => False
/-- node b of the reference bears the code c of a statement -/
def ndS (a : Nat → Nat → Int32) (W b c : Nat) (o : Int32) (sc : sc_T) : Prop :=
  ((a r_sort b = nI (sp_s c) ∧ a r_first b = nI (sp_f c)) ∧ (a r_around b = o ∧ a r_isStmt b = 1) ∧ (a r_thereBefore b = thOf sc ∧ a r_isMarked b = nI (sp_en c))) ∧
  ((sp_s c = 36 ∨ sp_s c = 37) → (sp_pl c % 16 ≤ W ∧ 1 ≤ sp_pl c % 16) ∧ (a r_variable b = nI (sp_pl c % 16 - 1) ∧ a r_thereAfter b = thOf ((sp_pl c / 16, sp_pl c % 16 - 1) :: sc)) ∧ (a r_nameOf (sp_pl c % 16 - 1) = nI (sp_pl c / 16) ∧ a r_isFinal (sp_pl c % 16 - 1) = (if sp_s c = 37 then 1 else 0) ∧ a r_givenAt (sp_pl c % 16 - 1) = nI b)) ∧
  (¬ (sp_s c = 36 ∨ sp_s c = 37) → a r_variable b = -1 ∧ a r_thereAfter b = thOf sc) ∧
  ((sp_s c = 66 ∨ sp_s c = 67) → 1 ≤ sp_pl c ∧ a r_target b = nI (sp_pl c - 1)) ∧
  (sp_s c = 84 → a r_hasCatch b = nI (sp_pl c % 2) ∧ a r_hasEnd b = nI (sp_pl c / 2))
def BlkS (a : Nat → Nat → Int32) (W : Nat) : Std.Format → Nat → Int32 → Nat → sc_T → Prop
  | .tag c x, b, o, pt, sc =>
    if stS (sp_s c) then
      (ndS a W b c o sc ∧ (pt = 9 ∨ a r_part b = nI pt) ∧ (sp_s c = 83 → (fLine x ↔ (¬ a r_tailMarked b = 0 ∨ a r_hasOther b = 0)))) ∧
      (if sp_s c = 84 then (match x with
        | .append u (.append v w) => BlkS a W u (b + 1) (nI b) 0 sc ∧ BlkS a W v (b + 1 + sp_z u) (nI b) 1 sc ∧ BlkS a W w (b + 1 + sp_z u + sp_z v) (nI b) 2 sc
        | _ => False)
      else BlkS a W x (b + 1) (nI b) (if sp_s c = 123 then 0 else 9) sc)
    else ∃ r, (Blk a (.tag c x) b r ∧ a r_around r = o) ∧ ∀ i, b ≤ i → i < b + sp_z (.tag c x) → (a r_thereBefore i = thOf sc ∧ a r_thereAfter i = thOf sc)
  | .append x y, b, o, pt, sc => BlkS a W x b o pt sc ∧ BlkS a W y (b + sp_z x) o pt (scA sc x)
  | _, _, _, _, _ => True
/-- what the reading of statements leaves as it is -/
def sIn (b k V s j i : Nat) : Prop := ((3 ≤ j ∧ j ≤ 17) ∨ j = 42 → i < b) ∧ (37 ≤ j ∧ j ≤ 39 → i < k) ∧ (20 ≤ j ∧ j ≤ 22 → i < V) ∧ (j = 24 → i < s) ∧ ¬ (j = 23 ∨ j = 29 ∨ j = 30 ∨ j = 32)
def Fs (a a' : Nat → Nat → Int32) (b k V s : Nat) : Prop := ∀ j i, sIn b k V s j i → a' j i = a j i
theorem Fs_refl (a : Nat → Nat → Int32) (b k V s : Nat) : Fs a a b k V s := fun _ _ _ => rfl
theorem sIn_le {b k V s b' k' V' s' j i : Nat} (hb : b ≤ b') (hk : k ≤ k') (hV : V ≤ V') (hs : s ≤ s') (h : sIn b k V s j i) : sIn b' k' V' s' j i := ⟨fun q => by have := h.1 q; omega, fun q => by have := h.2.1 q; omega, fun q => by have := h.2.2.1 q; omega, fun q => by have := h.2.2.2.1 q; omega, h.2.2.2.2⟩
theorem Fs_trans {a a' a'' : Nat → Nat → Int32} {b k V s b' k' V' s' : Nat} (h1 : Fs a a' b k V s) (h2 : Fs a' a'' b' k' V' s') (hb : b ≤ b') (hk : k ≤ k') (hV : V ≤ V') (hs : s ≤ s') : Fs a a'' b k V s := fun j i h => (h2 j i (sIn_le hb hk hV hs h)).trans (h1 j i h)
theorem Fs_le {a a' : Nat → Nat → Int32} {b k V s b' k' V' s' : Nat} (h2 : Fs a a' b' k' V' s') (hb : b ≤ b') (hk : k ≤ k') (hV : V ≤ V') (hs : s ≤ s') : Fs a a' b k V s := fun j i h => h2 j i (sIn_le hb hk hV hs h)
theorem Fs_up {a a' : Nat → Nat → Int32} {b k V s j i : Nat} (h : Fs a a' b k V s) (x : Int32) (hn : ¬ sIn b k V s j i) : Fs a (up2 a' j i x) b k V s := fun j' i' h' => (up2_ne a' x (fun q => hn (by rw [← q.1, ← q.2]; exact h'))).trans (h j' i' h')
theorem Fs_nd {a a' : Nat → Nat → Int32} {b k V s i j : Nat} (h : Fs a a' b k V s) (x : Int32) (hj : (3 ≤ j ∧ j ≤ 17) ∨ j = 42) (hi : b ≤ i) : Fs a (up2 a' j i x) b k V s := Fs_up h x (fun q => by have := q.1 hj; omega)
theorem Fs_op {a a' : Nat → Nat → Int32} {b k V s i j : Nat} (h : Fs a a' b k V s) (x : Int32) (hj : 37 ≤ j ∧ j ≤ 39) (hi : k ≤ i) : Fs a (up2 a' j i x) b k V s := Fs_up h x (fun q => by have := q.2.1 hj; omega)
theorem Fs_vr {a a' : Nat → Nat → Int32} {b k V s i j : Nat} (h : Fs a a' b k V s) (x : Int32) (hj : 20 ≤ j ∧ j ≤ 22) (hi : V ≤ i) : Fs a (up2 a' j i x) b k V s := Fs_up h x (fun q => by have := q.2.2.1 hj; omega)
theorem Fs_sc {a a' : Nat → Nat → Int32} {b k V s i : Nat} (h : Fs a a' b k V s) (x : Int32) (hi : s ≤ i) : Fs a (up2 a' r_scope i x) b k V s := Fs_up h x (fun q => by have := q.2.2.2.1 rfl; omega)
theorem Fs_nm {a a' : Nat → Nat → Int32} {b k V s : Nat} (h : Fs a a' b k V s) (f : Nat → Int32) : Fs a (upa a' r_named f) b k V s := fun j i q => by
  unfold upa
  rw [if_neg (fun e => q.2.2.2.2 (Or.inl e))]
  exact h j i q
theorem Fs_Fr {a a' : Nat → Nat → Int32} {b k V s : Nat} (h : Fr a a' b 0 0) : Fs a a' b k V s := fun j i q => h j i ⟨fun e => absurd e (by have := q.2.2.2.2; omega), fun e => absurd e (by have := q.2.2.2.2; omega), fun e => q.1 (Or.inl e)⟩
theorem Fs_row {a a' : Nat → Nat → Int32} {b k V s i j : Nat} (h : Fs a a' b k V s) (hj : (3 ≤ j ∧ j ≤ 17) ∨ j = 42) (hi : i < b) : a' j i = a j i := h j i ⟨fun _ => hi, fun q => by omega, fun q => by omega, fun q => by omega, by omega⟩
theorem Fs_st {a a' : Nat → Nat → Int32} {b k V s i j : Nat} (h : Fs a a' b k V s) (hj : 37 ≤ j ∧ j ≤ 39) (hi : i < k) : a' j i = a j i := h j i ⟨fun q => by omega, fun _ => hi, fun q => by omega, fun q => by omega, by omega⟩
theorem Fs_var {a a' : Nat → Nat → Int32} {b k V s i j : Nat} (h : Fs a a' b k V s) (hj : 20 ≤ j ∧ j ≤ 22) (hi : i < V) : a' j i = a j i := h j i ⟨fun q => by omega, fun q => by omega, fun _ => hi, fun q => by omega, by omega⟩
theorem Fs_scope {a a' : Nat → Nat → Int32} {b k V s i : Nat} (h : Fs a a' b k V s) (hi : i < s) : a' r_scope i = a r_scope i := h 24 i ⟨fun q => by omega, fun q => by omega, fun q => by omega, fun _ => hi, by omega⟩
theorem Fs_oth {a a' : Nat → Nat → Int32} {b k V s j : Nat} (h : Fs a a' b k V s) (hj : ¬ ((3 ≤ j ∧ j ≤ 17) ∨ j = 42 ∨ (37 ≤ j ∧ j ≤ 39) ∨ (20 ≤ j ∧ j ≤ 24) ∨ j = 29 ∨ j = 30 ∨ j = 32)) : a' j = a j := funext fun i => h j i ⟨fun q => by omega, fun q => by omega, fun q => by omega, fun q => by omega, by omega⟩
theorem Blk_Fs {a a' : Nat → Nat → Int32} {b k V s b0 r : Nat} {u : Std.Format} (h : Fs a a' b k V s) (hb : b0 + sp_z u ≤ b) (hB : Blk a u b0 r) : Blk a' u b0 r := Blk_same (sp_z u) u (Nat.le_refl _) b0 r (fun i _ h2 => ⟨⟨Fs_row h (by decide) (by omega), Fs_row h (by decide) (by omega)⟩, ⟨Fs_row h (by decide) (by omega), Fs_row h (by decide) (by omega)⟩, fun _ => Fs_row h (by decide) (by omega)⟩) hB
theorem ndS_Fs {a a' : Nat → Nat → Int32} {b k V s W i c : Nat} {o : Int32} {sc : sc_T} (h : Fs a a' b k V s) (hi : i < b) (hW : W ≤ V) (hn : ndS a W i c o sc) : ndS a' W i c o sc := by
  obtain ⟨⟨⟨h1, h2⟩, ⟨h3, h4⟩, h5, h6⟩, h7, h8, h9, h10⟩ := hn
  refine ⟨⟨⟨(Fs_row h (by decide) hi).trans h1, (Fs_row h (by decide) hi).trans h2⟩, ⟨(Fs_row h (by decide) hi).trans h3, (Fs_row h (by decide) hi).trans h4⟩, (Fs_row h (by decide) hi).trans h5, (Fs_row h (by decide) hi).trans h6⟩, fun q => ?_, fun q => ⟨(Fs_row h (by decide) hi).trans (h8 q).1, (Fs_row h (by decide) hi).trans (h8 q).2⟩, fun q => ⟨(h9 q).1, (Fs_row h (by decide) hi).trans (h9 q).2⟩, fun q => ⟨(Fs_row h (by decide) hi).trans (h10 q).1, (Fs_row h (by decide) hi).trans (h10 q).2⟩⟩
  obtain ⟨⟨k1, k1'⟩, ⟨k2, k3⟩, k4, k5, k6⟩ := h7 q
  exact ⟨⟨k1, k1'⟩, ⟨(Fs_row h (by decide) hi).trans k2, (Fs_row h (by decide) hi).trans k3⟩, (Fs_var h (by decide) (by omega)).trans k4, (Fs_var h (by decide) (by omega)).trans k5, (Fs_var h (by decide) (by omega)).trans k6⟩
theorem ndS_W {a : Nat → Nat → Int32} {W W' i c : Nat} {o : Int32} {sc : sc_T} (hW : W ≤ W') (hn : ndS a W i c o sc) : ndS a W' i c o sc := by
  obtain ⟨h1, h7, h8⟩ := hn
  exact ⟨h1, fun q => ⟨⟨by have := (h7 q).1; omega, (h7 q).1.2⟩, (h7 q).2⟩, h8⟩
theorem BlkS_mono {a a' : Nat → Nat → Int32} {B k V s W W' : Nat} (h : Fs a a' B k V s) (hW : W ≤ V) (hW' : W ≤ W') : ∀ (N : Nat) (t : Std.Format), SizeOf.sizeOf t < N → ∀ (b : Nat) (o : Int32) (pt : Nat) (sc : sc_T), b + sp_z t ≤ B → BlkS a W t b o pt sc → BlkS a' W' t b o pt sc := by
  intro N
  induction N with
  | zero => intro t ht; omega
  | succ N ih =>
    intro t ht b o pt sc hb hB
    cases t with
    | append x y =>
      simp only [sp_z] at hb
      simp at ht
      exact ⟨ih x (by omega) b o pt sc (by omega) hB.1, ih y (by omega) _ o pt _ (by omega) hB.2⟩
    | tag c x =>
      simp only [sp_z] at hb
      simp at ht
      unfold BlkS at hB ⊢
      by_cases hs : stS (sp_s c)
      · rw [if_pos hs] at hB ⊢
        obtain ⟨⟨h1, h2, h3⟩, h4⟩ := hB
        refine ⟨⟨ndS_W hW' (ndS_Fs h (by omega) hW h1), h2.imp_right (fun e => (Fs_row h (by decide) (by omega)).trans e), fun e => ?_⟩, ?_⟩
        · rw [Fs_row h (j := r_tailMarked) (by decide) (by omega), Fs_row h (j := r_hasOther) (by decide) (by omega)]
          exact h3 e
        · by_cases h84 : sp_s c = 84
          · rw [if_pos h84] at h4 ⊢
            cases x with
            | append u v =>
              cases v with
              | append v w =>
                simp only [sp_z] at hb
                simp at ht
                exact ⟨ih u (by omega) _ _ _ _ (by omega) h4.1, ih v (by omega) _ _ _ _ (by omega) h4.2.1, ih w (by omega) _ _ _ _ (by omega) h4.2.2⟩
              | _ => exact h4.elim
            | _ => exact h4.elim
          · rw [if_neg h84] at h4 ⊢
            exact ih x (by omega) _ _ _ _ (by omega) h4
      · rw [if_neg hs] at hB ⊢
        obtain ⟨r, ⟨h1, h2⟩, h3⟩ := hB
        have hr := Blk_root h1
        simp only [sp_z] at hr h3
        refine ⟨r, ⟨Blk_Fs h (by simp only [sp_z]; omega) h1, (Fs_row h (by decide) (by omega)).trans h2⟩, fun i i1 i2 => ?_⟩
        simp only [sp_z] at i2
        exact ⟨(Fs_row h (by decide) (by omega)).trans (h3 i i1 i2).1, (Fs_row h (by decide) (by omega)).trans (h3 i i1 i2).2⟩
    | _ => trivial
