/-! the class's rows of an e -/
def ndC (a : Nat → Nat → Int32) (i c e : Nat) : Prop := (a c_P_sort i = nI (sp_s c) ∧ a c_P_first i = nI (sp_f c)) ∧ (a c_P_named i = nI (sp_v c) - 1 ∧ a c_P_end i = nI e)
def PrE (a : Nat → Nat → Int32) : Std.Format → Nat → Prop
  | .tag c x, b => ndC a b c (b + 1 + sp_z x) ∧ PrE a x (b + 1)
  | .append x y, b => PrE a x b ∧ PrE a y (b + sp_z x)
  | _, _ => True
theorem PrE_shift {a a' : Nat → Nat → Int32} : ∀ (u : Std.Format) (b b' : Nat), (∀ i, b ≤ i → i < b + sp_z u → (a' c_P_sort (i + 1) = a c_P_sort i ∧ a' c_P_first (i + 1) = a c_P_first i) ∧ (a' c_P_named (i + 1) = a c_P_named i ∧ a' c_P_end (i + 1) = a c_P_end i + 1)) → b' = b + 1 → PrE a u b → PrE a' u b' := by
  intro u
  induction u with
  | tag c x ih =>
    intro b b' h hb hP
    subst hb
    simp only [sp_z] at h
    obtain ⟨⟨⟨h1, h2⟩, h3, h4⟩, h5⟩ := hP
    have h0 := h b (Nat.le_refl _) (by omega)
    refine ⟨⟨⟨h0.1.1.trans h1, h0.1.2.trans h2⟩, h0.2.1.trans h3, ?_⟩, ih (b + 1) (b + 1 + 1) (fun i i1 i2 => h i (by omega) (by omega)) rfl h5⟩
    rw [h0.2.2, h4, nI_1]
    congr 1
    omega
  | append x y ihx ihy =>
    intro b b' h hb hP
    subst hb
    simp only [sp_z] at h
    exact ⟨ihx b (b + 1) (fun i i1 i2 => h i i1 (by omega)) rfl hP.1, ihy (b + sp_z x) (b + 1 + sp_z x) (fun i i1 i2 => h i (by omega) (by omega)) (by omega) hP.2⟩
  | _ => intro _ _ _ _ _; trivial
theorem PrE_same {a a' : Nat → Nat → Int32} : ∀ (u : Std.Format) (b : Nat), (∀ i, b ≤ i → i < b + sp_z u → (a' c_P_sort i = a c_P_sort i ∧ a' c_P_first i = a c_P_first i) ∧ (a' c_P_named i = a c_P_named i ∧ a' c_P_end i = a c_P_end i)) → PrE a u b → PrE a' u b := by
  intro u
  induction u with
  | tag c x ih =>
    intro b h hP
    simp only [sp_z] at h
    obtain ⟨⟨⟨h1, h2⟩, h3, h4⟩, h5⟩ := hP
    have h0 := h b (Nat.le_refl _) (by omega)
    exact ⟨⟨⟨h0.1.1.trans h1, h0.1.2.trans h2⟩, h0.2.1.trans h3, h0.2.2.trans h4⟩, ih (b + 1) (fun i i1 i2 => h i (by omega) (by omega)) h5⟩
  | append x y ihx ihy =>
    intro b h hP
    simp only [sp_z] at h
    exact ⟨ihx b (fun i i1 i2 => h i i1 (by omega)) hP.1, ihy (b + sp_z x) (fun i i1 i2 => h i (by omega) (by omega)) hP.2⟩
  | _ => intro _ _ _; trivial
theorem PrE_first {a : Nat → Nat → Int32} {u : Std.Format} {b : Nat} (hu : sp_ok u) (h : PrE a u b) : a c_P_first b = nI (sp_1 u) := by
  cases u with
  | tag c x => exact h.1.1.2
  | _ => exact hu.elim
/-- how often a VARIABLE is used, assigned in an e -/
def cU (v : Nat) : Std.Format → Nat
  | .tag c x => (if sp_v c = v + 1 ∧ ¬ sp_s c = 61 then 1 else 0) + cU v x
  | .append x y => cU v x + cU v y
  | _ => 0
def cA (v : Nat) : Std.Format → Nat
  | .tag c x => (if sp_v c = v + 1 ∧ sp_s c = 61 then 1 else 0) + cA v x
  | .append x y => cA v x + cA v y
  | _ => 0
/-- what an e's reading leaves as it is -/
def cIn (b j i : Nat) : Prop := ((2 ≤ j ∧ j ≤ 6) ∨ (11 ≤ j ∧ j ≤ 15) → i < b) ∧ ¬ (j = 23 ∨ j = 24)
def Ce (a a' : Nat → Nat → Int32) (b : Nat) : Prop := ∀ j i, cIn b j i → a' j i = a j i
def Cm (m m' : Nat → Int32) : Prop := ∀ j, ¬ (j = 4 ∨ j = 7 ∨ j = 8) → m' j = m j
theorem Ce_refl (a : Nat → Nat → Int32) (b : Nat) : Ce a a b := fun _ _ _ => rfl
theorem Ce_trans {a a' a'' : Nat → Nat → Int32} {b b' : Nat} (h : Ce a a' b) (h2 : Ce a' a'' b') (hb : b ≤ b') : Ce a a'' b := fun j i q => (h2 j i ⟨fun w => by have := q.1 w; omega, q.2⟩).trans (h j i q)
theorem Ce_up {a a' : Nat → Nat → Int32} {b j i : Nat} (h : Ce a a' b) (x : Int32) (hj : (2 ≤ j ∧ j ≤ 6) ∨ (11 ≤ j ∧ j ≤ 15)) (hi : b ≤ i) : Ce a (up2 a' j i x) b := fun j' i' q => (up2_ne _ _ (fun e => by have := q.1 (by rw [e.1]; exact hj); omega)).trans (h j' i' q)
theorem Ce_us {a a' : Nat → Nat → Int32} {b j i : Nat} (h : Ce a a' b) (x : Int32) (hj : j = 23 ∨ j = 24) : Ce a (up2 a' j i x) b := fun j' i' q => (up2_ne _ _ (fun e => q.2 (by rw [e.1]; exact hj))).trans (h j' i' q)
theorem Ce_ap {a a' : Nat → Nat → Int32} {b b' : Nat} (h : Ce a a' b) (hb : b ≤ b') (s f v th : Int32) : Ce a (apA a' b' s f v th) b := by
  unfold apA
  exact Ce_up (Ce_up (Ce_up (Ce_up (Ce_up (Ce_up (Ce_up (Ce_up (Ce_up (Ce_up h _ (by decide) hb) _ (by decide) hb) _ (by decide) hb) _ (by decide) hb) _ (by decide) hb) _ (by decide) hb) _ (by decide) hb) _ (by decide) hb) _ (by decide) hb) _ (by decide) hb
theorem Ce_row {a a' : Nat → Nat → Int32} {b j i : Nat} (h : Ce a a' b) (hj : ¬ (j = 23 ∨ j = 24)) (hi : i < b) : a' j i = a j i := h j i ⟨fun _ => hi, hj⟩
theorem Ce_oth {a a' : Nat → Nat → Int32} {b j : Nat} (h : Ce a a' b) (hj : ¬ ((2 ≤ j ∧ j ≤ 6) ∨ (11 ≤ j ∧ j ≤ 15) ∨ j = 23 ∨ j = 24)) : a' j = a j := funext fun i => h j i ⟨fun q => by omega, by omega⟩
theorem Cm_refl (m : Nat → Int32) : Cm m m := fun _ _ => rfl
theorem Cm_trans {m m' m'' : Nat → Int32} (h : Cm m m') (h2 : Cm m' m'') : Cm m m'' := fun j q => (h2 j q).trans (h j q)
theorem Cm_up {m m' : Nat → Int32} {k : Nat} (h : Cm m m') (x : Int32) (hk : k = 4 ∨ k = 7 ∨ k = 8) : Cm m (upd m' k x) := fun j q => by
  unfold upd
  rw [if_neg (fun e => q (by rw [e]; exact hk))]
  exact h j q
/-- the rows that are alike for all PLACES of one e -/
def unf (a : Nat → Nat → Int32) (th : Int32) (i : Nat) : Prop := (a c_P_there i = th ∧ a c_P_target i = -1) ∧ (a c_P_catchFrom i = -1 ∧ a c_P_finallyFrom i = -1) ∧ (a c_P_isEntered i = 0 ∧ a c_P_isSkipped i = 0)
theorem unf_Ce {a a' : Nat → Nat → Int32} {th : Int32} {b i : Nat} (h : Ce a a' b) (hi : i < b) (hu : unf a th i) : unf a' th i := ⟨⟨(Ce_row h (by decide) hi).trans hu.1.1, (Ce_row h (by decide) hi).trans hu.1.2⟩, ⟨(Ce_row h (by decide) hi).trans hu.2.1.1, (Ce_row h (by decide) hi).trans hu.2.1.2⟩, (Ce_row h (by decide) hi).trans hu.2.2.1, (Ce_row h (by decide) hi).trans hu.2.2.2⟩
theorem PrE_Ce {a a' : Nat → Nat → Int32} {u : Std.Format} {b B : Nat} (h : Ce a a' B) (hb : b + sp_z u ≤ B) (hP : PrE a u b) : PrE a' u b := PrE_same u b (fun i _ i2 => ⟨⟨Ce_row h (by decide) (by omega), Ce_row h (by decide) (by omega)⟩, Ce_row h (by decide) (by omega), Ce_row h (by decide) (by omega)⟩) hP
