theorem up2_eq (a : Nat → Nat → Int32) (j i : Nat) (x : Int32) : up2 a j i x j i = x := by simp [up2, upa, upd]
theorem up2_ne (a : Nat → Nat → Int32) {j i j' i' : Nat} (x : Int32) (h : ¬ (j' = j ∧ i' = i)) : up2 a j i x j' i' = a j' i' := by
  unfold up2 upa upd
  by_cases e : j' = j
  · rw [if_pos e]
    rw [if_neg (fun q => h ⟨e, q⟩), e]
  · rw [if_neg e]
/-- which elements of the rows a reading from b, k, t on leaves as they are -/
def fIn (b k t j i : Nat) : Prop := ((j = 29 ∨ j = 30) → i < k) ∧ (j = 32 → i < t) ∧ (3 ≤ j ∧ j ≤ 17 → i < b)
def Fr (a a' : Nat → Nat → Int32) (b k t : Nat) : Prop := ∀ j i, fIn b k t j i → a' j i = a j i
theorem Fr_refl (a : Nat → Nat → Int32) (b k t : Nat) : Fr a a b k t := fun _ _ _ => rfl
theorem Fr_trans {a a' a'' : Nat → Nat → Int32} {b k t b' k' t' : Nat} (h1 : Fr a a' b k t) (h2 : Fr a' a'' b' k' t') (hb : b ≤ b') (hk : k ≤ k') (ht : t ≤ t') : Fr a a'' b k t := fun j i h => (h2 j i ⟨fun q => by have := h.1 q; omega, fun q => by have := h.2.1 q; omega, fun q => by have := h.2.2 q; omega⟩).trans (h1 j i h)
theorem Fr_le {a a' : Nat → Nat → Int32} {b k t b' k' t' : Nat} (h2 : Fr a a' b' k' t') (hb : b ≤ b') (hk : k ≤ k') (ht : t ≤ t') : Fr a a' b k t := Fr_trans (Fr_refl a b k t) h2 hb hk ht
theorem Fr_up {a a' : Nat → Nat → Int32} {b k t j i : Nat} (h : Fr a a' b k t) (x : Int32) (hn : ¬ fIn b k t j i) : Fr a (up2 a' j i x) b k t := fun j' i' h' => (up2_ne a' x (fun q => hn (by rw [← q.1, ← q.2]; exact h'))).trans (h j' i' h')
theorem Fr_op {a a' : Nat → Nat → Int32} {b k t i : Nat} (h : Fr a a' b k t) (x : Int32) (hi : k ≤ i) : Fr a (up2 a' r_opSign i x) b k t := Fr_up h x (fun q => by have := q.1 (Or.inl rfl); omega)
theorem Fr_on {a a' : Nat → Nat → Int32} {b k t i : Nat} (h : Fr a a' b k t) (x : Int32) (hi : k ≤ i) : Fr a (up2 a' r_opNode i x) b k t := Fr_up h x (fun q => by have := q.1 (Or.inr rfl); omega)
theorem Fr_dn {a a' : Nat → Nat → Int32} {b k t i : Nat} (h : Fr a a' b k t) (x : Int32) (hi : t ≤ i) : Fr a (up2 a' r_done i x) b k t := Fr_up h x (fun q => by have := q.2.1 rfl; omega)
theorem Fr_nd {a a' : Nat → Nat → Int32} {b k t i j : Nat} (h : Fr a a' b k t) (x : Int32) (h3 : 3 ≤ j) (h17 : j ≤ 17) (hi : b ≤ i) : Fr a (up2 a' j i x) b k t := Fr_up h x (fun q => by have := q.2.2 ⟨h3, h17⟩; omega)
theorem Fr_node {a a' : Nat → Nat → Int32} {b k t b' : Nat} (h : Fr a a' b k t) (hb : b ≤ b') (s f st th : Int32) : Fr a (r_nodeA a' b' s f st th) b k t := by
  unfold r_nodeA
  exact Fr_nd (Fr_nd (Fr_nd (Fr_nd (Fr_nd (Fr_nd (Fr_nd (Fr_nd (Fr_nd (Fr_nd (Fr_nd (Fr_nd (Fr_nd (Fr_nd (Fr_nd h _ (by decide) (by decide) hb) _ (by decide) (by decide) hb) _ (by decide) (by decide) hb) _ (by decide) (by decide) hb) _ (by decide) (by decide) hb) _ (by decide) (by decide) hb) _ (by decide) (by decide) hb) _ (by decide) (by decide) hb) _ (by decide) (by decide) hb) _ (by decide) (by decide) hb) _ (by decide) (by decide) hb) _ (by decide) (by decide) hb) _ (by decide) (by decide) hb) _ (by decide) (by decide) hb) _ (by decide) (by decide) hb
theorem Fr_row {a a' : Nat → Nat → Int32} {b k t j i : Nat} (h : Fr a a' b k t) (h3 : 3 ≤ j) (h17 : j ≤ 17) (hi : i < b) : a' j i = a j i := h j i ⟨fun q => by omega, fun q => by omega, fun _ => hi⟩
theorem Fr_sign {a a' : Nat → Nat → Int32} {b k t i : Nat} (h : Fr a a' b k t) (hi : i < k) : a' r_opSign i = a r_opSign i := h 29 i ⟨fun _ => hi, fun q => by omega, fun q => by omega⟩
theorem Fr_onode {a a' : Nat → Nat → Int32} {b k t i : Nat} (h : Fr a a' b k t) (hi : i < k) : a' r_opNode i = a r_opNode i := h 30 i ⟨fun _ => hi, fun q => by omega, fun q => by omega⟩
theorem Fr_done {a a' : Nat → Nat → Int32} {b k t i : Nat} (h : Fr a a' b k t) (hi : i < t) : a' r_done i = a r_done i := h 32 i ⟨fun q => by omega, fun _ => hi, fun q => by omega⟩
theorem Fr_oth {a a' : Nat → Nat → Int32} {b k t j : Nat} (h : Fr a a' b k t) (hj : ¬ (j = 29 ∨ j = 30 ∨ j = 32 ∨ (3 ≤ j ∧ j ≤ 17))) : a' j = a j := funext fun i => h j i ⟨fun q => by omega, fun q => by omega, fun q => by omega⟩
theorem ndF_Fr {a a' : Nat → Nat → Int32} {b k t i c : Nat} (h : Fr a a' b k t) (hi : i < b) (hf : ndF a i c) : ndF a' i c := ⟨⟨(Fr_row h (by decide) (by decide) hi).trans hf.1.1, (Fr_row h (by decide) (by decide) hi).trans hf.1.2⟩, (Fr_row h (by decide) (by decide) hi).trans hf.2.1, (Fr_row h (by decide) (by decide) hi).trans hf.2.2⟩
theorem Blk_Fr {a a' : Nat → Nat → Int32} {b k t b0 r : Nat} {u : Std.Format} (h : Fr a a' b k t) (hb : b0 + sp_z u ≤ b) (hB : Blk a u b0 r) : Blk a' u b0 r := Blk_same (sp_z u) u (Nat.le_refl _) b0 r (fun i _ h2 => ⟨⟨Fr_row h (by decide) (by decide) (by omega), Fr_row h (by decide) (by decide) (by omega)⟩, ⟨Fr_row h (by decide) (by decide) (by omega), Fr_row h (by decide) (by decide) (by omega)⟩, fun _ => Fr_row h (by decide) (by decide) (by omega)⟩) hB
theorem Blk_ar {a : Nat → Nat → Int32} {u : Std.Format} {b r i : Nat} (x : Int32) (h : Blk a u b r) (hi : i < b ∨ b + sp_z u ≤ i ∨ i = r) : Blk (up2 a r_around i x) u b r := Blk_same (sp_z u) u (Nat.le_refl _) b r (fun j _ _ => ⟨⟨up2_ne a x (fun q => absurd q.1 (by decide)), up2_ne a x (fun q => absurd q.1 (by decide))⟩, ⟨up2_ne a x (fun q => absurd q.1 (by decide)), up2_ne a x (fun q => absurd q.1 (by decide))⟩, fun hj => up2_ne a x (fun q => by have := q.2; omega)⟩) h
theorem Blk_dn {a : Nat → Nat → Int32} {u : Std.Format} {b r i : Nat} (x : Int32) (h : Blk a u b r) : Blk (up2 a r_done i x) u b r := Blk_same (sp_z u) u (Nat.le_refl _) b r (fun j _ _ => ⟨⟨up2_ne a x (fun q => absurd q.1 (by decide)), up2_ne a x (fun q => absurd q.1 (by decide))⟩, ⟨up2_ne a x (fun q => absurd q.1 (by decide)), up2_ne a x (fun q => absurd q.1 (by decide))⟩, fun hj => up2_ne a x (fun q => absurd q.1 (by decide))⟩) h
/-- the node r of the root of a tree waits in done t; all its nodes see the same variables -/
def Cln (th : Int32) (a : Nat → Nat → Int32) (u : Std.Format) (b t r : Nat) : Prop := (Blk a u b r ∧ a r_done t = nI r) ∧ ∀ i, b ≤ i → i < b + sp_z u → (a r_thereBefore i = th ∧ a r_thereAfter i = th)
def okf (lev : Nat) (x y z : Int32) : Prop := (lev ≤ 3 → ¬ x = 0) ∧ (lev ≤ 2 → ¬ y = 0) ∧ (lev ≤ 1 → ¬ z = 0)
/-- a tree is read, from b, k, t, z on; some of its operators may wait still (K, T, Z); reduceWhile takes them to its root -/
def Pnd (th : Int32) (lev : Nat) (a : Nat → Nat → Int32) (u : Std.Format) (b k t z K T Z : Nat) : Prop :=
  ((k ≤ K ∧ K ≤ 92) ∧ ∀ i, k ≤ i → i < K → (a r_opSign i = 38 ∨ a r_opSign i = 124 ∨ a r_opSign i = 61 ∨ a r_opSign i = 58)) ∧ ∃ (a1 : Nat → Nat → Int32) (r : Nat), (Fr a a1 b k t ∧ Cln th a1 u b t r) ∧ ∀ (d : Nat) (x y w : Int32), okf lev x y w → ∀ (m : Nat → Int32) (p B : Nat) (m' : Nat → Int32) (a' : Nat → Nat → Int32), rwG d x y w (em m p B k (t + 1) z) a1 m' a' → rwG d x y w (em m p B K T Z) a m' a'
theorem Pnd_of {th : Int32} {lev : Nat} {a : Nat → Nat → Int32} {u : Std.Format} {b k t z r : Nat} (hk : k ≤ 92) (h : Cln th a u b t r) : Pnd th lev a u b k t z k (t + 1) z := ⟨⟨⟨Nat.le_refl _, hk⟩, fun i h1 h2 => absurd h2 (by omega)⟩, a, r, ⟨Fr_refl a b k t, h⟩, fun _ _ _ _ _ _ _ _ _ _ h => h⟩
theorem Pnd_mono {th : Int32} {lev lev' : Nat} {a : Nat → Nat → Int32} {u : Std.Format} {b k t z K T Z : Nat} (hl : lev' ≤ lev) (h : Pnd th lev a u b k t z K T Z) : Pnd th lev' a u b k t z K T Z := by
  obtain ⟨h1, a1, r, h2, h3⟩ := h
  exact ⟨h1, a1, r, h2, fun d x y w hok => h3 d x y w ⟨fun q => hok.1 (by omega), fun q => hok.2.1 (by omega), fun q => hok.2.2 (by omega)⟩⟩
abbrev eTop (a : Nat → Nat → Int32) (k : Nat) : Int32 := if k = 0 then -1 else a r_opSign (k - 1)
theorem eTop_Fr {a a' : Nat → Nat → Int32} {b k t k' : Nat} (h : Fr a a' b k t) (hk : k' ≤ k) : eTop a' k' = eTop a k' := by
  unfold eTop
  by_cases e : k' = 0
  · rw [if_pos e, if_pos e]
  · rw [if_neg e, if_neg e, Fr_sign h (by omega)]
theorem Pnd_rw {th : Int32} {lev : Nat} {a : Nat → Nat → Int32} {u : Std.Format} {b k t z K T Z : Nat} {x y w : Int32} (h : Pnd th lev a u b k t z K T Z) (hok : okf lev x y w) (hst : ¬ rw_c x y w (eTop a k)) : ∃ (a1 : Nat → Nat → Int32) (r : Nat), (Fr a a1 b k t ∧ Cln th a1 u b t r) ∧ ∀ (d : Nat) (m : Nat → Int32) (p B : Nat), rwTo d x y w (em m p B K T Z) a (em m p B k (t + 1) z) a1 := by
  obtain ⟨h1, a1, r, h2, h3⟩ := h
  refine ⟨a1, r, h2, fun d m p B => rwG_to (h3 d x y w hok m p B _ _ (rwG_stop d x y w m a1 (by omega) ?_))⟩
  have e := eTop_Fr h2.1 (Nat.le_refl k)
  unfold eTop at e hst
  rw [e]
  exact hst
theorem Pnd_top {th : Int32} {lev : Nat} {a : Nat → Nat → Int32} {u : Std.Format} {b k t z K T Z : Nat} (h : Pnd th lev a u b k t z K T Z) (hst : ¬ eTop a k = 33) : ¬ eTop a K = 33 := by
  obtain ⟨⟨⟨h1, h2⟩, h3⟩, -⟩ := h
  by_cases e : K = k
  · rw [e]; exact hst
  · unfold eTop
    rw [if_neg (by omega)]
    rcases h3 (K - 1) (by omega) (by omega) with q | q | q | q <;> rw [q] <;> decide
theorem wts_succ (f : Nat → Int32) (s : Int32) (k : Nat) : wts f s (k + 1) = if f k = s then 1 else if f k = 40 ∨ f k = 63 then 0 else wts f s k := rfl
theorem Pnd_wts {th : Int32} {lev : Nat} {a : Nat → Nat → Int32} {u : Std.Format} {b k t z K T Z : Nat} (h : Pnd th lev a u b k t z K T Z) {s : Int32} (hs : s = 40 ∨ s = 63) : wts (a r_opSign) s K = wts (a r_opSign) s k := by
  obtain ⟨⟨⟨h1, -⟩, h3⟩, -⟩ := h
  have key : ∀ j, k + j ≤ K → wts (a r_opSign) s (k + j) = wts (a r_opSign) s k := by
    intro j
    induction j with
    | zero => intro _; rfl
    | succ j ih =>
      intro hj
      rw [show k + (j + 1) = k + j + 1 from rfl, wts_succ]
      have hq := h3 (k + j) (by omega) (by omega)
      rw [if_neg (by rcases hs with rfl | rfl <;> rcases hq with q | q | q | q <;> rw [q] <;> decide), if_neg (by rcases hq with q | q | q | q <;> rw [q] <;> decide)]
      exact ih (by omega)
  have := key (K - k) (by omega)
  rw [show k + (K - k) = K by omega] at this
  exact this
