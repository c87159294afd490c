/-- the reference's numbers of a forest's nodes, in the order of the tree -/
def idL : Std.Format → Nat → List Nat
  | .tag c x, b => if stS (sp_s c) then b :: idL x (b + 1) else (match x with
    | .append u v => (b + sp_z u) :: (idL u b ++ idL v (b + sp_z u + 1))
    | x => b :: idL x (b + 1))
  | .append x y, b => idL x b ++ idL y (b + sp_z x)
  | _, _ => []
theorem idL_S {c b : Nat} {x : Std.Format} (h : stS (sp_s c)) : idL (.tag c x) b = b :: idL x (b + 1) := by
  rw [idL.eq_def]
  simp only
  rw [if_pos h]
theorem idL_2 {c b : Nat} {u v : Std.Format} (h : ¬ stS (sp_s c)) : idL (.tag c (.append u v)) b = (b + sp_z u) :: (idL u b ++ idL v (b + sp_z u + 1)) := by
  rw [idL.eq_def]
  simp only
  rw [if_neg h]
theorem idL_1 {c b : Nat} {x : Std.Format} (hx : ¬ ∃ u v, x = .append u v) : idL (.tag c x) b = b :: idL x (b + 1) := by
  rw [idL.eq_def]
  simp only
  by_cases h : stS (sp_s c)
  · rw [if_pos h]
  · rw [if_neg h]
    split
    · next u v => exact absurd ⟨u, v, rfl⟩ hx
    · rfl
theorem idL_a {b : Nat} {x y : Std.Format} : idL (.append x y) b = idL x b ++ idL y (b + sp_z x) := by
  rw [idL.eq_def]
def cnB (f : Nat → Bool) : Nat → Nat → Nat
  | _, 0 => 0
  | b, z + 1 => (if f b then 1 else 0) + cnB f (b + 1) z
theorem cnB_add (f : Nat → Bool) : ∀ (x y b : Nat), cnB f b (x + y) = cnB f b x + cnB f (b + x) y
  | 0, y, b => by rw [Nat.zero_add, Nat.add_zero]; simp only [cnB, Nat.zero_add]
  | x + 1, y, b => by
    have e : x + 1 + y = (x + y) + 1 := by omega
    rw [e]
    simp only [cnB]
    rw [cnB_add f x y (b + 1), show b + 1 + x = b + (x + 1) by omega]
    omega
theorem idL_cnt (f : Nat → Bool) : ∀ (N : Nat) (t : Std.Format), SizeOf.sizeOf t < N → ∀ b, (idL t b).countP f = cnB f b (sp_z t) := by
  intro N
  induction N with
  | zero => intro t ht; omega
  | succ N ih =>
    intro t ht b
    have e1 : ∀ (x : Std.Format), SizeOf.sizeOf x < N → (b :: idL x (b + 1)).countP f = cnB f b (sp_z x + 1) := by
      intro x hx
      rw [List.countP_cons, ih x hx]
      simp only [cnB]
      omega
    cases t with
    | append x y =>
      simp at ht
      rw [idL_a, List.countP_append, ih x (by omega), ih y (by omega)]
      simp only [sp_z]
      rw [cnB_add]
    | tag c x =>
      simp at ht
      by_cases h : stS (sp_s c)
      · rw [idL_S h]; exact e1 x (by omega)
      · by_cases hx : ∃ u v, x = .append u v
        · obtain ⟨u, v, rfl⟩ := hx
          simp at ht
          rw [idL_2 h, List.countP_cons, List.countP_append, ih u (by omega), ih v (by omega)]
          simp only [sp_z]
          rw [show sp_z u + sp_z v + 1 = sp_z u + (sp_z v + 1) by omega, cnB_add]
          simp only [cnB]
          omega
        · rw [idL_1 hx]; exact e1 x (by omega)
    | _ => rw [idL.eq_def]; rfl
theorem cnB_true : ∀ (z b : Nat), cnB (fun _ => true) b z = z
  | 0, _ => rfl
  | z + 1, b => by simp only [cnB]; rw [cnB_true z (b + 1)]; simp; omega
theorem idL_len (t : Std.Format) (b : Nat) : (idL t b).length = sp_z t := by
  have h := idL_cnt (fun _ => true) _ t (Nat.lt_succ_self _) b
  rw [List.countP_true] at h
  rw [h, cnB_true]
theorem cnB_one (i : Nat) : ∀ (z b : Nat), cnB (fun j => decide (j = i)) b z = if b ≤ i ∧ i < b + z then 1 else 0
  | 0, b => by rw [if_neg (by omega)]; rfl
  | z + 1, b => by
    simp only [cnB]
    rw [cnB_one i z (b + 1)]
    by_cases h : b = i
    · rw [if_pos (by simpa using h), if_neg (by omega), if_pos (by omega)]
    · rw [if_neg (by simpa using h)]
      by_cases h2 : b + 1 ≤ i ∧ i < b + 1 + z
      · rw [if_pos h2, if_pos (by omega)]
      · rw [if_neg h2, if_neg (by omega)]
theorem idL_mem {t : Std.Format} {b i : Nat} : i ∈ idL t b ↔ (b ≤ i ∧ i < b + sp_z t) := by
  have h := idL_cnt (fun j => decide (j = i)) _ t (Nat.lt_succ_self _) b
  rw [cnB_one] at h
  by_cases c : b ≤ i ∧ i < b + sp_z t
  · rw [if_pos c] at h
    refine ⟨fun _ => c, fun _ => ?_⟩
    have : 0 < (idL t b).countP (fun j => decide (j = i)) := by omega
    obtain ⟨j, h1, h2⟩ := List.countP_pos_iff.mp this
    have : j = i := by simpa using h2
    rw [← this]; exact h1
  · rw [if_neg c] at h
    refine ⟨fun hm => ?_, fun q => absurd q c⟩
    have := List.countP_eq_zero.mp h i hm
    simp at this
abbrev klt (a b : Nat × Nat) : Prop := a.1 < b.1 ∨ (a.1 = b.1 ∧ a.2 < b.2)
def kyL : Std.Format → Nat → List (Nat × Nat)
  | .tag c x, d => (sp_f c, d) :: kyL x (d + 1)
  | .append x y, d => kyL x d ++ kyL y d
  | _, _ => []
theorem FO_ky : ∀ (t : Std.Format) (lo hi d : Nat), FO t lo hi → (∀ k ∈ kyL t d, lo ≤ k.1 ∧ k.1 < hi ∧ d ≤ k.2) ∧ (kyL t d).Pairwise klt
  | .tag c x, lo, hi, d, h => by
    have i := FO_ky x (sp_f c) hi (d + 1) h.2
    simp only [kyL]
    refine ⟨fun k hk => ?_, List.pairwise_cons.mpr ⟨fun k hk => ?_, i.2⟩⟩
    · rcases List.mem_cons.mp hk with e | e
      · rw [e]; exact ⟨h.1.1, h.1.2, Nat.le_refl _⟩
      · have := i.1 k e; have := h.1; omega
    · have := i.1 k hk
      show sp_f c < k.1 ∨ (sp_f c = k.1 ∧ d < k.2)
      omega
  | .append x y, lo, hi, d, ⟨m, h1, h2⟩ => by
    have i := FO_ky x lo m d h1
    have j := FO_ky y m hi d h2
    have l1 := FO_le x lo m h1
    have l2 := FO_le y m hi h2
    simp only [kyL]
    refine ⟨fun k hk => ?_, List.pairwise_append.mpr ⟨i.2, j.2, fun a ha b hb => ?_⟩⟩
    · rcases List.mem_append.mp hk with e | e
      · have := i.1 k e; omega
      · have := j.1 k e; omega
    · have := i.1 a ha
      have := j.1 b hb
      left; omega
  | .nil, _, _, _, _ => ⟨fun _ h => absurd h List.not_mem_nil, List.Pairwise.nil⟩
  | .line, _, _, _, _ => ⟨fun _ h => absurd h List.not_mem_nil, List.Pairwise.nil⟩
  | .align _, _, _, _, _ => ⟨fun _ h => absurd h List.not_mem_nil, List.Pairwise.nil⟩
  | .text _, _, _, _, _ => ⟨fun _ h => absurd h List.not_mem_nil, List.Pairwise.nil⟩
  | .nest _ _, _, _, _, _ => ⟨fun _ h => absurd h List.not_mem_nil, List.Pairwise.nil⟩
  | .group _ _, _, _, _, _ => ⟨fun _ h => absurd h List.not_mem_nil, List.Pairwise.nil⟩
theorem cnt_pos {A B : List (Nat × Nat)} {k : Nat × Nat} (h : (A ++ k :: B).Pairwise klt) : (A ++ k :: B).countP (fun j => decide (klt j k)) = A.length := by
  rw [List.pairwise_append] at h
  obtain ⟨h1, h2, h3⟩ := h
  rw [List.pairwise_cons] at h2
  rw [List.countP_append, List.countP_cons]
  have e1 : A.countP (fun j => decide (klt j k)) = A.length := List.countP_eq_length.mpr (fun a ha => decide_eq_true (h3 a ha k List.mem_cons_self))
  have e2 : B.countP (fun j => decide (klt j k)) = 0 := List.countP_eq_zero.mpr (fun a ha => by
    have := h2.1 a ha
    simp only [decide_eq_true_eq]
    have this : k.1 < a.1 ∨ (k.1 = a.1 ∧ k.2 < a.2) := this
    show ¬ (a.1 < k.1 ∨ (a.1 = k.1 ∧ a.2 < k.2))
    omega)
  rw [e1, e2, if_neg]
  · omega
  · simp only [decide_eq_true_eq]
    show ¬ (k.1 < k.1 ∨ (k.1 = k.1 ∧ k.2 < k.2))
    omega
def al2 {α β : Type} (R : α → β → Prop) : List α → List β → Prop
  | [], [] => True
  | x :: xs, y :: ys => R x y ∧ al2 R xs ys
  | _, _ => False
theorem al2_app {α β : Type} {R : α → β → Prop} : ∀ {l1 : List α} {m1 : List β} {l2 : List α} {m2 : List β}, al2 R l1 m1 → al2 R l2 m2 → al2 R (l1 ++ l2) (m1 ++ m2)
  | [], [], _, _, _, h => h
  | _ :: _, _ :: _, _, _, h1, h2 => ⟨h1.1, al2_app h1.2 h2⟩
  | [], _ :: _, _, _, h, _ => h.elim
  | _ :: _, [], _, _, h, _ => h.elim
theorem al2_len {α β : Type} {R : α → β → Prop} : ∀ {l : List α} {m : List β}, al2 R l m → l.length = m.length
  | [], [], _ => rfl
  | _ :: _, _ :: _, h => congrArg (· + 1) (al2_len h.2)
  | [], _ :: _, h => h.elim
  | _ :: _, [], h => h.elim
theorem al2_cnt {α β : Type} {R : α → β → Prop} {f : α → Bool} {g : β → Bool} (hf : ∀ x y, R x y → f x = g y) : ∀ {l : List α} {m : List β}, al2 R l m → l.countP f = m.countP g
  | [], [], _ => rfl
  | x :: xs, y :: ys, h => by rw [List.countP_cons, List.countP_cons, al2_cnt hf h.2, hf x y h.1]
  | [], _ :: _, h => h.elim
  | _ :: _, [], h => h.elim
theorem al2_get {α β : Type} {R : α → β → Prop} : ∀ {l : List α} {m : List β}, al2 R l m → ∀ (i : Nat) (x : α), l[i]? = some x → ∃ y, m[i]? = some y ∧ R x y
  | [], [], _, i, x, h => by simp at h
  | a :: xs, b :: ys, h, i, x, hx => by
    cases i with
    | zero => simp at hx; exact ⟨b, by simp, hx ▸ h.1⟩
    | succ i => simp at hx; obtain ⟨y, h1, h2⟩ := al2_get h.2 i x hx; exact ⟨y, by simpa using h1, h2⟩
  | [], _ :: _, h, _, _, _ => h.elim
  | _ :: _, [], h, _, _, _ => h.elim
theorem get_split {α : Type} : ∀ {l : List α} {i : Nat} {x : α}, l[i]? = some x → ∃ A B, l = A ++ x :: B ∧ A.length = i
  | [], _, _, h => by simp at h
  | a :: l, 0, x, h => by simp at h; exact ⟨[], l, by rw [h]; rfl, rfl⟩
  | a :: l, i + 1, x, h => by
    simp at h
    obtain ⟨A, B, h1, h2⟩ := get_split h
    exact ⟨a :: A, B, by rw [h1]; rfl, by rw [List.length_cons, h2]⟩
