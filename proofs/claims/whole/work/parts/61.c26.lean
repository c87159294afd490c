/-- rows that link reads -/
def EdS (a : Nat → Nat → Int32) : Std.Format → Nat → Prop
  | .tag c x, b => ((a c_P_end b = nI (b + 1 + sp_z x) ∧ a c_P_sort b = nI (sp_s c)) ∧ (sp_s c = 84 → (match x with
      | .append u (.append v _) => a c_P_catchFrom b = (if sp_pl c % 2 = 1 then nI (b + 1 + sp_z u) else -1) ∧ a c_P_finallyFrom b = (if sp_pl c / 2 = 1 then nI (b + 1 + sp_z u + sp_z v) else -1)
      | _ => False))) ∧ EdS a x (b + 1)
  | .append x y, b => EdS a x b ∧ EdS a y (b + sp_z x)
  | _, _ => True
def rts : Std.Format → Nat
  | .tag _ _ => 1
  | .append x y => rts x + rts y
  | _ => 0
def lastR : Std.Format → Nat → Nat → Nat
  | .tag _ _, b, _ => b + 1
  | .append x y, b, s => lastR y (b + sp_z x) (lastR x b s)
  | _, _, s => s
/-- what link makes: outer place, part, T around and its part -/
def LkS (a : Nat → Nat → Int32) : Std.Format → Nat → Nat → Nat → Nat → Nat → Bool → Prop
  | .tag c x, b, o, k, ta, tp, _ => ((a c_P_around b = oI o ∧ a c_P_part b = nI k) ∧ (a c_P_tryAround b = oI ta ∧ a c_P_tryPart b = oI tp)) ∧ (if sp_s c = 84 then (match x with
      | .append u (.append v w) => LkS a u (b + 1) (b + 1) 0 (b + 1) 1 true ∧ LkS a v (b + 1 + sp_z u) (b + 1) 1 (b + 1) 2 true ∧ LkS a w (b + 1 + sp_z u + sp_z v) (b + 1) 2 (b + 1) 3 true
      | _ => False) else LkS a x (b + 1) (b + 1) 0 ta tp false)
  | .append x y, b, o, k, ta, tp, md => LkS a x b o k ta tp md ∧ LkS a y (b + sp_z x) o (if md then k else k + rts x) ta tp md
  | _, _, _, _, _, _, _ => True
def FL (a a' : Nat → Nat → Int32) (b : Nat) : Prop := ∀ j i, ((7 ≤ j ∧ j ≤ 10) → i < b) → a' j i = a j i
theorem FL_refl (a : Nat → Nat → Int32) (b : Nat) : FL a a b := fun _ _ _ => rfl
theorem FL_trans {a a' a'' : Nat → Nat → Int32} {b b' : Nat} (h : FL a a' b) (h2 : FL a' a'' b') (hb : b ≤ b') : FL a a'' b :=
  fun j i q => (h2 j i (fun r => Nat.lt_of_lt_of_le (q r) hb)).trans (h j i q)
theorem FL_up {a a' : Nat → Nat → Int32} {b j i : Nat} (h : FL a a' b) (x : Int32) (hj : 7 ≤ j ∧ j ≤ 10) (hi : b ≤ i) : FL a (up2 a' j i x) b := by
  intro j2 i2 q
  rw [up2_no (fun e => by have := q (by rw [e.1]; exact hj); omega)]
  exact h j2 i2 q
theorem FL_oth {a a' : Nat → Nat → Int32} {b j : Nat} (h : FL a a' b) (hj : ¬ (7 ≤ j ∧ j ≤ 10)) : a' j = a j := funext fun i => h j i (fun q => absurd q hj)
theorem FL_lk {a : Nat → Nat → Int32} (p s o : Nat) : FL a (lkA a p s o) p := by
  unfold lkA ltA
  simp only
  split
  · exact FL_up (FL_up (FL_up (FL_up (FL_up (FL_up (FL_up (FL_refl _ _) _ (by decide) (Nat.le_refl _)) _ (by decide) (Nat.le_refl _)) _ (by decide) (Nat.le_refl _)) _ (by decide) (Nat.le_refl _)) _ (by decide) (Nat.le_refl _)) _ (by decide) (Nat.le_refl _)) _ (by decide) (Nat.le_refl _)
  · exact FL_up (FL_up (FL_up (FL_up (FL_refl _ _) _ (by decide) (Nat.le_refl _)) _ (by decide) (Nat.le_refl _)) _ (by decide) (Nat.le_refl _)) _ (by decide) (Nat.le_refl _)
theorem EdS_FL {a a' : Nat → Nat → Int32} {b0 : Nat} (h : FL a a' b0) : ∀ (N : Nat) (t : Std.Format), SizeOf.sizeOf t < N → ∀ b, EdS a t b → EdS a' t b := by
  intro N
  induction N with
  | zero => intro t ht; omega
  | succ N ih =>
    intro t ht b hE
    cases t with
    | append x y => simp at ht; exact ⟨ih x (by omega) b hE.1, ih y (by omega) _ hE.2⟩
    | tag c x =>
      simp at ht
      obtain ⟨⟨⟨h1, h2⟩, h3⟩, h4⟩ := hE
      refine ⟨⟨⟨?_, ?_⟩, fun q => ?_⟩, ih x (by omega) _ h4⟩
      · rw [FL_oth h (by decide)]; exact h1
      · rw [FL_oth h (by decide)]; exact h2
      · have h3 := h3 q
        rw [FL_oth h (j := c_P_catchFrom) (by decide), FL_oth h (j := c_P_finallyFrom) (by decide)]
        exact h3
    | _ => trivial
theorem LkS_FL {a a' : Nat → Nat → Int32} {B : Nat} (h : FL a a' B) : ∀ (N : Nat) (t : Std.Format), SizeOf.sizeOf t < N → ∀ b o k ta tp md, b + sp_z t ≤ B → LkS a t b o k ta tp md → LkS a' t b o k ta tp md := by
  intro N
  induction N with
  | zero => intro t ht; omega
  | succ N ih =>
    intro t ht b o k ta tp md hb hE
    cases t with
    | append x y =>
      simp at ht
      simp only [sp_z] at hb
      exact ⟨ih x (by omega) _ _ _ _ _ _ (by omega) hE.1, ih y (by omega) _ _ _ _ _ _ (by omega) hE.2⟩
    | tag c x =>
      simp at ht
      simp only [sp_z] at hb
      have r := fun j => h j b (fun _ => by omega)
      unfold LkS at hE ⊢
      obtain ⟨⟨⟨h1, h2⟩, h3, h4⟩, h5⟩ := hE
      refine ⟨⟨⟨(r 7).trans h1, (r 8).trans h2⟩, (r 9).trans h3, (r 10).trans h4⟩, ?_⟩
      by_cases h8 : sp_s c = 84
      · rw [if_pos h8] at h5 ⊢
        cases x with
        | append u v =>
          cases v with
          | append v w =>
            simp at ht
            simp only [sp_z] at hb
            exact ⟨ih u (by omega) _ _ _ _ _ _ (by omega) h5.1, ih v (by omega) _ _ _ _ _ _ (by omega) h5.2.1, ih w (by omega) _ _ _ _ _ _ (by omega) h5.2.2⟩
          | _ => exact h5.elim
        | _ => exact h5.elim
      · rw [if_neg h8] at h5 ⊢
        exact ih x (by omega) _ _ _ _ _ _ (by omega) h5
    | _ => trivial
theorem puA_snoc {a : Nat → Nat → Int32} {N p : Nat} : ∀ (j s o s' o' : Nat), puA a N p j s o s' o' → ∀ q r e, (o' = q + 1 ∧ q < N) → (a c_P_end q = nI e ∧ e ≤ p) → (a c_P_around q = oI r ∧ r ≤ 241) → puA a N p (j + 1) s o (q + 1) r
  | 0, s, o, s', o', ⟨h1, h2⟩, q, r, e, a1, a2, a3 => by
    subst h1 h2
    exact ⟨q, r, e, a1, a2, a3, rfl, rfl⟩
  | j + 1, s, o, s', o', ⟨q0, r0, e0, b1, b2, b3, b4⟩, q, r, e, a1, a2, a3 => ⟨q0, r0, e0, b1, b2, b3, puA_snoc j _ _ _ _ b4 q r e a1 a2 a3⟩
def lJ (a : Nat → Nat → Int32) (N b s o k : Nat) (md : Bool) : Prop := (∃ j, j + o ≤ b ∧ puA a N b j 0 b s o) ∧ (md = false → (if s = 0 then (0 : Int32) else a c_P_part (s - 1) + 1) = nI k) ∧ s ≤ b
def lO (a : Nat → Nat → Int32) (o k ta tp : Nat) (md : Bool) (lo hi : Nat) : Prop := (o = 0 ∧ ta = 0 ∧ tp = 0 ∧ md = false) ∨ ∃ q e, ((o = q + 1 ∧ q < lo) ∧ (a c_P_end q = nI e ∧ hi ≤ e ∧ e ≤ 241)) ∧ (md = false → ¬ a c_P_sort q = 84 ∧ a c_P_tryAround q = oI ta ∧ a c_P_tryPart q = oI tp) ∧ (md = true → a c_P_sort q = 84 ∧ (ta = q + 1 ∧ tp = k + 1) ∧ ∀ p, lo ≤ p → p < hi → ltK a p q = nI k)
theorem lO_FL {a a' : Nat → Nat → Int32} {o k ta tp lo hi lo' hi' : Nat} {md : Bool} (h : FL a a' lo) (h1 : lo ≤ lo') (h2 : hi' ≤ hi) (hO : lO a o k ta tp md lo hi) : lO a' o k ta tp md lo' hi' := by
  rcases hO with hO | ⟨q, e, ⟨⟨a1, a2⟩, a3, a4, a5⟩, a6, a7⟩
  · exact Or.inl hO
  · refine Or.inr ⟨q, e, ⟨⟨a1, by omega⟩, ?_, by omega, a5⟩, fun m => ?_, fun m => ?_⟩
    · rw [FL_oth h (by decide)]; exact a3
    · have := a6 m
      rw [FL_oth h (j := c_P_sort) (by decide), h c_P_tryAround q (fun _ => a2), h c_P_tryPart q (fun _ => a2)]
      exact this
    · have := a7 m
      rw [FL_oth h (j := c_P_sort) (by decide)]
      refine ⟨this.1, this.2.1, fun p p1 p2 => ?_⟩
      unfold ltK
      rw [FL_oth h (j := c_P_catchFrom) (by decide), FL_oth h (j := c_P_finallyFrom) (by decide)]
      exact this.2.2 p (by omega) (by omega)
theorem ltK_val {a : Nat → Nat → Int32} {q c p zu zv zw : Nat} (hb : q + 1 + zu + zv + zw ≤ 241) (h1 : a c_P_catchFrom q = (if sp_pl c % 2 = 1 then nI (q + 1 + zu) else -1)) (h2 : a c_P_finallyFrom q = (if sp_pl c / 2 = 1 then nI (q + 1 + zu + zv) else -1)) (hp : sp_pl c ≤ 3) (hv : sp_pl c % 2 = 0 → zv = 0) (hw : sp_pl c / 2 = 0 → zw = 0) : (q + 1 ≤ p → p < q + 1 + zu → ltK a p q = nI 0) ∧ (q + 1 + zu ≤ p → p < q + 1 + zu + zv → ltK a p q = nI 1) ∧ (q + 1 + zu + zv ≤ p → p < q + 1 + zu + zv + zw → ltK a p q = nI 2) := by
  unfold ltK
  rw [h1, h2]
  have f1 : sp_pl c / 2 = 1 → ((¬ (if sp_pl c / 2 = 1 then nI (q + 1 + zu + zv) else (-1 : Int32)) = -1 ∧ (if sp_pl c / 2 = 1 then nI (q + 1 + zu + zv) else (-1 : Int32)) ≤ nI p) ↔ (q + 1 + zu + zv ≤ p ∨ 241 < p)) → True := fun _ _ => trivial
  refine ⟨fun p1 p2 => ?_, fun p1 p2 => ?_, fun p1 p2 => ?_⟩
  · have nf : ¬ (¬ (if sp_pl c / 2 = 1 then nI (q + 1 + zu + zv) else (-1 : Int32)) = -1 ∧ (if sp_pl c / 2 = 1 then nI (q + 1 + zu + zv) else (-1 : Int32)) ≤ nI p) := by
      rintro ⟨e1, e2⟩
      by_cases c1 : sp_pl c / 2 = 1
      · rw [if_pos c1, nI_leI (by omega) (by omega)] at e2; omega
      · rw [if_neg c1] at e1; exact e1 rfl
    have nc' : ¬ (¬ (if sp_pl c % 2 = 1 then nI (q + 1 + zu) else (-1 : Int32)) = -1 ∧ (if sp_pl c % 2 = 1 then nI (q + 1 + zu) else (-1 : Int32)) ≤ nI p) := by
      rintro ⟨e1, e2⟩
      by_cases c1 : sp_pl c % 2 = 1
      · rw [if_pos c1, nI_leI (by omega) (by omega)] at e2; omega
      · rw [if_neg c1] at e1; exact e1 rfl
    rw [if_neg nf, if_neg nc']; rfl
  · have nf : ¬ (¬ (if sp_pl c / 2 = 1 then nI (q + 1 + zu + zv) else (-1 : Int32)) = -1 ∧ (if sp_pl c / 2 = 1 then nI (q + 1 + zu + zv) else (-1 : Int32)) ≤ nI p) := by
      rintro ⟨e1, e2⟩
      by_cases c1 : sp_pl c / 2 = 1
      · rw [if_pos c1, nI_leI (by omega) (by omega)] at e2; omega
      · rw [if_neg c1] at e1; exact e1 rfl
    have c1 : sp_pl c % 2 = 1 := by
      have : ¬ sp_pl c % 2 = 0 := fun e => by have := hv e; omega
      omega
    rw [if_neg nf, if_pos c1, if_pos ⟨nI_ne_m1 (by omega), (nI_leI (by omega) (by omega)).mpr p1⟩]; rfl
  · have c1 : sp_pl c / 2 = 1 := by
      have : ¬ sp_pl c / 2 = 0 := fun e => by have := hw e; omega
      omega
    rw [if_pos c1, if_pos ⟨nI_ne_m1 (by omega), (nI_leI (by omega) (by omega)).mpr p1⟩]; rfl
/-- the rows of a place that link has just made -/
theorem lkA_rows {a : Nat → Nat → Int32} {N b s o k ta tp hi : Nat} {md : Bool} (hJ : lJ a N b s o k md) (hO : lO a o k ta tp md b hi) (hb : b < hi) : (lkA a b s o c_P_around b = oI o ∧ lkA a b s o c_P_part b = nI k) ∧ (lkA a b s o c_P_tryAround b = oI ta ∧ lkA a b s o c_P_tryPart b = oI tp) := by
  unfold lkA
  rcases hO with ⟨rfl, rfl, rfl, rfl⟩ | ⟨q, e, ⟨⟨rfl, a2⟩, a3⟩, a6, a7⟩
  · rw [if_neg (fun q => q.1 rfl), hJ.2.1 rfl, if_pos rfl, if_pos rfl]
    refine ⟨⟨?_, ?_⟩, ?_, ?_⟩
    · rw [up2_row (by decide), up2_row (by decide), up2_row (by decide), up2_at]
    · rw [up2_row (by decide), up2_row (by decide), up2_at]
    · rw [up2_row (by decide), up2_at]; rfl
    · rw [up2_at]; rfl
  · rw [show q + 1 - 1 = q from rfl]
    cases md with
    | false =>
      have a6 := a6 rfl
      rw [if_neg (fun z => a6.1 z.2), hJ.2.1 rfl, if_neg (show ¬ q + 1 = 0 by omega), if_neg (show ¬ q + 1 = 0 by omega), a6.2.1, a6.2.2]
      refine ⟨⟨?_, ?_⟩, ?_, ?_⟩
      · rw [up2_row (by decide), up2_row (by decide), up2_row (by decide), up2_at]
      · rw [up2_row (by decide), up2_row (by decide), up2_at]
      · rw [up2_row (by decide), up2_at]
      · rw [up2_at]
    | true =>
      have a7 := a7 rfl
      rw [if_pos ⟨by omega, a7.1⟩, a7.2.2 b (Nat.le_refl _) hb]
      unfold ltA
      refine ⟨⟨?_, ?_⟩, ?_, ?_⟩
      · rw [up2_row (by decide), up2_row (by decide), up2_row (by decide), up2_row (by decide), up2_row (by decide), up2_row (by decide), up2_at]
      · rw [up2_row (by decide), up2_row (by decide), up2_at]
      · rw [up2_row (by decide), up2_at, a7.2.1.1, oI_s]
      · rw [up2_at, a7.2.1.2, oI_s]
section LKL
variable {l : Nat → Nat → Int64} {w : Int64} {V N d : Nat} {m : Nat → Int32} {P : pv_R}
def lM (l : Nat → Nat → Int64) (w : Int64) (N d : Nat) (m : Nat → Int32) (P : pv_R) (t : Std.Format) : Prop := ∀ (b s o k ta tp : Nat) (md : Bool) (a : Nat → Nat → Int32), EdS a t b → b + sp_z t ≤ N → lJ a N b s o k md → lO a o k ta tp md b (b + sp_z t) →
    (∀ a', FL a a' b → LkS a' t b o k ta tp md → lJ a' N (b + sp_z t) (lastR t b s) o (if md then k else k + rts t) md → ∀ L, kxOK L → pv_go cq_T22 3 (pv_call cq_mt (d + 3)) P (2, kLx (b + sp_z t) L, [], cs m a' l w)) → ∀ L, kxOK L → pv_go cq_T22 3 (pv_call cq_mt (d + 3)) P (2, kLx b L, [], cs m a l w)
/-- a place, and what is within -/
theorem lM_tag (hN : N ≤ 241) (hs : m c_P_size = nI N) {c : Nat} {x : Std.Format}
    (hx : ∀ (b ta tp : Nat) (a : Nat → Nat → Int32), EdS a (.tag c x) b → b + 1 + sp_z x ≤ N → (a c_P_tryAround b = oI ta ∧ a c_P_tryPart b = oI tp) → (∀ a', FL a a' (b + 1) → (if sp_s c = 84 then (match x with
      | .append u (.append v w) => LkS a' u (b + 1) (b + 1) 0 (b + 1) 1 true ∧ LkS a' v (b + 1 + sp_z u) (b + 1) 1 (b + 1) 2 true ∧ LkS a' w (b + 1 + sp_z u + sp_z v) (b + 1) 2 (b + 1) 3 true
      | _ => False) else LkS a' x (b + 1) (b + 1) 0 ta tp false) → (∃ j s', j + (b + 1) ≤ b + 1 + sp_z x ∧ puA a' N (b + 1 + sp_z x) j 0 (b + 1 + sp_z x) s' (b + 1)) → ∀ L, kxOK L → pv_go cq_T22 3 (pv_call cq_mt (d + 3)) P (2, kLx (b + 1 + sp_z x) L, [], cs m a' l w)) → ∀ L, kxOK L → pv_go cq_T22 3 (pv_call cq_mt (d + 3)) P (2, kLx (b + 1) L, [], cs m a l w)) : lM l w N d m P (.tag c x) := by
  intro b s o k ta tp md a hE hbN hJ hO hk
  have ez : b + sp_z (.tag c x) = b + 1 + sp_z x := by simp only [sp_z]; omega
  rw [ez] at hk hbN hO
  obtain ⟨j, hj, hpu⟩ := hJ.1
  have hop : o ≤ b := by omega
  have hrows := lkA_rows hJ hO (by omega)
  have hFL := FL_lk (a := a) b s o
  refine lk_step d m a hN (by omega) hs hJ.2.2 hop ?_ hpu (by omega) P ?_
  · rcases hO with ⟨h1, -⟩ | ⟨q, e, ⟨⟨h1, h2⟩, h3, h4, h5⟩, -⟩
    · exact Or.inl h1
    · exact Or.inr ⟨q, e, ⟨h1, by omega⟩, h3, by omega, h5⟩
  · generalize lkA a b s o = a1 at *
    refine hx b ta tp a1 (EdS_FL hFL _ _ (Nat.lt_succ_self _) b hE) hbN hrows.2 (fun a' g1 g2 g3 => ?_)
    have r := fun j => g1 j b (fun _ => Nat.lt_succ_self _)
    refine hk a' (FL_trans hFL g1 (Nat.le_succ _)) ?_ ?_
    · unfold LkS
      exact ⟨⟨⟨(r 7).trans hrows.1.1, (r 8).trans hrows.1.2⟩, (r 9).trans hrows.2.1, (r 10).trans hrows.2.2⟩, g2⟩
    · obtain ⟨j', s', hj', hpu'⟩ := g3
      have hend : a' c_P_end b = nI (b + 1 + sp_z x) := by
        have := (EdS_FL (FL_trans hFL g1 (Nat.le_succ _)) _ _ (Nat.lt_succ_self _) b hE).1.1.1
        exact this
      refine ⟨⟨j' + 1, by omega, puA_snoc j' _ _ _ _ hpu' b o (b + 1 + sp_z x) ⟨rfl, by omega⟩ ⟨hend, Nat.le_refl _⟩ ⟨(r 7).trans hrows.1.1, by omega⟩⟩, fun hm => ?_, ?_⟩
      · show (if b + 1 = 0 then (0 : Int32) else a' c_P_part (b + 1 - 1) + 1) = _
        rw [if_neg (by omega), show b + 1 - 1 = b from rfl, (r 8).trans hrows.1.2, hm, nI_1]; rfl
      · show b + 1 ≤ _
        omega
theorem lM_all {t : Std.Format} (hN : N ≤ 241) (hs : m c_P_size = nI N) (ht : fT V t) : lM l w N d m P t := by
  have h84c : ∀ c, ¬ stS (sp_s c) → ¬ sp_s c = 84 := fun c h q => h (by rw [q]; unfold stS; omega)
  have hsort : ∀ (a : Nat → Nat → Int32) (b c : Nat), a c_P_sort b = nI (sp_s c) → ¬ sp_s c = 84 → ¬ a c_P_sort b = 84 := by
    intro a b c h1 h2 e
    rw [h1, show (84 : Int32) = nI 84 from rfl, nI_eq (by unfold sp_s; omega) (by omega)] at e
    exact h2 e
  -- a place that is no T
  have one : ∀ (c : Nat) (x : Std.Format), ¬ sp_s c = 84 → lM l w N d m P x → lM l w N d m P (.tag c x) := by
    intro c x h8 hx
    refine lM_tag hN hs (fun b ta tp a hE hb hrow hk => ?_)
    refine hx (b + 1) 0 (b + 1) 0 ta tp false a hE.2 hb ⟨⟨0, by omega, rfl, rfl⟩, fun _ => rfl, Nat.zero_le _⟩ (Or.inr ⟨b, b + 1 + sp_z x, ⟨⟨rfl, Nat.lt_succ_self _⟩, hE.1.1.1, Nat.le_refl _, by omega⟩, fun _ => ⟨hsort a b c hE.1.1.2 h8, hrow⟩, fun q => by cases q⟩) (fun a' g1 g2 g3 => ?_)
    refine hk a' g1 (by rw [if_neg h8]; exact g2) ?_
    obtain ⟨j, hj, hp⟩ := g3.1
    exact ⟨j, _, hj, hp⟩
  have app : ∀ x y, lM l w N d m P x → lM l w N d m P y → lM l w N d m P (.append x y) := by
    intro x y hx hy b s o k ta tp md a hE hbN hJ hO hk
    have ez : b + sp_z (.append x y) = b + sp_z x + sp_z y := by simp only [sp_z]; omega
    rw [ez] at hk hbN hO
    refine hx b s o k ta tp md a hE.1 (by omega) hJ (lO_FL (FL_refl _ _) (Nat.le_refl _) (by omega) hO) (fun a1 g1 g2 g3 => ?_)
    have hO1 : lO a1 o (if md then k else k + rts x) ta tp md (b + sp_z x) (b + sp_z x + sp_z y) := by
      have := lO_FL (lo' := b + sp_z x) (hi' := b + sp_z x + sp_z y) g1 (by omega) (Nat.le_refl _) hO
      cases md with
      | true => exact this
      | false =>
        rcases this with h | ⟨q, e, h1, h2, h3⟩
        · exact Or.inl h
        · exact Or.inr ⟨q, e, h1, h2, fun z => by cases z⟩
    refine hy (b + sp_z x) (lastR x b s) o (if md then k else k + rts x) ta tp md a1 (EdS_FL g1 _ y (Nat.lt_succ_self _) _ hE.2) hbN g3 hO1 (fun a2 k1 k2 k3 => ?_)
    refine hk a2 (FL_trans g1 k1 (by omega)) ⟨LkS_FL k1 _ x (Nat.lt_succ_self _) _ _ _ _ _ _ (Nat.le_refl _) g2, k2⟩ ?_
    have er : (if md then k else k + rts (.append x y)) = (if md then (if md then k else k + rts x) else (if md then k else k + rts x) + rts y) := by
      cases md with
      | true => rfl
      | false => show k + (rts x + rts y) = k + rts x + rts y; omega
    rw [er]
    exact k3
  refine fT_ind (V := V) (M := lM l w N d m P) ?_ ?_ ?_ ?_ ?_ ?_ ?_ _ t (Nat.lt_succ_self _) ht
  · exact app
  · intro b s o k ta tp md a hE hbN hJ hO hk
    have := hk a (FL_refl _ _) trivial (by
      show lJ a N (b + 0) s o (if md then k else k + 0) md
      cases md <;> exact hJ)
    exact this
  · intro b s o k ta tp md a hE hbN hJ hO hk
    have := hk a (FL_refl _ _) trivial (by
      show lJ a N (b + 0) s o (if md then k else k + 0) md
      cases md <;> exact hJ)
    exact this
  · intro c x hst h8 hx
    exact one c x h8 hx
  · intro c u v w' h8 hc hu hv hw
    refine lM_tag hN hs (fun b ta tp a hE hb hrow hk => ?_)
    have h84 := hE.1.2 h8
    simp only at h84
    have ez : sp_z (.append u (.append v w')) = sp_z u + sp_z v + sp_z w' := by simp only [sp_z]; omega
    rw [ez] at hb
    have hv0 : sp_pl c % 2 = 0 → sp_z v = 0 := fun q => by rw [hc.2.1 q]; rfl
    have hw0 : sp_pl c / 2 = 0 → sp_z w' = 0 := fun q => by rw [hc.2.2 q]; rfl
    have hlt := fun p => ltK_val (a := a) (q := b) (c := c) (p := p) (zu := sp_z u) (zv := sp_z v) (zw := sp_z w') (by omega) h84.1 h84.2 hc.1.2 hv0 hw0
    have hsT : a c_P_sort b = 84 := by rw [hE.1.1.2, h8]; rfl
    have hend := hE.1.1.1
    rw [ez] at hend
    have hOu : lO a (b + 1) 0 (b + 1) 1 true (b + 1) (b + 1 + sp_z u) := Or.inr ⟨b, _, ⟨⟨rfl, Nat.lt_succ_self _⟩, hend, by omega, by omega⟩, (fun q => by cases q), fun _ => ⟨hsT, ⟨rfl, rfl⟩, fun p p1 p2 => (hlt p).1 p1 p2⟩⟩
    have hOv : lO a (b + 1) 1 (b + 1) 2 true (b + 1) (b + 1 + sp_z u + sp_z v) → True := fun _ => trivial
    refine hu (b + 1) 0 (b + 1) 0 (b + 1) 1 true a hE.2.1 (by omega) ⟨⟨0, by omega, rfl, rfl⟩, (fun q => by cases q), Nat.zero_le _⟩ hOu (fun a1 g1 g2 g3 => ?_)
    have q1 := hE.2.2
    have hO1 : lO a1 (b + 1) 1 (b + 1) 2 true (b + 1 + sp_z u) (b + 1 + sp_z u + sp_z v) := Or.inr ⟨b, _, ⟨⟨rfl, by omega⟩, (by rw [FL_oth g1 (by decide)]; exact hend), by omega, by omega⟩, (fun q => by cases q), fun _ => ⟨by rw [FL_oth g1 (by decide)]; exact hsT, ⟨rfl, rfl⟩, fun p p1 p2 => by
      unfold ltK
      rw [FL_oth g1 (j := c_P_catchFrom) (by decide), FL_oth g1 (j := c_P_finallyFrom) (by decide)]
      exact (hlt p).2.1 p1 p2⟩⟩
    refine hv (b + 1 + sp_z u) (lastR u (b + 1) 0) (b + 1) 1 (b + 1) 2 true a1 (EdS_FL g1 _ v (Nat.lt_succ_self _) _ q1.1) (by omega) ⟨g3.1, (fun q => by cases q), g3.2.2⟩ hO1 (fun a2 k1 k2 k3 => ?_)
    have g12 := FL_trans g1 k1 (by omega)
    have hO2 : lO a2 (b + 1) 2 (b + 1) 3 true (b + 1 + sp_z u + sp_z v) (b + 1 + sp_z u + sp_z v + sp_z w') := Or.inr ⟨b, _, ⟨⟨rfl, by omega⟩, (by rw [FL_oth g12 (by decide)]; exact hend), by omega, by omega⟩, (fun q => by cases q), fun _ => ⟨by rw [FL_oth g12 (by decide)]; exact hsT, ⟨rfl, rfl⟩, fun p p1 p2 => by
      unfold ltK
      rw [FL_oth g12 (j := c_P_catchFrom) (by decide), FL_oth g12 (j := c_P_finallyFrom) (by decide)]
      exact (hlt p).2.2 p1 p2⟩⟩
    refine hw (b + 1 + sp_z u + sp_z v) (lastR v (b + 1 + sp_z u) (lastR u (b + 1) 0)) (b + 1) 2 (b + 1) 3 true a2 (EdS_FL g12 _ w' (Nat.lt_succ_self _) _ q1.2) (by omega) ⟨k3.1, (fun q => by cases q), k3.2.2⟩ hO2 (fun a3 n1 n2 n3 => ?_)
    have e3 : b + 1 + sp_z u + sp_z v + sp_z w' = b + 1 + sp_z (.append u (.append v w')) := by rw [ez]; omega
    obtain ⟨j, hj, hp⟩ := n3.1
    rw [e3] at hj hp ⊢
    refine hk a3 (FL_trans g12 n1 (by omega)) ?_ ⟨j, _, hj, hp⟩
    rw [if_pos h8]
    exact ⟨LkS_FL (FL_trans k1 n1 (by omega)) _ u (Nat.lt_succ_self _) _ _ _ _ _ _ (Nat.le_refl _) g2, LkS_FL n1 _ v (Nat.lt_succ_self _) _ _ _ _ _ _ (Nat.le_refl _) k2, n2⟩
  · intro c u v hs' he hu hv
    exact one c _ (h84c c hs') (app u v hu hv)
  · intro c x hs' he hxx hx
    exact one c x (h84c c hs') hx
end LKL
