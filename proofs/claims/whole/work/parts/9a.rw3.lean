/-! the walk as steps on (come to, waiting) -/
abbrev zT : Type := pL_T × pL_T
def bt (d v : Int32) (b : Nat) : Nat := if d = 1 + v then 1 else if d = 20 + v then 0 else b
def edL (v : Int32) (p b : Nat) : eL_T → zT → zT
  | [], z => z
  | (f, t, d) :: r, z => if p = f then edL v p b r (cmF (dN t) (bt d v b) z) else edL v p b r z
def woL (o : Int32) (e : Nat) (z : zT) : zT := if o = -1 then z else (fun z1 : zT => if e / 2 % 2 = 1 then cmF (dN o) 1 z1 else z1) (if e % 2 = 1 then cmF (dN o) 0 z else z)
def prF (E : eL_T) (W : wL_T) (on : Nat → Int32) (en : Nat → Nat → Nat) (v : Int32) (p b : Nat) (z : zT) : zT :=
  if 2100 ≤ p ∧ p < 2100 + W.length then
    (match W.reverse[p - 2100]? with
     | some x => woL (on (p - 2100)) (en x.1 b) (cmF (1301 + 3 * x.1 + 1) b (edL v p b E z))
     | none => edL v p b E z)
  else edL v p b E z
/-- what a pair come to asks for -/
def suc (E : eL_T) (W : wL_T) (on : Nat → Int32) (en : Nat → Nat → Nat) (v : Int32) (C : Nat → Nat → Prop) (p b : Nat) : Prop :=
  (∀ t d, (p, t, d) ∈ E → C (dN t) (bt d v b)) ∧ (∀ x, 2100 ≤ p → W.reverse[p - 2100]? = some x → C (1301 + 3 * x.1 + 1) b ∧ ∀ k, k < 2 → en x.1 b / 2 ^ k % 2 = 1 → ¬ on (p - 2100) = -1 → C (dN (on (p - 2100))) k)
theorem suc_mono {E : eL_T} {W : wL_T} {on : Nat → Int32} {en : Nat → Nat → Nat} {v : Int32} {C D : Nat → Nat → Prop} (h : ∀ p b, C p b → D p b) {p b : Nat} (hs : suc E W on en v C p b) : suc E W on en v D p b :=
  ⟨fun t d ht => h _ _ (hs.1 t d ht), fun x h1 h2 => ⟨h _ _ (hs.2 x h1 h2).1, fun k hk he ho => h _ _ ((hs.2 x h1 h2).2 k hk he ho)⟩⟩
def muZ (z : zT) : Nat := 2 * (7200 - z.1.length) + z.2.length
def invZ (V : Nat → Prop) (z : zT) : Prop := hOK z.1 ∧ z.2.length ≤ z.1.length ∧ (∀ x ∈ z.2, x ∈ z.1) ∧ (∀ x ∈ z.1, V x.1)
def GrZ (z z' : zT) : Prop := (∀ x ∈ z.1, x ∈ z'.1) ∧ (∀ x ∈ z'.1, ¬ x ∈ z.1 → x ∈ z'.2) ∧ (∀ x ∈ z.2, x ∈ z'.2) ∧ muZ z' ≤ muZ z
theorem GrZ_rf (z : zT) : GrZ z z := ⟨fun _ h => h, fun _ h n => absurd h n, fun _ h => h, Nat.le_refl _⟩
theorem GrZ_tr {z z' z'' : zT} (h : GrZ z z') (k : GrZ z' z'') : GrZ z z'' := by
  refine ⟨fun x hx => k.1 x (h.1 x hx), fun x hx n => ?_, fun x hx => k.2.2.1 x (h.2.2.1 x hx), Nat.le_trans k.2.2.2 h.2.2.2⟩
  by_cases c : x ∈ z'.1
  · exact k.2.2.1 x (h.2.1 x c n)
  · exact k.2.1 x hx c
theorem cm_in (p b : Nat) (z : zT) : (p, b) ∈ (cmF p b z).1 := by
  unfold cmF
  split
  · assumption
  · exact List.mem_cons_self
theorem cm_sub {C : Nat → Nat → Prop} {p b : Nat} {z : zT} (h : ∀ x ∈ z.1, C x.1 x.2) (hc : C p b) : ∀ x ∈ (cmF p b z).1, C x.1 x.2 := by
  unfold cmF
  split
  · exact h
  · intro x hx
    rcases List.mem_cons.mp hx with rfl | hx
    · exact hc
    · exact h x hx
theorem cm_inv {V : Nat → Prop} (hV : ∀ p, V p → p < 3600) {p b : Nat} {z : zT} (h : invZ V z) (hp : V p) (hb : b < 2) : invZ V (cmF p b z) ∧ GrZ z (cmF p b z) := by
  unfold cmF
  by_cases c : (p, b) ∈ z.1
  · rw [if_pos c]
    exact ⟨h, GrZ_rf z⟩
  · rw [if_neg c]
    obtain ⟨h1, h2, h3, h4⟩ := h
    have k1 : hOK ((p, b) :: z.1) := by
      refine ⟨List.nodup_cons.mpr ⟨c, h1.1⟩, fun x hx => ?_⟩
      rcases List.mem_cons.mp hx with rfl | hx
      · exact ⟨hV p hp, hb⟩
      · exact h1.2 x hx
    have l1 := hOK_len k1
    have l2 : ((p, b) :: z.1).length = z.1.length + 1 := rfl
    refine ⟨⟨k1, Nat.succ_le_succ h2, fun x hx => ?_, fun x hx => ?_⟩, fun x hx => List.mem_cons_of_mem _ hx, fun x hx n => ?_, fun x hx => List.mem_cons_of_mem _ hx, ?_⟩
    · rcases List.mem_cons.mp hx with rfl | hx
      · exact List.mem_cons_self
      · exact List.mem_cons_of_mem _ (h3 x hx)
    · rcases List.mem_cons.mp hx with rfl | hx
      · exact hp
      · exact h4 x hx
    · rcases List.mem_cons.mp hx with rfl | hx
      · exact List.mem_cons_self
      · exact absurd hx n
    · show 2 * (7200 - (z.1.length + 1)) + (z.2.length + 1) ≤ 2 * (7200 - z.1.length) + z.2.length
      omega
theorem bt_lt {d v : Int32} {b : Nat} (h : b < 2) : bt d v b < 2 := by
  unfold bt
  split
  · omega
  · split <;> omega
theorem edL_ok {V : Nat → Prop} (hV : ∀ p, V p → p < 3600) (v : Int32) {p b : Nat} (hb : b < 2) : ∀ (E : eL_T) (z : zT), (∀ x ∈ E, V (dN x.2.1)) → invZ V z → invZ V (edL v p b E z) ∧ GrZ z (edL v p b E z) ∧ (∀ t d, (p, t, d) ∈ E → (dN t, bt d v b) ∈ (edL v p b E z).1) ∧ (∀ C : Nat → Nat → Prop, (∀ x ∈ z.1, C x.1 x.2) → (∀ t d, (p, t, d) ∈ E → C (dN t) (bt d v b)) → ∀ x ∈ (edL v p b E z).1, C x.1 x.2)
  | [], z, _, h => ⟨h, GrZ_rf z, fun t d hx => absurd hx List.not_mem_nil, fun C hC _ => hC⟩
  | (f, t, d) :: r, z, hE, h => by
    have hr : ∀ x ∈ r, V (dN x.2.1) := fun x hx => hE x (List.mem_cons_of_mem _ hx)
    unfold edL
    by_cases c : p = f
    · subst c
      rw [if_pos rfl]
      have h1 := cm_inv hV (p := dN t) (b := bt d v b) h (hE (p, t, d) List.mem_cons_self) (bt_lt hb)
      have h2 := edL_ok hV v (p := p) hb r (cmF (dN t) (bt d v b) z) hr h1.1
      refine ⟨h2.1, GrZ_tr h1.2 h2.2.1, fun t' d' hx => ?_, fun C hC hS => ?_⟩
      · rcases List.mem_cons.mp hx with e | hx
        · cases e
          exact h2.2.1.1 _ (cm_in _ _ z)
        · exact h2.2.2.1 t' d' hx
      · exact h2.2.2.2 C (cm_sub hC (hS t d List.mem_cons_self)) (fun t' d' hx => hS t' d' (List.mem_cons_of_mem _ hx))
    · rw [if_neg c]
      have h2 := edL_ok hV v (p := p) hb r z hr h
      refine ⟨h2.1, h2.2.1, fun t' d' hx => ?_, fun C hC hS => ?_⟩
      · rcases List.mem_cons.mp hx with e | hx
        · cases e
          exact absurd rfl c
        · exact h2.2.2.1 t' d' hx
      · exact h2.2.2.2 C hC (fun t' d' hx => hS t' d' (List.mem_cons_of_mem _ hx))
theorem cmi_ok {V : Nat → Prop} (hV : ∀ p, V p → p < 3600) {c : Prop} [Decidable c] {p b : Nat} {z : zT} (hb : b < 2) (hp : V p) (h : invZ V z) : invZ V (if c then cmF p b z else z) ∧ GrZ z (if c then cmF p b z else z) ∧ (c → (p, b) ∈ (if c then cmF p b z else z).1) ∧ (∀ C : Nat → Nat → Prop, (∀ x ∈ z.1, C x.1 x.2) → (c → C p b) → ∀ x ∈ (if c then cmF p b z else z).1, C x.1 x.2) := by
  by_cases q : c
  · rw [if_pos q]
    have h1 := cm_inv hV h hp hb
    exact ⟨h1.1, h1.2, fun _ => cm_in _ _ _, fun C hC hS => cm_sub hC (hS q)⟩
  · rw [if_neg q]
    exact ⟨h, GrZ_rf z, fun u => absurd u q, fun C hC _ => hC⟩
theorem woL_ok {V : Nat → Prop} (hV : ∀ p, V p → p < 3600) (o : Int32) (e : Nat) {z : zT} (ho : ¬ o = -1 → V (dN o)) (h : invZ V z) : invZ V (woL o e z) ∧ GrZ z (woL o e z) ∧ (∀ k, k < 2 → e / 2 ^ k % 2 = 1 → ¬ o = -1 → (dN o, k) ∈ (woL o e z).1) ∧ (∀ C : Nat → Nat → Prop, (∀ x ∈ z.1, C x.1 x.2) → (∀ k, k < 2 → e / 2 ^ k % 2 = 1 → ¬ o = -1 → C (dN o) k) → ∀ x ∈ (woL o e z).1, C x.1 x.2) := by
  unfold woL
  by_cases c : o = -1
  · rw [if_pos c]
    exact ⟨h, GrZ_rf z, fun k _ _ n => absurd c n, fun C hC _ => hC⟩
  · rw [if_neg c]
    have h1 := cmi_ok hV (c := e % 2 = 1) (b := 0) (by omega) (ho c) h
    generalize (if e % 2 = 1 then cmF (dN o) 0 z else z) = z1 at *
    have h2 := cmi_ok hV (c := e / 2 % 2 = 1) (b := 1) (by omega) (ho c) h1.1
    refine ⟨h2.1, GrZ_tr h1.2.1 h2.2.1, fun k hk he _ => ?_, fun C hC hS => ?_⟩
    · match k, hk with
      | 0, _ => exact h2.2.1.1 _ (h1.2.2.1 (by simpa using he))
      | 1, _ => exact h2.2.2.1 (by simpa using he)
    · exact h2.2.2.2 C (h1.2.2.2 C hC (fun q => hS 0 (by omega) (by simpa using q) c)) (fun q => hS 1 (by omega) (by simpa using q) c)
theorem prF_ok {V : Nat → Prop} (hV : ∀ p, V p → p < 3600) {E : eL_T} {W : wL_T} {on : Nat → Int32} {en : Nat → Nat → Nat} (v : Int32) {p b : Nat} (hb : b < 2) {z : zT} (hE : ∀ x ∈ E, V (dN x.2.1)) (hW : ∀ x ∈ W, V (1301 + 3 * x.1 + 1)) (hon : ∀ k, k < W.length → ¬ on k = -1 → V (dN (on k))) (h : invZ V z) : invZ V (prF E W on en v p b z) ∧ GrZ z (prF E W on en v p b z) ∧ suc E W on en v (fun q c => (q, c) ∈ (prF E W on en v p b z).1) p b ∧ (∀ C : Nat → Nat → Prop, (∀ x ∈ z.1, C x.1 x.2) → suc E W on en v C p b → ∀ x ∈ (prF E W on en v p b z).1, C x.1 x.2) := by
  have h1 := edL_ok hV v (p := p) hb E z hE h
  unfold prF suc
  by_cases c : 2100 ≤ p ∧ p < 2100 + W.length
  · rw [if_pos c]
    obtain ⟨x, hx⟩ : ∃ x, W.reverse[p - 2100]? = some x := ⟨_, List.getElem?_eq_getElem (by rw [List.length_reverse]; omega)⟩
    rw [hx]
    have hxW : x ∈ W := List.mem_reverse.mp (List.mem_of_getElem? hx)
    have h2 := cm_inv hV (b := b) h1.1 (hW x hxW) hb
    have h3 := woL_ok hV (on (p - 2100)) (en x.1 b) (hon (p - 2100) (by omega)) h2.1
    refine ⟨h3.1, GrZ_tr h1.2.1 (GrZ_tr h2.2 h3.2.1), ⟨fun t d ht => h3.2.1.1 _ (h2.2.1 _ (h1.2.2.1 t d ht)), fun y _ hy => ?_⟩, fun C hC hS => ?_⟩
    · cases hy
      exact ⟨h3.2.1.1 _ (cm_in _ _ _), fun k hk he ho => h3.2.2.1 k hk he ho⟩
    · have hs := hS.2 x c.1 rfl
      exact h3.2.2.2 C (cm_sub (h1.2.2.2 C hC hS.1) hs.1) hs.2
  · rw [if_neg c]
    refine ⟨h1.1, h1.2.1, ⟨h1.2.2.1, fun y hp hy => ?_⟩, fun C hC hS => h1.2.2.2 C hC hS.1⟩
    have := (List.getElem?_eq_some_iff.mp hy).1
    rw [List.length_reverse] at this
    omega
