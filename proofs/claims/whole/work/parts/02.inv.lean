/-! THE PURE MACHINE IS SOUND: what it says of a method, the machine does -/
theorem pv_gi_inv {v : Option Value} {f : Int32 → Prop} (h : pv_gi v f) : ∃ x, v = some (.int x) ∧ f x := by
  unfold pv_gi at h
  split at h
  · exact ⟨_, rfl, h⟩
  · exact h.elim
theorem pv_gl_inv {v : Option Value} {f : Int64 → Prop} (h : pv_gl v f) : ∃ x, v = some (.long x) ∧ f x := by
  unfold pv_gl at h
  split at h
  · exact ⟨_, rfl, h⟩
  · exact h.elim
theorem pv_gr_inv {v : Option Value} {f : Nat → Prop} (h : pv_gr v f) : ∃ x, v = some (.ref x) ∧ f x := by
  unfold pv_gr at h
  split at h
  · exact ⟨_, rfl, h⟩
  · exact h.elim
theorem pv_1i_inv {st : List Value} {f : Int32 → List Value → Prop} (h : pv_1i st f) : ∃ x r, st = .int x :: r ∧ f x r := by
  unfold pv_1i at h
  split at h
  · exact ⟨_, _, rfl, h⟩
  · exact h.elim
theorem pv_2i_inv {st : List Value} {f : Int32 → Int32 → List Value → Prop} (h : pv_2i st f) : ∃ x y r, st = .int y :: .int x :: r ∧ f x y r := by
  unfold pv_2i at h
  split at h
  · exact ⟨_, _, _, rfl, h⟩
  · exact h.elim
theorem pv_1l_inv {st : List Value} {f : Int64 → List Value → Prop} (h : pv_1l st f) : ∃ x r, st = .long x :: r ∧ f x r := by
  unfold pv_1l at h
  split at h
  · exact ⟨_, _, rfl, h⟩
  · exact h.elim
theorem pv_2l_inv {st : List Value} {f : Int64 → Int64 → List Value → Prop} (h : pv_2l st f) : ∃ x y r, st = .long y :: .long x :: r ∧ f x y r := by
  unfold pv_2l at h
  split at h
  · exact ⟨_, _, _, rfl, h⟩
  · exact h.elim
theorem pv_li_inv {st : List Value} {f : Int64 → Int32 → List Value → Prop} (h : pv_li st f) : ∃ x y r, st = .int y :: .long x :: r ∧ f x y r := by
  unfold pv_li at h
  split at h
  · exact ⟨_, _, _, rfl, h⟩
  · exact h.elim
theorem pv_1r_inv {st : List Value} {f : Nat → List Value → Prop} (h : pv_1r st f) : ∃ x r, st = .ref x :: r ∧ f x r := by
  unfold pv_1r at h
  split at h
  · exact ⟨_, _, rfl, h⟩
  · exact h.elim
theorem pv_ir_inv {st : List Value} {f : Int32 → Nat → List Value → Prop} (h : pv_ir st f) : ∃ i a r, st = .int i :: .ref a :: r ∧ f i a r := by
  unfold pv_ir at h
  split at h
  · exact ⟨_, _, _, rfl, h⟩
  · exact h.elim
theorem pv_iir_inv {st : List Value} {f : Int32 → Int32 → Nat → List Value → Prop} (h : pv_iir st f) : ∃ x i a r, st = .int x :: .int i :: .ref a :: r ∧ f x i a r := by
  unfold pv_iir at h
  split at h
  · exact ⟨_, _, _, _, rfl, h⟩
  · exact h.elim
theorem pv_lir_inv {st : List Value} {f : Int64 → Int32 → Nat → List Value → Prop} (h : pv_lir st f) : ∃ x i a r, st = .long x :: .int i :: .ref a :: r ∧ f x i a r := by
  unfold pv_lir at h
  split at h
  · exact ⟨_, _, _, _, rfl, h⟩
  · exact h.elim
theorem pv_ob_inv {S : pv_S} {a ci : Nat} {f : List Value → Prop} (h : pv_ob S a ci f) : ∃ fs, S[a]? = some (.inr (ci, fs)) ∧ f fs := by
  unfold pv_ob at h
  split at h
  · rename_i c fs hq
    rw [pv_at_eq] at hq
    cases hb : Nat.beq c ci with
    | true =>
      rw [hb] at h
      have hc := Nat.eq_of_beq_eq_true hb
      subst hc
      exact ⟨fs, hq, h⟩
    | false => rw [hb] at h; exact h.elim
  · exact h.elim
theorem pv_ai_inv {S : pv_S} {a : Nat} {f : Nat → Nat → (Nat → Int32) → Prop} (h : pv_ai S a f) : ∃ t n g, S[a]? = some (.inl (t, n, .inl g)) ∧ f t n g := by
  unfold pv_ai at h
  split at h
  · rename_i t n g hq
    rw [pv_at_eq] at hq
    exact ⟨t, n, g, hq, h⟩
  · exact h.elim
theorem pv_al_inv {S : pv_S} {a : Nat} {f : Nat → Nat → (Nat → Int64) → Prop} (h : pv_al S a f) : ∃ t n g, S[a]? = some (.inl (t, n, .inr (.inl g))) ∧ f t n g := by
  unfold pv_al at h
  split at h
  · rename_i t n g hq
    rw [pv_at_eq] at hq
    exact ⟨t, n, g, hq, h⟩
  · exact h.elim
theorem pv_an_inv {S : pv_S} {a : Nat} {f : Nat → Nat → Prop} (h : pv_an S a f) : ∃ q, S[a]? = some (.inl q) ∧ f q.1 q.2.1 := by
  unfold pv_an at h
  split at h
  · rename_i q hq
    rw [pv_at_eq] at hq
    exact ⟨q, hq, h⟩
  · exact h.elim
theorem pv_ri_inv {st : List Value} {f : Int32 → Prop} (h : pv_ri st f) : ∃ x, st = [.int x] ∧ f x := by
  unfold pv_ri at h
  split at h
  · exact ⟨_, rfl, h⟩
  · exact h.elim
theorem pv_rl_inv {st : List Value} {f : Int64 → Prop} (h : pv_rl st f) : ∃ x, st = [.long x] ∧ f x := by
  unfold pv_rl at h
  split at h
  · exact ⟨_, rfl, h⟩
  · exact h.elim
theorem pv_so_inv {v : Option Value} {f : Value → Prop} (h : pv_so v f) : ∃ x, v = some x ∧ f x := by
  unfold pv_so at h
  split at h
  · exact ⟨_, rfl, h⟩
  · exact h.elim
theorem pv_bif {b : Bool} {P : Prop} (h : (bif b then P else False)) : b = true ∧ P := by
  cases b with
  | true => exact ⟨rfl, h⟩
  | false => exact h.elim
def pv_v (ad : Nat → Nat) (v : Value) : Value := match v with
  | .ref k => .ref (ad k)
  | v => v
theorem pv_cat (ad : Nat → Nat) (v : Value) : (pv_v ad v).category = v.category := by cases v <;> rfl
def pv_e (cA ad : Nat → Nat) (x : va_E) : va_E := match x with
  | .inl a => .inl (cA a.1, a.2)
  | .inr q => .inr (q.1, q.2.map (pv_v ad))
def pv_w (cA ad : Nat → Nat) : Nat → pv_S → va_W
  | _, [] => []
  | k, x :: S => (ad k, pv_e cA ad x) :: pv_w cA ad (k + 1) S
theorem pv_w_at (cA ad : Nat → Nat) (S : pv_S) : ∀ i k : Nat, (pv_w cA ad i S)[k]? = (S[k]?).map (fun x => (ad (i + k), pv_e cA ad x)) := by
  induction S with
  | nil => intro i k; simp [pv_w]
  | cons x S ih =>
    intro i k
    cases k with
    | zero => simp [pv_w]
    | succ k =>
      simp only [pv_w, List.getElem?_cons_succ, ih (i + 1) k]
      rw [show i + 1 + k = i + (k + 1) by omega]
theorem pv_w_0 (cA ad : Nat → Nat) {S : pv_S} {k : Nat} {x : va_E} (h : S[k]? = some x) : (pv_w cA ad 0 S)[k]? = some (ad k, pv_e cA ad x) := by
  rw [pv_w_at, h, Nat.zero_add]; rfl
theorem pv_w_set (cA ad : Nat → Nat) (S : pv_S) : ∀ (i k : Nat) (x : va_E), (pv_w cA ad i S).set k (ad (i + k), pv_e cA ad x) = pv_w cA ad i (S.set k x) := by
  induction S with
  | nil => intro i k x; simp [pv_w]
  | cons y S ih =>
    intro i k x
    cases k with
    | zero => simp [pv_w]
    | succ k =>
      simp only [pv_w, List.set_cons_succ]
      rw [show i + (k + 1) = i + 1 + k by omega, ih (i + 1) k x]
theorem pv_w_s0 (cA ad : Nat → Nat) (S : pv_S) (k : Nat) (x : va_E) : (pv_w cA ad 0 S).set k (ad k, pv_e cA ad x) = pv_w cA ad 0 (pv_set S k x) := by
  have h := pv_w_set cA ad S 0 k x
  rw [Nat.zero_add] at h
  rw [h, pv_set_eq]
theorem pv_w_len (cA ad : Nat → Nat) (S : pv_S) : ∀ i, (pv_w cA ad i S).length = S.length := by
  induction S with
  | nil => intro i; rfl
  | cons y S ih => intro i; simp [pv_w, ih]
theorem pv_set_len {α : Type} (l : List α) (n : Nat) (y : α) : (pv_set l n y).length = l.length := by rw [pv_set_eq]; simp
def pv_lc (ad : Nat → Nat) (l : pv_L) : pv_L := l.map (fun q => (q.1, pv_v ad q.2))
theorem pv_lc_get {ad : Nat → Nat} {ls : Array Slot} {nL : Nat} {l : pv_L} {i : Nat} {v : Value} (hl : lv_has ls nL (pv_lc ad l)) (h : pv_get l i = some v) : ls[i]? = some (.val (pv_v ad v)) :=
  hl.2.2 (i, pv_v ad v) (List.mem_map.mpr ⟨(i, v), pv_get_mem h, rfl⟩)
theorem pv_has_sub {ls : Array Slot} {nL : Nat} {l l' : pv_L} (h : lv_has ls nL l) (hs : ∀ q ∈ l', q ∈ l) : lv_has ls nL l' := ⟨h.1, h.2.1, fun q hq => h.2.2 q (hs q hq)⟩
theorem pv_lc_put (ad : Nat → Nat) (i : Nat) (v : Value) (l : pv_L) {ls : Array Slot} {nL : Nat} (h : lv_has ls nL ((i, pv_v ad v) :: (pv_lc ad l).filter (fun q => !(q.1 == i) && !(q.1 + 1 == i && q.2.category == 2)))) : lv_has ls nL (pv_lc ad (pv_put i v l)) := by
  refine pv_has_sub h (fun q hq => ?_)
  obtain ⟨x, hx, rfl⟩ := List.mem_map.mp hq
  rcases List.mem_cons.mp (pv_ins_mem hx) with e | hx
  · rw [e]; exact List.mem_cons_self
  · refine List.mem_cons_of_mem _ ?_
    obtain ⟨h1, h2⟩ := List.mem_filter.mp hx
    exact List.mem_filter.mpr ⟨List.mem_map.mpr ⟨x, h1, rfl⟩, by simpa [pv_cat] using h2⟩
theorem pv_lc_put2 (ad : Nat → Nat) (i : Nat) (v : Value) (l : pv_L) {ls : Array Slot} {nL : Nat} (h : lv_has ls nL ((i, pv_v ad v) :: (pv_lc ad l).filter (fun q => !(q.1 == i) && (!(q.1 == i + 1) && !(q.1 + 1 == i && q.2.category == 2))))) : lv_has ls nL (pv_lc ad (pv_put2 i v l)) := by
  refine pv_has_sub h (fun q hq => ?_)
  obtain ⟨x, hx, rfl⟩ := List.mem_map.mp hq
  rcases List.mem_cons.mp (pv_ins_mem hx) with e | hx
  · rw [e]; exact List.mem_cons_self
  · refine List.mem_cons_of_mem _ ?_
    obtain ⟨h1, h2⟩ := List.mem_filter.mp hx
    exact List.mem_filter.mpr ⟨List.mem_map.mpr ⟨x, h1, rfl⟩, by simpa [pv_cat] using h2⟩
theorem pv_lc_args (ad : Nat → Nat) (As : List Value) : ∀ i, lv_args i (As.map (pv_v ad)) = pv_lc ad (lv_args i As) := by
  induction As with
  | nil => intro i; rfl
  | cons v As ih => intro i; simp [lv_args, pv_lc, pv_cat, ih] <;> simp [pv_lc]
theorem pv_wd_map (ad : Nat → Nat) (r : List Value) : ((r.map (pv_v ad)).map fun v => v.category).sum = pv_wd r := by
  simp [pv_wd, Function.comp_def, pv_cat]
theorem pv_sl_len (vs : List Value) : (lg_sl vs).length = pv_wd vs := by
  induction vs with
  | nil => rfl
  | cons v vs ih =>
    have e1 : (lg_sl (v :: vs)).length = (if v.category = 2 then [Slot.val v, Slot.second] else [Slot.val v]).length + (lg_sl vs).length := by simp [lg_sl]
    have e2 : pv_wd (v :: vs) = v.category + pv_wd vs := by simp [pv_wd]
    rw [e1, e2, ih]
    rcases lv_cat v with h | h <;> simp [h]
def pv_tys (cA : Nat → Nat) : List (ClassId × FieldType) := [(cA 0, .int), (cA 1, .byte), (cA 2, .boolean), (cA 3, .long)]
