section
/-! THE PURE MACHINE: configurations whose references are numbers of cells; one step as a transformer of predicates -/
abbrev pv_S : Type := List va_E
abbrev pv_L : Type := List (Nat × Value)
abbrev pv_c : Type := Nat × pv_L × List Value × pv_S
abbrev pv_I : Type := Instr × Nat × Nat × Nat × Nat × Value
abbrev pv_R : Type := Option Value → pv_S → Prop
abbrev pv_C : Type := Nat → List Value → pv_S → pv_R → Prop
def pv_at {α : Type} : List α → Nat → Option α
  | [], _ => none
  | x :: _, 0 => some x
  | _ :: l, n + 1 => pv_at l n
def pv_set {α : Type} : List α → Nat → α → List α
  | [], _, _ => []
  | _ :: l, 0, y => y :: l
  | x :: l, n + 1, y => x :: pv_set l n y
theorem pv_at_eq {α : Type} (l : List α) (n : Nat) : pv_at l n = l[n]? := by
  induction l generalizing n with
  | nil => simp [pv_at]
  | cons x l ih => cases n with
    | zero => simp [pv_at]
    | succ n => simp [pv_at, ih]
theorem pv_set_eq {α : Type} (l : List α) (n : Nat) (y : α) : pv_set l n y = l.set n y := by
  induction l generalizing n with
  | nil => simp [pv_set]
  | cons x l ih => cases n with
    | zero => simp [pv_set]
    | succ n => simp [pv_set, ih]
def pv_get : pv_L → Nat → Option Value
  | [], _ => none
  | q :: l, i => bif Nat.beq q.1 i then some q.2 else pv_get l i
theorem pv_get_mem {l : pv_L} {i : Nat} {v : Value} (h : pv_get l i = some v) : (i, v) ∈ l := by
  induction l with
  | nil => cases h
  | cons q l ih =>
    unfold pv_get at h
    by_cases hq : Nat.beq q.1 i = true
    · rw [hq] at h
      have h1 : q.2 = v := Option.some.inj h
      have h2 : q.1 = i := Nat.eq_of_beq_eq_true hq
      rw [← h1, ← h2]
      exact List.mem_cons_self
    · have hq' : Nat.beq q.1 i = false := by
        cases hb : Nat.beq q.1 i with
        | true => exact absurd hb hq
        | false => rfl
      rw [hq'] at h
      exact List.mem_cons_of_mem _ (ih h)
def pv_put (i : Nat) (v : Value) (l : pv_L) : pv_L := (i, v) :: l.filter (fun q => !(q.1 == i) && !(q.1 + 1 == i && q.2.category == 2))
def pv_put2 (i : Nat) (v : Value) (l : pv_L) : pv_L := (i, v) :: l.filter (fun q => !(q.1 == i) && (!(q.1 == i + 1) && !(q.1 + 1 == i && q.2.category == 2)))
def pv_pop : Nat → List Value → List Value → Option (List Value × List Value)
  | 0, acc, st => some (acc, st)
  | n + 1, acc, v :: st => pv_pop n (v :: acc) st
  | _ + 1, _, [] => none
theorem pv_pop_eq : ∀ (n : Nat) (acc st As r : List Value), pv_pop n acc st = some (As, r) → ∃ L : List Value, L.length = n ∧ As = L ++ acc ∧ st = L.reverse ++ r := by
  intro n
  induction n with
  | zero =>
    intro acc st As r h
    cases h
    exact ⟨[], rfl, rfl, rfl⟩
  | succ n ih =>
    intro acc st As r h
    cases st with
    | nil => cases h
    | cons v st =>
      obtain ⟨L, h1, h2, h3⟩ := ih (v :: acc) st As r h
      refine ⟨L ++ [v], by simp [h1], by simp [h2], by simp [h3]⟩
def pv_wd (l : List Value) : Nat := (l.map fun v => v.category).sum
def pv_gi (o : Option Value) (f : Int32 → Prop) : Prop := match o with
  | some (.int x) => f x
  | _ => False
def pv_gl (o : Option Value) (f : Int64 → Prop) : Prop := match o with
  | some (.long x) => f x
  | _ => False
def pv_gr (o : Option Value) (f : Nat → Prop) : Prop := match o with
  | some (.ref x) => f x
  | _ => False
def pv_1i (st : List Value) (f : Int32 → List Value → Prop) : Prop := match st with
  | .int x :: r => f x r
  | _ => False
def pv_2i (st : List Value) (f : Int32 → Int32 → List Value → Prop) : Prop := match st with
  | .int y :: .int x :: r => f x y r
  | _ => False
def pv_1l (st : List Value) (f : Int64 → List Value → Prop) : Prop := match st with
  | .long x :: r => f x r
  | _ => False
def pv_2l (st : List Value) (f : Int64 → Int64 → List Value → Prop) : Prop := match st with
  | .long y :: .long x :: r => f x y r
  | _ => False
def pv_li (st : List Value) (f : Int64 → Int32 → List Value → Prop) : Prop := match st with
  | .int y :: .long x :: r => f x y r
  | _ => False
def pv_1r (st : List Value) (f : Nat → List Value → Prop) : Prop := match st with
  | .ref a :: r => f a r
  | _ => False
def pv_ir (st : List Value) (f : Int32 → Nat → List Value → Prop) : Prop := match st with
  | .int i :: .ref a :: r => f i a r
  | _ => False
def pv_iir (st : List Value) (f : Int32 → Int32 → Nat → List Value → Prop) : Prop := match st with
  | .int x :: .int i :: .ref a :: r => f x i a r
  | _ => False
def pv_lir (st : List Value) (f : Int64 → Int32 → Nat → List Value → Prop) : Prop := match st with
  | .long x :: .int i :: .ref a :: r => f x i a r
  | _ => False
def pv_ob (S : pv_S) (a ci : Nat) (f : List Value → Prop) : Prop := match pv_at S a with
  | some (.inr (c, fs)) => bif Nat.beq c ci then f fs else False
  | _ => False
def pv_ai (S : pv_S) (a : Nat) (f : Nat → Nat → (Nat → Int32) → Prop) : Prop := match pv_at S a with
  | some (.inl (t, n, .inl g)) => f t n g
  | _ => False
def pv_al (S : pv_S) (a : Nat) (f : Nat → Nat → (Nat → Int64) → Prop) : Prop := match pv_at S a with
  | some (.inl (t, n, .inr (.inl g))) => f t n g
  | _ => False
def pv_an (S : pv_S) (a : Nat) (f : Nat → Nat → Prop) : Prop := match pv_at S a with
  | some (.inl q) => f q.1 q.2.1
  | _ => False
def pv_ri (st : List Value) (f : Int32 → Prop) : Prop := match st with
  | [.int x] => f x
  | _ => False
def pv_rl (st : List Value) (f : Int64 → Prop) : Prop := match st with
  | [.long x] => f x
  | _ => False
def pv_so (o : Option Value) (f : Value → Prop) : Prop := match o with
  | some v => f v
  | none => False
def pv_if (P : Prop) (kt kf : Prop) : Prop := (P → kt) ∧ (¬ P → kf)
def pv_sw (k : Nat → Prop) (pc : Nat) (x : Int32) : List (Int × Int) → Int → Prop
  | [], d => k ((pc : Int) + d).toNat
  | q :: r, d => (x = Int32.ofInt q.1 → k ((pc : Int) + q.2).toNat) ∧ (¬ x = Int32.ofInt q.1 → pv_sw k pc x r d)
def pv_tb (lo : Int) : Nat → List Int → List (Int × Int)
  | _, [] => []
  | n, o :: r => (lo + (n : Int), o) :: pv_tb lo (n + 1) r
def pv_ol (o : Option Value) (r : List Value) : List Value := match o with
  | some v => v :: r
  | none => r
/-- one instruction -/
def pv_ex (rt : Nat) (call : pv_C) (Q : pv_R) (k : pv_c → Prop) (nx a1 a2 : Nat) (v : Value) (pc : Nat) (ls : pv_L) (st : List Value) (S : pv_S) (ins : Instr) : Prop := match ins with
  | .iconst _ => k (nx, ls, v :: st, S)
  | .bipush _ => k (nx, ls, v :: st, S)
  | .sipush _ => k (nx, ls, v :: st, S)
  | .lconst _ => k (nx, ls, v :: st, S)
  | .ldc _ => k (nx, ls, v :: st, S)
  | .ldc2_w _ => k (nx, ls, v :: st, S)
  | .iload _ => pv_gi (pv_get ls a1) fun x => k (nx, ls, .int x :: st, S)
  | .iload_n _ => pv_gi (pv_get ls a1) fun x => k (nx, ls, .int x :: st, S)
  | .lload _ => pv_gl (pv_get ls a1) fun x => k (nx, ls, .long x :: st, S)
  | .lload_n _ => pv_gl (pv_get ls a1) fun x => k (nx, ls, .long x :: st, S)
  | .aload _ => pv_gr (pv_get ls a1) fun x => k (nx, ls, .ref x :: st, S)
  | .aload_n _ => pv_gr (pv_get ls a1) fun x => k (nx, ls, .ref x :: st, S)
  | .istore _ => pv_1i st fun x r => k (nx, pv_put a1 (.int x) ls, r, S)
  | .istore_n _ => pv_1i st fun x r => k (nx, pv_put a1 (.int x) ls, r, S)
  | .lstore _ => pv_1l st fun x r => k (nx, pv_put2 a1 (.long x) ls, r, S)
  | .lstore_n _ => pv_1l st fun x r => k (nx, pv_put2 a1 (.long x) ls, r, S)
  | .iinc _ _ => pv_gi (pv_get ls a1) fun x => pv_gi (some v) fun n => k (nx, pv_put a1 (.int (x + n)) ls, st, S)
  | .iadd => pv_2i st fun x y r => k (nx, ls, .int (x + y) :: r, S)
  | .isub => pv_2i st fun x y r => k (nx, ls, .int (x - y) :: r, S)
  | .imul => pv_2i st fun x y r => k (nx, ls, .int (x * y) :: r, S)
  | .iand => pv_2i st fun x y r => k (nx, ls, .int (x &&& y) :: r, S)
  | .ior => pv_2i st fun x y r => k (nx, ls, .int (x ||| y) :: r, S)
  | .ixor => pv_2i st fun x y r => k (nx, ls, .int (x ^^^ y) :: r, S)
  | .ishl => pv_2i st fun x y r => k (nx, ls, .int (x <<< (y &&& 31)) :: r, S)
  | .ishr => pv_2i st fun x y r => k (nx, ls, .int (x >>> (y &&& 31)) :: r, S)
  | .idiv => pv_2i st fun x y r => ¬ y = 0 ∧ k (nx, ls, .int (x / y) :: r, S)
  | .irem => pv_2i st fun x y r => ¬ y = 0 ∧ k (nx, ls, .int (x - x / y * y) :: r, S)
  | .ladd => pv_2l st fun x y r => k (nx, ls, .long (x + y) :: r, S)
  | .land => pv_2l st fun x y r => k (nx, ls, .long (x &&& y) :: r, S)
  | .lor => pv_2l st fun x y r => k (nx, ls, .long (x ||| y) :: r, S)
  | .lxor => pv_2l st fun x y r => k (nx, ls, .long (x ^^^ y) :: r, S)
  | .lshl => pv_li st fun x y r => k (nx, ls, .long (x <<< (y.toInt64 &&& 63)) :: r, S)
  | .lshr => pv_li st fun x y r => k (nx, ls, .long (x >>> (y.toInt64 &&& 63)) :: r, S)
  | .lushr => pv_li st fun x y r => k (nx, ls, .long ((x.toUInt64 >>> (y.toInt64.toUInt64 &&& Int64.toUInt64 63)).toInt64) :: r, S)
  | .lcmp => pv_2l st fun x y r => k (nx, ls, .int (lg_cmp x y) :: r, S)
  | .i2l => pv_1i st fun x r => k (nx, ls, .long x.toInt64 :: r, S)
  | .l2i => pv_1l st fun x r => k (nx, ls, .int x.toInt32 :: r, S)
  | .i2b => pv_1i st fun x r => k (nx, ls, .int x.toInt8.toInt32 :: r, S)
  | .dup => match st with
    | w :: r => bif Nat.beq w.category 1 then k (nx, ls, w :: w :: r, S) else False
    | _ => False
  | .dup2 => match st with
    | w :: u :: r => bif (Nat.beq w.category 1 && Nat.beq u.category 1) then k (nx, ls, w :: u :: w :: u :: r, S) else False
    | _ => False
  | .pop => match st with
    | w :: r => bif Nat.beq w.category 1 then k (nx, ls, r, S) else False
    | _ => False
  | .pop2 => match st with
    | w :: r => bif Nat.beq w.category 2 then k (nx, ls, r, S) else False
    | _ => False
  | .goto _ => k (a1, ls, st, S)
  | .ifCond c _ => pv_1i st fun x r => match c with
    | .eq => pv_if (x = 0) (k (a1, ls, r, S)) (k (nx, ls, r, S))
    | .ne => pv_if (x = 0) (k (nx, ls, r, S)) (k (a1, ls, r, S))
    | .lt => pv_if (x < 0) (k (a1, ls, r, S)) (k (nx, ls, r, S))
    | .ge => pv_if (0 ≤ x) (k (a1, ls, r, S)) (k (nx, ls, r, S))
    | .gt => pv_if (0 < x) (k (a1, ls, r, S)) (k (nx, ls, r, S))
    | .le => pv_if (x ≤ 0) (k (a1, ls, r, S)) (k (nx, ls, r, S))
  | .if_icmp c _ => pv_2i st fun x y r => match c with
    | .eq => pv_if (x = y) (k (a1, ls, r, S)) (k (nx, ls, r, S))
    | .ne => pv_if (x = y) (k (nx, ls, r, S)) (k (a1, ls, r, S))
    | .lt => pv_if (x < y) (k (a1, ls, r, S)) (k (nx, ls, r, S))
    | .ge => pv_if (y ≤ x) (k (a1, ls, r, S)) (k (nx, ls, r, S))
    | .gt => pv_if (y < x) (k (a1, ls, r, S)) (k (nx, ls, r, S))
    | .le => pv_if (x ≤ y) (k (a1, ls, r, S)) (k (nx, ls, r, S))
  | .lookupswitch d ps => pv_1i st fun x r => pv_sw (fun t => k (t, ls, r, S)) pc x ps.toList d
  | .tableswitch d lo _ offs => pv_1i st fun x r => pv_sw (fun t => k (t, ls, r, S)) pc x (pv_tb lo 0 offs.toList) d
  | .getfield _ => pv_1r st fun a r => pv_ob S a a1 fun fs => pv_so (pv_at fs a2) fun w => k (nx, ls, w :: r, S)
  | .putfield _ => match v with
    | .null => pv_ir st fun x a r => pv_ob S a a1 fun fs => pv_so (pv_at fs a2) fun _ => k (nx, ls, r, pv_set S a (.inr (a1, pv_set fs a2 (.int x))))
    | .int _ => pv_ir st fun x a r => pv_ob S a a1 fun fs => pv_so (pv_at fs a2) fun _ => (x = 0 ∨ x = 1) ∧ k (nx, ls, r, pv_set S a (.inr (a1, pv_set fs a2 (.int x))))
    | .long _ => pv_1l st fun x r => pv_1r r fun a r => pv_ob S a a1 fun fs => pv_so (pv_at fs a2) fun _ => k (nx, ls, r, pv_set S a (.inr (a1, pv_set fs a2 (.long x))))
    | _ => False
  | .iaload => pv_ir st fun i a r => pv_ai S a fun t n f => bif Nat.beq t 0 then vp_in i n ∧ k (nx, ls, .int (f i.toNatClampNeg) :: r, S) else False
  | .baload => pv_ir st fun i a r => pv_ai S a fun t n f => bif (Nat.beq t 1 || Nat.beq t 2) then vp_in i n ∧ k (nx, ls, .int (f i.toNatClampNeg) :: r, S) else False
  | .laload => pv_ir st fun i a r => pv_al S a fun t n f => bif Nat.beq t 3 then vp_in i n ∧ k (nx, ls, .long (f i.toNatClampNeg) :: r, S) else False
  | .iastore => pv_iir st fun x i a r => pv_ai S a fun t n f => bif Nat.beq t 0 then vp_in i n ∧ k (nx, ls, r, pv_set S a (.inl (0, n, .inl (upd f i.toNatClampNeg x)))) else False
  | .bastore => pv_iir st fun x i a r => pv_ai S a fun t n f => bif Nat.beq t 1 then vp_in i n ∧ k (nx, ls, r, pv_set S a (.inl (1, n, .inl (upd f i.toNatClampNeg x.toInt8.toInt32)))) else (bif Nat.beq t 2 then (vp_in i n ∧ (x = 0 ∨ x = 1)) ∧ k (nx, ls, r, pv_set S a (.inl (2, n, .inl (upd f i.toNatClampNeg x)))) else False)
  | .lastore => pv_lir st fun x i a r => pv_al S a fun t n f => bif Nat.beq t 3 then vp_in i n ∧ k (nx, ls, r, pv_set S a (.inl (3, n, .inr (.inl (vp_updL f i.toNatClampNeg x))))) else False
  | .arraylength => pv_1r st fun a r => pv_an S a fun t n => bif Nat.blt t 4 then k (nx, ls, .int (Int32.ofNat n) :: r, S) else False
  | .invokevirtual _ => match pv_pop a2 [] st with
    | some (As, .ref b :: r) => bif Nat.ble (pv_wd r) 8 then pv_gr (some v) fun ci => pv_ob S b ci fun _ => call a1 (.ref b :: As) S (fun o S' => k (nx, ls, pv_ol o r, S')) else False
    | _ => False
  | .invokestatic _ => match pv_pop a2 [] st with
    | some (As, r) => bif Nat.ble (pv_wd r) 8 then call a1 As S (fun o S' => k (nx, ls, pv_ol o r, S')) else False
    | _ => False
  | .ireturn => pv_ri st fun x => bif Nat.beq rt 0 then Q (some (.int x)) S else (bif Nat.beq rt 1 then (x = 0 ∨ x = 1) ∧ Q (some (.int x)) S else False)
  | .lreturn => pv_rl st fun x => bif Nat.beq rt 2 then Q (some (.long x)) S else False
  | .return_ => match st with
    | [] => bif Nat.beq rt 3 then Q none S else False
    | _ => False
  | _ => False
def pv_st (T : Nat → Option pv_I) (rt : Nat) (call : pv_C) (Q : pv_R) (k : pv_c → Prop) (c : pv_c) : Prop := match T c.1 with
  | some (ins, _, nx, a1, a2, v) => pv_ex rt call Q k nx a1 a2 v c.1 c.2.1 c.2.2.1 c.2.2.2 ins
  | none => False
end
section
/-! THE PURE MACHINE IS SOUND: what it says of a method, the machine does -/
theorem pv_gi_inv {v : Option Value} {f : Int32 → Prop} (h : pv_gi v f) : ∃ x, v = some (.int x) ∧ f x := by
  unfold pv_gi at h
  split at h
  · exact ⟨_, rfl, h⟩
  · exact h.elim
theorem pv_gl_inv {v : Option Value} {f : Int64 → Prop} (h : pv_gl v f) : ∃ x, v = some (.long x) ∧ f x := by
  unfold pv_gl at h
  split at h
  · exact ⟨_, rfl, h⟩
  · exact h.elim
theorem pv_gr_inv {v : Option Value} {f : Nat → Prop} (h : pv_gr v f) : ∃ x, v = some (.ref x) ∧ f x := by
  unfold pv_gr at h
  split at h
  · exact ⟨_, rfl, h⟩
  · exact h.elim
theorem pv_1i_inv {st : List Value} {f : Int32 → List Value → Prop} (h : pv_1i st f) : ∃ x r, st = .int x :: r ∧ f x r := by
  unfold pv_1i at h
  split at h
  · exact ⟨_, _, rfl, h⟩
  · exact h.elim
theorem pv_2i_inv {st : List Value} {f : Int32 → Int32 → List Value → Prop} (h : pv_2i st f) : ∃ x y r, st = .int y :: .int x :: r ∧ f x y r := by
  unfold pv_2i at h
  split at h
  · exact ⟨_, _, _, rfl, h⟩
  · exact h.elim
theorem pv_1l_inv {st : List Value} {f : Int64 → List Value → Prop} (h : pv_1l st f) : ∃ x r, st = .long x :: r ∧ f x r := by
  unfold pv_1l at h
  split at h
  · exact ⟨_, _, rfl, h⟩
  · exact h.elim
theorem pv_2l_inv {st : List Value} {f : Int64 → Int64 → List Value → Prop} (h : pv_2l st f) : ∃ x y r, st = .long y :: .long x :: r ∧ f x y r := by
  unfold pv_2l at h
  split at h
  · exact ⟨_, _, _, rfl, h⟩
  · exact h.elim
theorem pv_li_inv {st : List Value} {f : Int64 → Int32 → List Value → Prop} (h : pv_li st f) : ∃ x y r, st = .int y :: .long x :: r ∧ f x y r := by
  unfold pv_li at h
  split at h
  · exact ⟨_, _, _, rfl, h⟩
  · exact h.elim
theorem pv_1r_inv {st : List Value} {f : Nat → List Value → Prop} (h : pv_1r st f) : ∃ x r, st = .ref x :: r ∧ f x r := by
  unfold pv_1r at h
  split at h
  · exact ⟨_, _, rfl, h⟩
  · exact h.elim
theorem pv_ir_inv {st : List Value} {f : Int32 → Nat → List Value → Prop} (h : pv_ir st f) : ∃ i a r, st = .int i :: .ref a :: r ∧ f i a r := by
  unfold pv_ir at h
  split at h
  · exact ⟨_, _, _, rfl, h⟩
  · exact h.elim
theorem pv_iir_inv {st : List Value} {f : Int32 → Int32 → Nat → List Value → Prop} (h : pv_iir st f) : ∃ x i a r, st = .int x :: .int i :: .ref a :: r ∧ f x i a r := by
  unfold pv_iir at h
  split at h
  · exact ⟨_, _, _, _, rfl, h⟩
  · exact h.elim
theorem pv_lir_inv {st : List Value} {f : Int64 → Int32 → Nat → List Value → Prop} (h : pv_lir st f) : ∃ x i a r, st = .long x :: .int i :: .ref a :: r ∧ f x i a r := by
  unfold pv_lir at h
  split at h
  · exact ⟨_, _, _, _, rfl, h⟩
  · exact h.elim
theorem pv_ob_inv {S : pv_S} {a ci : Nat} {f : List Value → Prop} (h : pv_ob S a ci f) : ∃ fs, S[a]? = some (.inr (ci, fs)) ∧ f fs := by
  unfold pv_ob at h
  split at h
  · rename_i c fs hq
    rw [pv_at_eq] at hq
    cases hb : Nat.beq c ci with
    | true =>
      rw [hb] at h
      have hc := Nat.eq_of_beq_eq_true hb
      subst hc
      exact ⟨fs, hq, h⟩
    | false => rw [hb] at h; exact h.elim
  · exact h.elim
theorem pv_ai_inv {S : pv_S} {a : Nat} {f : Nat → Nat → (Nat → Int32) → Prop} (h : pv_ai S a f) : ∃ t n g, S[a]? = some (.inl (t, n, .inl g)) ∧ f t n g := by
  unfold pv_ai at h
  split at h
  · rename_i t n g hq
    rw [pv_at_eq] at hq
    exact ⟨t, n, g, hq, h⟩
  · exact h.elim
theorem pv_al_inv {S : pv_S} {a : Nat} {f : Nat → Nat → (Nat → Int64) → Prop} (h : pv_al S a f) : ∃ t n g, S[a]? = some (.inl (t, n, .inr (.inl g))) ∧ f t n g := by
  unfold pv_al at h
  split at h
  · rename_i t n g hq
    rw [pv_at_eq] at hq
    exact ⟨t, n, g, hq, h⟩
  · exact h.elim
theorem pv_an_inv {S : pv_S} {a : Nat} {f : Nat → Nat → Prop} (h : pv_an S a f) : ∃ q, S[a]? = some (.inl q) ∧ f q.1 q.2.1 := by
  unfold pv_an at h
  split at h
  · rename_i q hq
    rw [pv_at_eq] at hq
    exact ⟨q, hq, h⟩
  · exact h.elim
theorem pv_ri_inv {st : List Value} {f : Int32 → Prop} (h : pv_ri st f) : ∃ x, st = [.int x] ∧ f x := by
  unfold pv_ri at h
  split at h
  · exact ⟨_, rfl, h⟩
  · exact h.elim
theorem pv_rl_inv {st : List Value} {f : Int64 → Prop} (h : pv_rl st f) : ∃ x, st = [.long x] ∧ f x := by
  unfold pv_rl at h
  split at h
  · exact ⟨_, rfl, h⟩
  · exact h.elim
theorem pv_so_inv {v : Option Value} {f : Value → Prop} (h : pv_so v f) : ∃ x, v = some x ∧ f x := by
  unfold pv_so at h
  split at h
  · exact ⟨_, rfl, h⟩
  · exact h.elim
theorem pv_bif {b : Bool} {P : Prop} (h : (bif b then P else False)) : b = true ∧ P := by
  cases b with
  | true => exact ⟨rfl, h⟩
  | false => exact h.elim
def pv_v (ad : Nat → Nat) (v : Value) : Value := match v with
  | .ref k => .ref (ad k)
  | v => v
theorem pv_cat (ad : Nat → Nat) (v : Value) : (pv_v ad v).category = v.category := by cases v <;> rfl
def pv_e (cA ad : Nat → Nat) (x : va_E) : va_E := match x with
  | .inl a => .inl (cA a.1, a.2)
  | .inr q => .inr (q.1, q.2.map (pv_v ad))
def pv_w (cA ad : Nat → Nat) : Nat → pv_S → va_W
  | _, [] => []
  | k, x :: S => (ad k, pv_e cA ad x) :: pv_w cA ad (k + 1) S
theorem pv_w_at (cA ad : Nat → Nat) (S : pv_S) : ∀ i k : Nat, (pv_w cA ad i S)[k]? = (S[k]?).map (fun x => (ad (i + k), pv_e cA ad x)) := by
  induction S with
  | nil => intro i k; simp [pv_w]
  | cons x S ih =>
    intro i k
    cases k with
    | zero => simp [pv_w]
    | succ k =>
      simp only [pv_w, List.getElem?_cons_succ, ih (i + 1) k]
      rw [show i + 1 + k = i + (k + 1) by omega]
theorem pv_w_0 (cA ad : Nat → Nat) {S : pv_S} {k : Nat} {x : va_E} (h : S[k]? = some x) : (pv_w cA ad 0 S)[k]? = some (ad k, pv_e cA ad x) := by
  rw [pv_w_at, h, Nat.zero_add]; rfl
theorem pv_w_set (cA ad : Nat → Nat) (S : pv_S) : ∀ (i k : Nat) (x : va_E), (pv_w cA ad i S).set k (ad (i + k), pv_e cA ad x) = pv_w cA ad i (S.set k x) := by
  induction S with
  | nil => intro i k x; simp [pv_w]
  | cons y S ih =>
    intro i k x
    cases k with
    | zero => simp [pv_w]
    | succ k =>
      simp only [pv_w, List.set_cons_succ]
      rw [show i + (k + 1) = i + 1 + k by omega, ih (i + 1) k x]
theorem pv_w_s0 (cA ad : Nat → Nat) (S : pv_S) (k : Nat) (x : va_E) : (pv_w cA ad 0 S).set k (ad k, pv_e cA ad x) = pv_w cA ad 0 (pv_set S k x) := by
  have h := pv_w_set cA ad S 0 k x
  rw [Nat.zero_add] at h
  rw [h, pv_set_eq]
theorem pv_w_len (cA ad : Nat → Nat) (S : pv_S) : ∀ i, (pv_w cA ad i S).length = S.length := by
  induction S with
  | nil => intro i; rfl
  | cons y S ih => intro i; simp [pv_w, ih]
theorem pv_set_len {α : Type} (l : List α) (n : Nat) (y : α) : (pv_set l n y).length = l.length := by rw [pv_set_eq]; simp
def pv_lc (ad : Nat → Nat) (l : pv_L) : pv_L := l.map (fun q => (q.1, pv_v ad q.2))
theorem pv_lc_get {ad : Nat → Nat} {ls : Array Slot} {nL : Nat} {l : pv_L} {i : Nat} {v : Value} (hl : lv_has ls nL (pv_lc ad l)) (h : pv_get l i = some v) : ls[i]? = some (.val (pv_v ad v)) :=
  hl.2.2 (i, pv_v ad v) (List.mem_map.mpr ⟨(i, v), pv_get_mem h, rfl⟩)
theorem pv_lc_put (ad : Nat → Nat) (i : Nat) (v : Value) (l : pv_L) : (i, pv_v ad v) :: (pv_lc ad l).filter (fun q => !(q.1 == i) && !(q.1 + 1 == i && q.2.category == 2)) = pv_lc ad (pv_put i v l) := by
  simp [pv_lc, pv_put, List.filter_map, Function.comp_def, pv_cat]
theorem pv_lc_put2 (ad : Nat → Nat) (i : Nat) (v : Value) (l : pv_L) : (i, pv_v ad v) :: (pv_lc ad l).filter (fun q => !(q.1 == i) && (!(q.1 == i + 1) && !(q.1 + 1 == i && q.2.category == 2))) = pv_lc ad (pv_put2 i v l) := by
  simp [pv_lc, pv_put2, List.filter_map, Function.comp_def, pv_cat]
theorem pv_lc_args (ad : Nat → Nat) (As : List Value) : ∀ i, lv_args i (As.map (pv_v ad)) = pv_lc ad (lv_args i As) := by
  induction As with
  | nil => intro i; rfl
  | cons v As ih => intro i; simp [lv_args, pv_lc, pv_cat, ih] <;> simp [pv_lc]
theorem pv_wd_map (ad : Nat → Nat) (r : List Value) : ((r.map (pv_v ad)).map fun v => v.category).sum = pv_wd r := by
  simp [pv_wd, Function.comp_def, pv_cat]
theorem pv_sl_len (vs : List Value) : (lg_sl vs).length = pv_wd vs := by
  induction vs with
  | nil => rfl
  | cons v vs ih =>
    have e1 : (lg_sl (v :: vs)).length = (if v.category = 2 then [Slot.val v, Slot.second] else [Slot.val v]).length + (lg_sl vs).length := by simp [lg_sl]
    have e2 : pv_wd (v :: vs) = v.category + pv_wd vs := by simp [pv_wd]
    rw [e1, e2, ih]
    rcases lv_cat v with h | h <;> simp [h]
def pv_tys (cA : Nat → Nat) : List (ClassId × FieldType) := [(cA 0, .int), (cA 1, .byte), (cA 2, .boolean), (cA 3, .long)]
end
section
abbrev pv_M : Type := MethodName × ByteArray × Nat × Option FieldType × Bool × Nat × Nat × (Nat → Option pv_I)
def pv_isN (w : Cond) : Bool := match w with
  | .fieldLinkNest .. => true
  | .methodLinkNest .. => true
  | _ => false
/-- a field by its number: class a1, place a2, linked from the class own at i -/
def pv_of (cl : List vw_C) (Ts NW : List Cond) (own : String) (i a1 a2 : Nat) : Prop :=
  ∃ C T N, cl[a1]? = some (C, T, N) ∧ a2 < N ∧ (Cond.fieldLink own i C (T a2).2.1 (T a2).2.2.1 ∈ Ts ∨ ∃ host, Cond.fieldLinkNest own i C (T a2).2.1 (T a2).2.2.1 host ∈ NW)
def pv_kd (ty : FieldType) (v : Value) : Bool := match ty, v with
  | .int, .null => true
  | .boolean, .int _ => true
  | .long, .long _ => true
  | _, _ => false
def pv_ml (Ts NW : List Cond) (own : String) (i : Nat) (y : MethodName) : Prop := Cond.methodLink own i y ∈ Ts ∨ ∃ host, Cond.methodLinkNest own i y host ∈ NW
/-- what the tables must say of an instruction -/
def pv_oi (cl : List vw_C) (tyf : Nat → Nat → FieldType) (Ts NW : List Cond) (mt : Nat → Option pv_M) (own : String) (nL pc len a1 a2 : Nat) (v : Value) (ins : Instr) : Prop := match ins with
  | .iconst n => v = .int (Int32.ofInt n) ∧ len = 1
  | .bipush n => v = .int (Int8.ofInt n).toInt32 ∧ len = 2
  | .sipush n => v = .int (Int16.ofInt n).toInt32 ∧ len = 3
  | .lconst n => v = .long (Int64.ofNat n.val) ∧ len = 1
  | .ldc i => (∃ x, v = .int x ∧ Cond.constant own i x ∈ Ts) ∧ len = 2
  | .ldc2_w i => (∃ x, v = .long x ∧ Cond.constantLong own i x ∈ Ts) ∧ len = 3
  | .iload i => i = a1 ∧ len = 2
  | .iload_n i => i.val = a1 ∧ len = 1
  | .lload i => i = a1 ∧ len = 2
  | .lload_n i => i.val = a1 ∧ len = 1
  | .aload i => i = a1 ∧ len = 2
  | .aload_n i => i.val = a1 ∧ len = 1
  | .istore i => (i = a1 ∧ len = 2) ∧ a1 < nL
  | .istore_n i => (i.val = a1 ∧ len = 1) ∧ a1 < nL
  | .lstore i => (i = a1 ∧ len = 2) ∧ a1 + 1 < nL
  | .lstore_n i => (i.val = a1 ∧ len = 1) ∧ a1 + 1 < nL
  | .iinc i n => ((i = a1 ∧ len = 3) ∧ a1 < nL) ∧ v = .int (Int32.ofInt n)
  | .goto off => (pc : Int) + off = (a1 : Int) ∧ len = 3
  | .ifCond _ off => (pc : Int) + off = (a1 : Int) ∧ len = 3
  | .if_icmp _ off => (pc : Int) + off = (a1 : Int) ∧ len = 3
  | .lookupswitch d ps => ((ps.toList.zip (ps.toList.drop 1)).all (fun (a, next) => a.1 < next.1) = true ∧ 0 ≤ (pc : Int) + d) ∧ ∀ q ∈ ps.toList, (Int32.ofInt q.1).toInt = q.1 ∧ 0 ≤ (pc : Int) + q.2
  | .tableswitch d lo hi offs => (hi + 1 = lo + (offs.size : Int) ∧ 0 ≤ (pc : Int) + d) ∧ ∀ q ∈ pv_tb lo 0 offs.toList, (Int32.ofInt q.1).toInt = q.1 ∧ 0 ≤ (pc : Int) + q.2
  | .getfield i => len = 3 ∧ pv_of cl Ts NW own i a1 a2
  | .putfield i => (len = 3 ∧ pv_of cl Ts NW own i a1 a2) ∧ ((∀ C T N, cl[a1]? = some (C, T, N) → (T a2).2.2.2 = false) ∧ pv_kd (tyf a1 a2) v = true)
  | .invokevirtual i => len = 3 ∧ ∃ x, mt a1 = some x ∧ (x.2.2.2.2.1 = false ∧ a2 = x.2.2.2.2.2.1) ∧ (∃ ci T N, v = .ref ci ∧ cl[ci]? = some (x.1.cls, T, N)) ∧ pv_ml Ts NW own i x.1
  | .invokestatic i => len = 3 ∧ ((a1 = 999 ∧ a2 = 5 ∧ Cond.methodLink own i arraycopyName ∈ Ts ∧ Cond.native arraycopyName ∈ Ts ∧ Cond.static arraycopyName ∈ Ts ∧ Cond.initialized "java/lang/System" ∈ Ts) ∨ (a1 = 998 ∧ a2 = 2 ∧ Cond.methodLink own i Lib.Math.min.name ∈ Ts ∧ Cond.static Lib.Math.min.name ∈ Ts ∧ Cond.initialized "java/lang/Math" ∈ Ts ∧ Cond.code Lib.Math.min.name Lib.Math.min.code 2 (some .int) ∈ Ts) ∨ ((¬ a1 = 999 ∧ ¬ a1 = 998) ∧ ∃ x, mt a1 = some x ∧ (x.2.2.2.2.1 = true ∧ a2 = x.2.2.2.2.2.1) ∧ pv_ml Ts NW own i x.1))
  | _ => len = 1
def pv_rt (rt : Nat) (ret : Option FieldType) : Bool := match rt, ret with
  | 0, some .int => true
  | 1, some .boolean => true
  | 2, some .long => true
  | 3, none => true
  | _, _ => false
section PVS
variable {p : Program} {l : Launch} {e : Env} {R : Room} {s : State} {m : MethodId} {args : Array Value} {below : List Frame} {meth : Method} {c : Code}
variable {cl : List vw_C} {tyf : Nat → Nat → FieldType} {Ts NW : List Cond} {mt : Nat → Option pv_M} {D : va_G} {cA ad : Nat → Nat} {A : Nat → Prop} {H0 : Heap} {n nL : Nat} {own : String} {cc : ByteArray}
/-- the world of a store -/
def pv_Wo (D : va_G) (cl : List vw_C) (cA ad : Nat → Nat) (A : Nat → Prop) (H0 : Heap) (n : Nat) (S : pv_S) (H : Heap) (locs : List Loc) : Prop := S.length = n ∧ va_P D cl (pv_w cA ad 0 S) H ∧ va_S A H0 H locs
theorem pv_swS {k : Nat → Prop} {pc : Nat} {x : Int32} {d : Int} (hd : 0 ≤ (pc : Int) + d) : ∀ (ps : List (Int × Int)), (∀ q ∈ ps, (Int32.ofInt q.1).toInt = q.1 ∧ 0 ≤ (pc : Int) + q.2) → pv_sw k pc x ps d → ∃ tgt : Nat, (pc : Int) + lookupswitch.offset ps d x.toInt = (tgt : Int) ∧ k tgt := by
  intro ps
  induction ps with
  | nil =>
    intro _ h
    exact ⟨((pc : Int) + d).toNat, by show (pc : Int) + d = _; omega, h⟩
  | cons q ps ih =>
    intro hq h
    obtain ⟨a, o⟩ := q
    obtain ⟨h1, h2⟩ := hq (a, o) List.mem_cons_self
    have ih := ih (fun q hq' => hq q (List.mem_cons_of_mem _ hq'))
    rw [lookupswitch.offset_cons]
    by_cases hx : x = Int32.ofInt a
    · have e : a = x.toInt := by rw [hx]; exact h1.symm
      rw [if_pos e]
      exact ⟨((pc : Int) + o).toNat, by dsimp only at h2; omega, h.1 hx⟩
    · have e : ¬ a = x.toInt := fun e => hx (by rw [e]; simp)
      rw [if_neg e]
      exact ih (h.2 hx)
theorem pv_tb_off {lo d k : Int} : ∀ (os : List Int) (i : Nat), lookupswitch.offset (pv_tb lo i os) d k = if k < lo + (i : Int) ∨ lo + (i : Int) + (os.length : Int) ≤ k then d else os.getD (k - lo - (i : Int)).toNat d := by
  intro os
  induction os with
  | nil =>
    intro i
    have : (k < lo + (i : Int) ∨ lo + (i : Int) + (([] : List Int).length : Int) ≤ k) := by simp; omega
    rw [if_pos this]; rfl
  | cons o os ih =>
    intro i
    show lookupswitch.offset ((lo + (i : Int), o) :: pv_tb lo (i + 1) os) d k = _
    rw [lookupswitch.offset_cons, ih (i + 1)]
    simp only [List.length_cons]
    by_cases h1 : lo + (i : Int) = k
    · rw [if_pos h1, if_neg (by omega), show (k - lo - (i : Int)).toNat = 0 by omega]; rfl
    · rw [if_neg h1]
      by_cases h2 : k < lo + (i : Int) ∨ lo + (i : Int) + ((os.length + 1 : Nat) : Int) ≤ k
      · rw [if_pos h2, if_pos (by omega)]
      · rw [if_neg h2, if_neg (by omega), show (k - lo - (i : Int)).toNat = (k - lo - ((i + 1 : Nat) : Int)).toNat + 1 by omega]; rfl
end PVS
end
section
section PVX
variable {p : Program} {l : Launch} {e : Env} {R : Room} {s : State} {m : MethodId} {args : Array Value} {below : List Frame} {meth : Method} {c : Code}
variable {cl : List vw_C} {tyf : Nat → Nat → FieldType} {Ts NW : List Cond} {mt : Nat → Option pv_M} {D : va_G} {cA ad : Nat → Nat} {A : Nat → Prop} {H0 : Heap} {n nL : Nat} {own : String} {cc : ByteArray}
/-- the tables, class by class -/
def pv_okC (cl : List vw_C) (tyf : Nat → Nat → FieldType) (Ts : List Cond) : Prop := ∀ (ci : Nat) (C : String) (T : u_T) (N : Nat), cl[ci]? = some (C, T, N) → (∀ w ∈ u_ws C T N, w ∈ Ts) ∧ (∀ k, k < N → parseFieldDescriptor (T k).2.2.1 = some (tyf ci k)) ∧ (∀ x, x < N → ∀ y, y < N → x ≠ y → (T x).2.1 ≠ (T y).2.1) ∧ (∀ k, k < N → (T k).1 = C)
theorem pv_obj {S : pv_S} {H : Heap} {locs : List Loc} (hw : pv_Wo D cl cA ad A H0 n S H locs) {b ci : Nat} {fs : List Value} (h : S[b]? = some (.inr (ci, fs))) : (pv_w cA ad 0 S)[b]? = some (ad b, .inr (ci, fs.map (pv_v ad))) := pv_w_0 cA ad h
theorem pv_sound_get {Q : State → Prop} (hx : p.tables.exec = Jvm.exec) (hb : c.code = cc) (hown : s.vm.findClass own = some m.cls) (hts : ∀ w ∈ Ts, w.before args s = true) (hnw : ∀ w ∈ NW, va_Nw w s) (hK : va_K D cl (pv_tys cA) s) (hC : pv_okC cl tyf Ts) {S : pv_S} {H : Heap} {locs : List Loc} (hw : pv_Wo D cl cA ad A H0 n S H locs) {i a1 a2 pc b : Nat} (hf : pv_of cl Ts NW own i a1 a2) {fs : List Value} (he : S[b]? = some (.inr (a1, fs))) {w : Value} (hv : fs[a2]? = some w) (hd : decode cc pc = .ok (.getfield i, 3)) {lsA : Array Slot} {r : List Value}
    (kk : W p l e R s m args below meth c H locs 0 0 Q (F0 m (pc + 3) lsA (pv_v ad w :: r))) : W p l e R s m args below meth c H locs 0 0 Q (F0 m pc lsA (.ref (ad b) :: r)) := by
  obtain ⟨C, T, N, hc, hk, hl⟩ := hf
  obtain ⟨c1, c2, c3, c4⟩ := hC _ _ _ _ hc
  have hv' : (fs.map (pv_v ad))[a2]? = some (pv_v ad w) := by rw [List.getElem?_map, hv]; rfl
  rcases hl with hl | ⟨host, hl⟩
  · exact va_get (D := D) (ci := a1) (v := pv_v ad w) (C := C) (T := T) (N := N) hx hb hts c1 hown hK hw.2.1 b (pv_obj hw he) hc a2 hk (hts _ hl) (fun x h9 => by rw [c4 a2 hk] at h9; exact h9) hv' hd kk
  · exact va_getN (D := D) (ci := a1) (v := pv_v ad w) (C := C) (T := T) (N := N) hx hb hts c1 hown hK hw.2.1 b (pv_obj hw he) hc a2 hk (va_Nw.use rfl (hnw _ hl)) (fun x h9 => by rw [c4 a2 hk] at h9; exact h9) hv' hd kk
theorem pv_sound_put {Q : State → Prop} (hx : p.tables.exec = Jvm.exec) (hb : c.code = cc) (hown : s.vm.findClass own = some m.cls) (hts : ∀ w ∈ Ts, w.before args s = true) (hnw : ∀ w ∈ NW, va_Nw w s) (hK : va_K D cl (pv_tys cA) s) (hC : pv_okC cl tyf Ts) (hD : ∀ S : pv_S, S.length = n → va_D A (pv_w cA ad 0 S)) {S : pv_S} {H : Heap} {locs : List Loc} (hw : pv_Wo D cl cA ad A H0 n S H locs) {i a1 a2 pc b : Nat} (hf : pv_of cl Ts NW own i a1 a2) (hfin : ∀ C T N, cl[a1]? = some (C, T, N) → (T a2).2.2.2 = false) {fs : List Value} (he : S[b]? = some (.inr (a1, fs))) (hlen : a2 < fs.length) {w : Value} (hvw : pv_v ad w = w) (hn : narrow (tyf a1 a2) w = w) (hfit : fits (tyf a1 a2) w = true) (hd : decode cc pc = .ok (.putfield i, 3)) {lsA : Array Slot} {r : List Value}
    (kk : ∀ (H1 : Heap) (locs1 : List Loc), pv_Wo D cl cA ad A H0 n (pv_set S b (.inr (a1, pv_set fs a2 w))) H1 locs1 → W p l e R s m args below meth c H1 locs1 0 0 Q (F0 m (pc + 3) lsA r)) : W p l e R s m args below meth c H locs 0 0 Q (F0 m pc lsA (w :: .ref (ad b) :: r)) := by
  obtain ⟨C, T, N, hc, hk, hl⟩ := hf
  obtain ⟨c1, c2, c3, c4⟩ := hC _ _ _ _ hc
  have hl2 : a2 < (fs.map (pv_v ad)).length := by rw [List.length_map]; exact hlen
  have hset : (pv_w cA ad 0 S).set b (ad b, .inr (a1, (fs.map (pv_v ad)).set a2 w)) = pv_w cA ad 0 (pv_set S b (.inr (a1, pv_set fs a2 w))) := by
    rw [← pv_w_s0]
    show _ = (pv_w cA ad 0 S).set b (ad b, .inr (a1, (pv_set fs a2 w).map (pv_v ad)))
    rw [pv_set_eq, List.map_set, hvw]
  have kk' : ∀ (H1 : Heap) (locs1 : List Loc), va_P D cl ((pv_w cA ad 0 S).set b (ad b, .inr (a1, (fs.map (pv_v ad)).set a2 w))) H1 → va_D A ((pv_w cA ad 0 S).set b (ad b, .inr (a1, (fs.map (pv_v ad)).set a2 w))) → va_S A H0 H1 locs1 → W p l e R s m args below meth c H1 locs1 0 0 Q (F0 m (pc + 3) lsA r) := by
    intro H1 locs1 h1 _ h3
    rw [hset] at h1
    exact kk H1 locs1 ⟨by rw [pv_set_len]; exact hw.1, h1, h3⟩
  rcases hl with hl | ⟨host, hl⟩
  · exact va_put (D := D) (ci := a1) (v := w) (ty := tyf a1 a2) (C := C) (T := T) (N := N) hx hb hts c1 (tyf a1) c2 c3 hown hK hw.2.1 (hD S hw.1) hw.2.2 b (pv_obj hw he) hc a2 hk (hts _ hl) (fun x h9 => by rw [c4 a2 hk] at h9; exact h9) (hfin _ _ _ hc) (c2 a2 hk) hn hfit hl2 hd kk'
  · exact va_putN (D := D) (ci := a1) (v := w) (ty := tyf a1 a2) (C := C) (T := T) (N := N) hx hb hts c1 (tyf a1) c2 c3 hown hK hw.2.1 (hD S hw.1) hw.2.2 b (pv_obj hw he) hc a2 hk (va_Nw.use rfl (hnw _ hl)) (fun x h9 => by rw [c4 a2 hk] at h9; exact h9) (hfin _ _ _ hc) (c2 a2 hk) hn hfit hl2 hd kk'
theorem pv_kd_i {ty : FieldType} (h : pv_kd ty .null = true) : ty = .int := by cases ty <;> first | rfl | cases h
theorem pv_kd_z {ty : FieldType} {x : Int32} (h : pv_kd ty (.int x) = true) : ty = .boolean := by cases ty <;> first | rfl | cases h
theorem pv_kd_l {ty : FieldType} {x : Int64} (h : pv_kd ty (.long x) = true) : ty = .long := by cases ty <;> first | rfl | cases h
theorem pv_z01 {x : Int32} (h : x = 0 ∨ x = 1) : narrow .boolean (.int x) = .int x ∧ fits .boolean (.int x) = true ∧ vp_nar .boolean x = x := by
  rcases h with rfl | rfl <;> decide +kernel
end PVX
end
section
section PVT
variable {p : Program} {l : Launch} {e : Env} {R : Room} {s : State} {m : MethodId} {args : Array Value} {below : List Frame} {meth : Method} {c : Code}
variable {cl : List vw_C} {tyf : Nat → Nat → FieldType} {Ts NW : List Cond} {mt : Nat → Option pv_M} {D : va_G} {cA ad : Nat → Nat} {A : Nat → Prop} {H0 : Heap} {n nL : Nat} {own : String} {cc : ByteArray}
theorem pv_len_of {α : Type} {l : List α} {k : Nat} {x : α} (h : pv_at l k = some x) : k < l.length := by
  rw [pv_at_eq] at h
  exact (List.getElem?_eq_some_iff.mp h).1
theorem pv_ast {S : pv_S} {H : Heap} {locs : List Loc} (hw : pv_Wo D cl cA ad A H0 n S H locs) {b : Nat} {x : va_E} {H1 : Heap} {locs1 : List Loc} {y : va_E} (hy : y = pv_e cA ad x) (h1 : va_P D cl ((pv_w cA ad 0 S).set b (ad b, y)) H1) (h3 : va_S A H0 H1 locs1) : pv_Wo D cl cA ad A H0 n (pv_set S b x) H1 locs1 := by
  subst hy
  rw [pv_w_s0] at h1
  exact ⟨by rw [pv_set_len]; exact hw.1, h1, h3⟩

set_option maxHeartbeats 4000000 in
set_option maxRecDepth 100000 in
theorem pv_sound_ex {Qs : State → Prop} {rt : Nat} {call : pv_C} {Q : pv_R} {k : pv_c → Prop} {len a1 a2 pc : Nat} {v : Value} {ls : pv_L} {st : List Value} {S : pv_S} {ins : Instr} (hx : p.tables.exec = Jvm.exec) (hb : c.code = cc) (hml : c.maxLocals = nL) (hown : s.vm.findClass own = some m.cls) (hts : ∀ w ∈ Ts, w.before args s = true) (hnw : ∀ w ∈ NW, va_Nw w s) (hK : va_K D cl (pv_tys cA) s) (hC : pv_okC cl tyf Ts) (hD : ∀ S : pv_S, S.length = n → va_D A (pv_w cA ad 0 S))
    (hdc : decode cc pc = .ok (ins, len)) (hoi : pv_oi cl tyf Ts NW mt own nL pc len a1 a2 v ins) (h : pv_ex rt call Q k (pc + len) a1 a2 v pc ls st S ins)
    {H : Heap} {locs : List Loc} (hw : pv_Wo D cl cA ad A H0 n S H locs) {lsA : Array Slot} (hl : lv_has lsA nL (pv_lc ad ls))
    (hk : ∀ c' : pv_c, k c' → ∀ (H : Heap) (locs : List Loc), pv_Wo D cl cA ad A H0 n c'.2.2.2 H locs → ∀ lsA : Array Slot, lv_has lsA nL (pv_lc ad c'.2.1) → W p l e R s m args below meth c H locs 0 0 Qs (F0 m c'.1 lsA (c'.2.2.1.map (pv_v ad))))
    (hQi : ∀ x : Int32, Q (some (.int x)) S → (rt = 0 ∨ (rt = 1 ∧ (x = 0 ∨ x = 1))) → decode cc pc = .ok (.ireturn, 1) → W p l e R s m args below meth c H locs 0 0 Qs (F0 m pc lsA [.int x]))
    (hQl : ∀ x : Int64, Q (some (.long x)) S → rt = 2 → decode cc pc = .ok (.lreturn, 1) → W p l e R s m args below meth c H locs 0 0 Qs (F0 m pc lsA [.long x]))
    (hQv : Q none S → rt = 3 → decode cc pc = .ok (.return_, 1) → W p l e R s m args below meth c H locs 0 0 Qs (F0 m pc lsA []))
    (hcV : ∀ (i ci b : Nat) (fs As r : List Value) (P : pv_R), pv_oi cl tyf Ts NW mt own nL pc 3 a1 As.length (.ref ci) (.invokevirtual i) → S[b]? = some (.inr (ci, fs)) → pv_wd r ≤ 8 → decode cc pc = .ok (.invokevirtual i, 3) → call a1 (.ref b :: As) S P → (∀ o S', P o S' → ∀ (H1 : Heap) (locs1 : List Loc), pv_Wo D cl cA ad A H0 n S' H1 locs1 → W p l e R s m args below meth c H1 locs1 0 0 Qs (F0 m (pc + 3) lsA ((pv_ol o r).map (pv_v ad)))) → W p l e R s m args below meth c H locs 0 0 Qs (F0 m pc lsA ((As.reverse ++ .ref b :: r).map (pv_v ad))))
    (hcS : ∀ (i : Nat) (As r : List Value) (P : pv_R), pv_oi cl tyf Ts NW mt own nL pc 3 a1 As.length v (.invokestatic i) → pv_wd r ≤ 8 → decode cc pc = .ok (.invokestatic i, 3) → call a1 As S P → (∀ o S', P o S' → ∀ (H1 : Heap) (locs1 : List Loc), pv_Wo D cl cA ad A H0 n S' H1 locs1 → W p l e R s m args below meth c H1 locs1 0 0 Qs (F0 m (pc + 3) lsA ((pv_ol o r).map (pv_v ad)))) → W p l e R s m args below meth c H locs 0 0 Qs (F0 m pc lsA ((As.reverse ++ r).map (pv_v ad)))) :
    W p l e R s m args below meth c H locs 0 0 Qs (F0 m pc lsA (st.map (pv_v ad))) := by
  have hP := hw.2.1
  have hDS := hD S hw.1
  have hS := hw.2.2
  cases ins
  case iconst z =>
    obtain ⟨rfl, rfl⟩ := hoi
    exact lv_iconst hx hb hdc rfl (hk _ h H locs hw lsA hl)
  case bipush z =>
    obtain ⟨rfl, rfl⟩ := hoi
    exact lv_bipush hx hb hdc rfl (hk _ h H locs hw lsA hl)
  case sipush z =>
    obtain ⟨rfl, rfl⟩ := hoi
    exact lv_sipush hx hb hdc rfl (hk _ h H locs hw lsA hl)
  case lconst z =>
    obtain ⟨rfl, rfl⟩ := hoi
    exact lv_lconst hx hb hdc rfl (hk _ h H locs hw lsA hl)
  case ldc i =>
    obtain ⟨⟨x, rfl, hc⟩, rfl⟩ := hoi
    exact lv_ldc hx hb hown (hts _ hc) hdc (hk _ h H locs hw lsA hl)
  case ldc2_w i =>
    obtain ⟨⟨x, rfl, hc⟩, rfl⟩ := hoi
    exact lv_ldc2 hx hb hown (hts _ hc) hdc (hk _ h H locs hw lsA hl)
  case iload i =>
    obtain ⟨rfl, rfl⟩ := hoi
    obtain ⟨x, h1, h2⟩ := pv_gi_inv h
    exact lv_iload hx hb hdc (pv_lc_get hl h1) (hk _ h2 H locs hw lsA hl)
  case iload_n i =>
    obtain ⟨h0, rfl⟩ := hoi
    obtain ⟨x, h1, h2⟩ := pv_gi_inv h
    exact lv_iload_n hx hb hdc h0 (pv_lc_get hl h1) (hk _ h2 H locs hw lsA hl)
  case lload i =>
    obtain ⟨rfl, rfl⟩ := hoi
    obtain ⟨x, h1, h2⟩ := pv_gl_inv h
    exact lv_lload hx hb hdc (pv_lc_get hl h1) (hk _ h2 H locs hw lsA hl)
  case lload_n i =>
    obtain ⟨h0, rfl⟩ := hoi
    obtain ⟨x, h1, h2⟩ := pv_gl_inv h
    exact lv_lload_n hx hb hdc h0 (pv_lc_get hl h1) (hk _ h2 H locs hw lsA hl)
  case aload i =>
    obtain ⟨rfl, rfl⟩ := hoi
    obtain ⟨x, h1, h2⟩ := pv_gr_inv h
    exact lv_aload hx hb hdc (pv_lc_get hl h1) (hk _ h2 H locs hw lsA hl)
  case aload_n i =>
    obtain ⟨h0, rfl⟩ := hoi
    obtain ⟨x, h1, h2⟩ := pv_gr_inv h
    exact lv_aload_n hx hb hdc h0 (pv_lc_get hl h1) (hk _ h2 H locs hw lsA hl)
  case istore i =>
    obtain ⟨⟨rfl, rfl⟩, hn⟩ := hoi
    obtain ⟨x, r, rfl, h2⟩ := pv_1i_inv h
    exact lv_istore hx hb hdc hl hn (pv_lc_put ad _ (.int x) ls) (fun ls' hl' => hk _ h2 H locs hw ls' hl')
  case istore_n i =>
    obtain ⟨⟨h0, rfl⟩, hn⟩ := hoi
    obtain ⟨x, r, rfl, h2⟩ := pv_1i_inv h
    exact lv_istore_n hx hb hdc h0 hl hn (pv_lc_put ad _ (.int x) ls) (fun ls' hl' => hk _ h2 H locs hw ls' hl')
  case lstore i =>
    obtain ⟨⟨rfl, rfl⟩, hn⟩ := hoi
    obtain ⟨x, r, rfl, h2⟩ := pv_1l_inv h
    exact lv_lstore hx hb hdc hl hn (pv_lc_put2 ad _ (.long x) ls) (fun ls' hl' => hk _ h2 H locs hw ls' hl')
  case lstore_n i =>
    obtain ⟨⟨h0, rfl⟩, hn⟩ := hoi
    obtain ⟨x, r, rfl, h2⟩ := pv_1l_inv h
    exact lv_lstore_n hx hb hdc h0 hl hn (pv_lc_put2 ad _ (.long x) ls) (fun ls' hl' => hk _ h2 H locs hw ls' hl')
  case iinc i z =>
    obtain ⟨⟨⟨rfl, rfl⟩, hn⟩, rfl⟩ := hoi
    obtain ⟨x, h1, h2⟩ := pv_gi_inv h
    have hm : (i, Value.int x) ∈ pv_lc ad ls := List.mem_map.mpr ⟨(i, .int x), pv_get_mem h1, rfl⟩
    obtain ⟨kx, hkx⟩ := List.mem_iff_getElem?.mp hm
    exact lv_iinc hx hb hdc hl hkx rfl hn (pv_lc_put ad _ (.int _) ls) (fun ls' hl' => hk _ h2 H locs hw ls' hl')
  case iadd =>
    cases hoi
    obtain ⟨x, y, r, rfl, h2⟩ := pv_2i_inv h
    exact lv_iadd hx hb hdc (hk _ h2 H locs hw lsA hl)
  case isub =>
    cases hoi
    obtain ⟨x, y, r, rfl, h2⟩ := pv_2i_inv h
    exact lv_isub hx hb hdc (hk _ h2 H locs hw lsA hl)
  case imul =>
    cases hoi
    obtain ⟨x, y, r, rfl, h2⟩ := pv_2i_inv h
    exact lv_imul hx hb hdc (hk _ h2 H locs hw lsA hl)
  case iand =>
    cases hoi
    obtain ⟨x, y, r, rfl, h2⟩ := pv_2i_inv h
    exact lv_iand hx hb hdc (hk _ h2 H locs hw lsA hl)
  case ior =>
    cases hoi
    obtain ⟨x, y, r, rfl, h2⟩ := pv_2i_inv h
    exact lv_ior hx hb hdc (hk _ h2 H locs hw lsA hl)
  case ixor =>
    cases hoi
    obtain ⟨x, y, r, rfl, h2⟩ := pv_2i_inv h
    exact lv_ixor hx hb hdc (hk _ h2 H locs hw lsA hl)
  case ishl =>
    cases hoi
    obtain ⟨x, y, r, rfl, h2⟩ := pv_2i_inv h
    exact lv_ishl hx hb hdc (hk _ h2 H locs hw lsA hl)
  case ishr =>
    cases hoi
    obtain ⟨x, y, r, rfl, h2⟩ := pv_2i_inv h
    exact lv_ishr hx hb hdc (hk _ h2 H locs hw lsA hl)
  case idiv =>
    cases hoi
    obtain ⟨x, y, r, rfl, h2, h3⟩ := pv_2i_inv h
    exact lv_idiv hx hb hdc h2 (hk _ h3 H locs hw lsA hl)
  case irem =>
    cases hoi
    obtain ⟨x, y, r, rfl, h2, h3⟩ := pv_2i_inv h
    exact lv_irem hx hb hdc h2 (hk _ h3 H locs hw lsA hl)
  case ladd =>
    cases hoi
    obtain ⟨x, y, r, rfl, h2⟩ := pv_2l_inv h
    exact lv_ladd hx hb hdc (hk _ h2 H locs hw lsA hl)
  case land =>
    cases hoi
    obtain ⟨x, y, r, rfl, h2⟩ := pv_2l_inv h
    exact lv_land hx hb hdc (hk _ h2 H locs hw lsA hl)
  case lor =>
    cases hoi
    obtain ⟨x, y, r, rfl, h2⟩ := pv_2l_inv h
    exact lv_lor hx hb hdc (hk _ h2 H locs hw lsA hl)
  case lxor =>
    cases hoi
    obtain ⟨x, y, r, rfl, h2⟩ := pv_2l_inv h
    exact lv_lxor hx hb hdc (hk _ h2 H locs hw lsA hl)
  case lshl =>
    cases hoi
    obtain ⟨x, y, r, rfl, h2⟩ := pv_li_inv h
    exact lv_lshl hx hb hdc rfl (hk _ h2 H locs hw lsA hl)
  case lshr =>
    cases hoi
    obtain ⟨x, y, r, rfl, h2⟩ := pv_li_inv h
    exact lv_lshr hx hb hdc rfl (hk _ h2 H locs hw lsA hl)
  case lushr =>
    cases hoi
    obtain ⟨x, y, r, rfl, h2⟩ := pv_li_inv h
    exact lv_lushr hx hb hdc rfl (hk _ h2 H locs hw lsA hl)
  case lcmp =>
    cases hoi
    obtain ⟨x, y, r, rfl, h2⟩ := pv_2l_inv h
    exact W.lcmp hx hb hdc (hk _ h2 H locs hw lsA hl)
  case i2l =>
    cases hoi
    obtain ⟨x, r, rfl, h2⟩ := pv_1i_inv h
    exact lv_i2l hx hb hdc rfl (hk _ h2 H locs hw lsA hl)
  case l2i =>
    cases hoi
    obtain ⟨x, r, rfl, h2⟩ := pv_1l_inv h
    exact lv_l2i hx hb hdc rfl (hk _ h2 H locs hw lsA hl)
  case i2b =>
    cases hoi
    obtain ⟨x, r, rfl, h2⟩ := pv_1i_inv h
    exact lv_i2b hx hb hdc rfl (hk _ h2 H locs hw lsA hl)
  case dup =>
    cases hoi
    rcases st with _ | ⟨w, r⟩
    · exact False.elim h
    · obtain ⟨h1, h2⟩ := pv_bif h
      exact lv_dup hx hb hdc (by rw [pv_cat]; exact Nat.eq_of_beq_eq_true h1) (hk _ h2 H locs hw lsA hl)
  case pop =>
    cases hoi
    rcases st with _ | ⟨w, r⟩
    · exact False.elim h
    · obtain ⟨h1, h2⟩ := pv_bif h
      exact lv_pop hx hb hdc (by rw [pv_cat]; exact Nat.eq_of_beq_eq_true h1) (hk _ h2 H locs hw lsA hl)
  case pop2 =>
    cases hoi
    rcases st with _ | ⟨w, r⟩
    · exact False.elim h
    · obtain ⟨h1, h2⟩ := pv_bif h
      exact lv_pop2_2 hx hb hdc (by rw [pv_cat]; exact Nat.eq_of_beq_eq_true h1) (hk _ h2 H locs hw lsA hl)
  case dup2 =>
    cases hoi
    rcases st with _ | ⟨w, _ | ⟨u, r⟩⟩
    · exact False.elim h
    · exact False.elim h
    · obtain ⟨h1, h2⟩ := pv_bif h
      rw [Bool.and_eq_true] at h1
      exact lv_dup2_11 hx hb hdc (by rw [pv_cat]; exact Nat.eq_of_beq_eq_true h1.1) (by rw [pv_cat]; exact Nat.eq_of_beq_eq_true h1.2) (hk _ h2 H locs hw lsA hl)
  case goto off =>
    obtain ⟨ht, rfl⟩ := hoi
    exact lv_goto hx hb hdc ht (hk _ h H locs hw lsA hl)
  case ifCond cd off =>
    obtain ⟨ht, rfl⟩ := hoi
    obtain ⟨x, r, rfl, h2⟩ := pv_1i_inv h
    cases cd
    case eq => exact lv_if_eq hx hb hdc ht (fun q => hk _ (h2.1 q) H locs hw lsA hl) (fun q => hk _ (h2.2 q) H locs hw lsA hl)
    case ne => exact lv_if_ne hx hb hdc ht (fun q => hk _ (h2.2 q) H locs hw lsA hl) (fun q => hk _ (h2.1 q) H locs hw lsA hl)
    case lt => exact lv_if_lt hx hb hdc ht (fun q => hk _ (h2.1 q) H locs hw lsA hl) (fun q => hk _ (h2.2 q) H locs hw lsA hl)
    case ge => exact lv_if_ge hx hb hdc ht (fun q => hk _ (h2.1 q) H locs hw lsA hl) (fun q => hk _ (h2.2 q) H locs hw lsA hl)
    case gt => exact lv_if_gt hx hb hdc ht (fun q => hk _ (h2.1 q) H locs hw lsA hl) (fun q => hk _ (h2.2 q) H locs hw lsA hl)
    case le => exact lv_if_le hx hb hdc ht (fun q => hk _ (h2.1 q) H locs hw lsA hl) (fun q => hk _ (h2.2 q) H locs hw lsA hl)
  case if_icmp cd off =>
    obtain ⟨ht, rfl⟩ := hoi
    obtain ⟨x, y, r, rfl, h2⟩ := pv_2i_inv h
    cases cd
    case eq => exact lv_icmp_eq hx hb hdc ht (fun q => hk _ (h2.1 q) H locs hw lsA hl) (fun q => hk _ (h2.2 q) H locs hw lsA hl)
    case ne => exact lv_icmp_ne hx hb hdc ht (fun q => hk _ (h2.2 q) H locs hw lsA hl) (fun q => hk _ (h2.1 q) H locs hw lsA hl)
    case lt => exact lv_icmp_lt hx hb hdc ht (fun q => hk _ (h2.1 q) H locs hw lsA hl) (fun q => hk _ (h2.2 q) H locs hw lsA hl)
    case ge => exact lv_icmp_ge hx hb hdc ht (fun q => hk _ (h2.1 q) H locs hw lsA hl) (fun q => hk _ (h2.2 q) H locs hw lsA hl)
    case gt => exact lv_icmp_gt hx hb hdc ht (fun q => hk _ (h2.1 q) H locs hw lsA hl) (fun q => hk _ (h2.2 q) H locs hw lsA hl)
    case le => exact lv_icmp_le hx hb hdc ht (fun q => hk _ (h2.1 q) H locs hw lsA hl) (fun q => hk _ (h2.2 q) H locs hw lsA hl)
  case lookupswitch d ps =>
    obtain ⟨⟨hsrt, hd0⟩, hps⟩ := hoi
    obtain ⟨x, r, rfl, h2⟩ := pv_1i_inv h
    obtain ⟨tgt, h3, h4⟩ := pv_swS hd0 _ hps h2
    exact lv_lookup hx hb hdc hsrt rfl h3 (hk _ h4 H locs hw lsA hl)
  case tableswitch d lo hi offs =>
    obtain ⟨⟨hhi, hd0⟩, hps⟩ := hoi
    obtain ⟨x, r, rfl, h2⟩ := pv_1i_inv h
    obtain ⟨tgt, h3, h4⟩ := pv_swS hd0 _ hps h2
    rw [pv_tb_off] at h3
    have hsz : (offs.toList.length : Int) = (offs.size : Int) := by simp
    by_cases hx1 : x.toInt < lo ∨ hi < x.toInt
    · rw [if_pos (by omega)] at h3
      exact lv_tableOut hx hb hdc hx1 h3 (hk _ h4 H locs hw lsA hl)
    · rw [if_neg (by omega)] at h3
      have hlt : (x.toInt - lo).toNat < offs.toList.length := by omega
      have hget : offs[(x.toInt - lo).toNat]? = some (offs.toList.getD (x.toInt - lo - ((0 : Nat) : Int)).toNat d) := by
        rw [show (x.toInt - lo - ((0 : Nat) : Int)).toNat = (x.toInt - lo).toNat by omega, ← Array.getElem?_toList, List.getD_eq_getElem?_getD, List.getElem?_eq_getElem hlt]
        rfl
      exact lv_tableIn hx hb hdc (by omega) (by omega) hget h3 (hk _ h4 H locs hw lsA hl)
  case getfield i =>
    obtain ⟨rfl, hf⟩ := hoi
    obtain ⟨b, r, rfl, h2⟩ := pv_1r_inv h
    obtain ⟨fs, h3, h4⟩ := pv_ob_inv h2
    obtain ⟨w, h5, h6⟩ := pv_so_inv h4
    rw [pv_at_eq] at h5
    exact pv_sound_get hx hb hown hts hnw hK hC hw hf h3 h5 hdc (hk _ h6 H locs hw lsA hl)
  case putfield i =>
    obtain ⟨⟨rfl, hf⟩, hfin, hkd⟩ := hoi
    cases v
    case null =>
      obtain ⟨x, b, r, rfl, h2⟩ := pv_ir_inv h
      obtain ⟨fs, h3, h4⟩ := pv_ob_inv h2
      obtain ⟨w, h5, h6⟩ := pv_so_inv h4
      have ety := pv_kd_i hkd
      exact pv_sound_put hx hb hown hts hnw hK hC hD hw hf hfin h3 (pv_len_of h5) (w := .int x) rfl (by rw [ety]; rfl) (by rw [ety]; rfl) hdc (fun H1 locs1 hw1 => hk _ h6 H1 locs1 hw1 lsA hl)
    case int z =>
      obtain ⟨x, b, r, rfl, h2⟩ := pv_ir_inv h
      obtain ⟨fs, h3, h4⟩ := pv_ob_inv h2
      obtain ⟨w, h5, h7, h6⟩ := pv_so_inv h4
      have ety := pv_kd_z hkd
      exact pv_sound_put hx hb hown hts hnw hK hC hD hw hf hfin h3 (pv_len_of h5) (w := .int x) rfl (by rw [ety]; exact (pv_z01 h7).1) (by rw [ety]; exact (pv_z01 h7).2.1) hdc (fun H1 locs1 hw1 => hk _ h6 H1 locs1 hw1 lsA hl)
    case long z =>
      obtain ⟨x, r', rfl, h2'⟩ := pv_1l_inv h
      obtain ⟨b, r, rfl, h2⟩ := pv_1r_inv h2'
      obtain ⟨fs, h3, h4⟩ := pv_ob_inv h2
      obtain ⟨w, h5, h6⟩ := pv_so_inv h4
      have ety := pv_kd_l hkd
      exact pv_sound_put hx hb hown hts hnw hK hC hD hw hf hfin h3 (pv_len_of h5) (w := .long x) rfl (by rw [ety]; rfl) (by rw [ety]; rfl) hdc (fun H1 locs1 hw1 => hk _ h6 H1 locs1 hw1 lsA hl)
    all_goals exact False.elim h
  case iaload =>
    cases hoi
    obtain ⟨i, b, r, rfl, h2⟩ := pv_ir_inv h
    obtain ⟨t, z, g, h3, h4⟩ := pv_ai_inv h2
    obtain ⟨h5, h6, h7⟩ := pv_bif h4
    have et := Nat.eq_of_beq_eq_true h5
    subst et
    exact va_iald hx hb hK hP b 0 (pv_w_0 cA ad h3) rfl h6 hdc (hk _ h7 H locs hw lsA hl)
  case baload =>
    cases hoi
    obtain ⟨i, b, r, rfl, h2⟩ := pv_ir_inv h
    obtain ⟨t, z, g, h3, h4⟩ := pv_ai_inv h2
    obtain ⟨h5, h6, h7⟩ := pv_bif h4
    rw [Bool.or_eq_true] at h5
    rcases h5 with h5 | h5
    · have et := Nat.eq_of_beq_eq_true h5
      subst et
      exact va_bald hx hb hK hP b 1 (pv_w_0 cA ad h3) rfl h6 hdc (hk _ h7 H locs hw lsA hl)
    · have et := Nat.eq_of_beq_eq_true h5
      subst et
      exact va_zald hx hb hK hP b 2 (pv_w_0 cA ad h3) rfl h6 hdc (hk _ h7 H locs hw lsA hl)
  case laload =>
    cases hoi
    obtain ⟨i, b, r, rfl, h2⟩ := pv_ir_inv h
    obtain ⟨t, z, g, h3, h4⟩ := pv_al_inv h2
    obtain ⟨h5, h6, h7⟩ := pv_bif h4
    have et := Nat.eq_of_beq_eq_true h5
    subst et
    exact va_lald hx hb hK hP b 3 (pv_w_0 cA ad h3) rfl h6 hdc (hk _ h7 H locs hw lsA hl)
  case iastore =>
    cases hoi
    obtain ⟨x, i, b, r, rfl, h2⟩ := pv_iir_inv h
    obtain ⟨t, z, g, h3, h4⟩ := pv_ai_inv h2
    obtain ⟨h5, h6, h7⟩ := pv_bif h4
    have et := Nat.eq_of_beq_eq_true h5
    subst et
    exact va_iast hx hb hK hP hDS hS b 0 (pv_w_0 cA ad h3) rfl h6 hdc (fun H1 locs1 q1 _ q3 => hk _ h7 H1 locs1 (pv_ast hw (x := .inl (0, z, .inl (upd g i.toNatClampNeg x))) rfl q1 q3) lsA hl)
  case bastore =>
    cases hoi
    obtain ⟨x, i, b, r, rfl, h2⟩ := pv_iir_inv h
    obtain ⟨t, z, g, h3, h4⟩ := pv_ai_inv h2
    cases h5 : Nat.beq t 1 with
    | true =>
      rw [h5] at h4
      obtain ⟨h6, h7⟩ := h4
      have et := Nat.eq_of_beq_eq_true h5
      subst et
      refine va_bast hx hb hK hP hDS hS b 1 (pv_w_0 cA ad h3) rfl h6 hdc (fun H1 locs1 q1 _ q3 => ?_)
      rw [vp_nar_byte] at q1
      exact hk _ h7 H1 locs1 (pv_ast hw (x := .inl (1, z, .inl (upd g i.toNatClampNeg x.toInt8.toInt32))) rfl q1 q3) lsA hl
    | false =>
      rw [h5] at h4
      obtain ⟨h8, ⟨h6, h9⟩, h7⟩ := pv_bif h4
      have et := Nat.eq_of_beq_eq_true h8
      subst et
      refine va_zast hx hb hK hP hDS hS b 2 (pv_w_0 cA ad h3) rfl h6 hdc (fun H1 locs1 q1 _ q3 => ?_)
      rw [(pv_z01 h9).2.2] at q1
      exact hk _ h7 H1 locs1 (pv_ast hw (x := .inl (2, z, .inl (upd g i.toNatClampNeg x))) rfl q1 q3) lsA hl
  case lastore =>
    cases hoi
    obtain ⟨x, i, b, r, rfl, h2⟩ := pv_lir_inv h
    obtain ⟨t, z, g, h3, h4⟩ := pv_al_inv h2
    obtain ⟨h5, h6, h7⟩ := pv_bif h4
    have et := Nat.eq_of_beq_eq_true h5
    subst et
    exact va_last hx hb hK hP hDS hS b 3 (pv_w_0 cA ad h3) rfl h6 hdc (fun H1 locs1 q1 _ q3 => hk _ h7 H1 locs1 (pv_ast hw (x := .inl (3, z, .inr (.inl (vp_updL g i.toNatClampNeg x)))) rfl q1 q3) lsA hl)
  case arraylength =>
    cases hoi
    obtain ⟨b, r, rfl, h2⟩ := pv_1r_inv h
    obtain ⟨⟨t, z⟩, hq, h4⟩ := pv_an_inv h2
    obtain ⟨h5, h6⟩ := pv_bif h4
    have ht : t < 4 := Nat.blt_eq.mp h5
    have ht4 : ∀ u : Nat, u < 4 → u = 0 ∨ u = 1 ∨ u = 2 ∨ u = 3 := fun u hu => by omega
    rcases ht4 t ht with rfl | rfl | rfl | rfl
    · exact va_alen hx hb hK hP b 0 (pv_w_0 cA ad hq) rfl rfl hdc (hk _ h6 H locs hw lsA hl)
    · exact va_alen hx hb hK hP b 1 (pv_w_0 cA ad hq) rfl rfl hdc (hk _ h6 H locs hw lsA hl)
    · exact va_alen hx hb hK hP b 2 (pv_w_0 cA ad hq) rfl rfl hdc (hk _ h6 H locs hw lsA hl)
    · exact va_alen hx hb hK hP b 3 (pv_w_0 cA ad hq) rfl rfl hdc (hk _ h6 H locs hw lsA hl)
  case invokevirtual i =>
    have hoi0 := hoi
    obtain ⟨rfl, -⟩ := hoi
    have h : (match pv_pop a2 [] st with | some (As, .ref b :: r) => bif Nat.ble (pv_wd r) 8 then pv_gr (some v) fun ci => pv_ob S b ci fun _ => call a1 (.ref b :: As) S (fun o S' => k (pc + 3, ls, pv_ol o r, S')) else False | _ => False) := h
    split at h
    · rename_i As b r hq
      obtain ⟨L, e1, e2, e3⟩ := pv_pop_eq _ _ _ _ _ hq
      rw [List.append_nil] at e2
      subst e2
      obtain ⟨h1, h2⟩ := pv_bif h
      obtain ⟨ci, h3, h4⟩ := pv_gr_inv h2
      cases h3
      obtain ⟨fs, h5, h6⟩ := pv_ob_inv h4
      subst e3
      subst e1
      exact hcV i ci b fs As r _ hoi0 h5 (Nat.le_of_ble_eq_true h1) hdc h6 (fun o S' hP' H1 locs1 hw1 => hk _ hP' H1 locs1 hw1 lsA hl)
    · exact False.elim h
  case invokestatic i =>
    have hoi0 := hoi
    obtain ⟨rfl, -⟩ := hoi
    have h : (match pv_pop a2 [] st with | some (As, r) => bif Nat.ble (pv_wd r) 8 then call a1 As S (fun o S' => k (pc + 3, ls, pv_ol o r, S')) else False | _ => False) := h
    split at h
    · rename_i As r hq
      obtain ⟨L, e1, e2, e3⟩ := pv_pop_eq _ _ _ _ _ hq
      rw [List.append_nil] at e2
      subst e2
      obtain ⟨h1, h2⟩ := pv_bif h
      subst e3
      subst e1
      exact hcS i As r _ hoi0 (Nat.le_of_ble_eq_true h1) hdc h2 (fun o S' hP' H1 locs1 hw1 => hk _ hP' H1 locs1 hw1 lsA hl)
    · exact False.elim h
  case ireturn =>
    cases hoi
    obtain ⟨x, rfl, h2⟩ := pv_ri_inv h
    cases h5 : Nat.beq rt 0 with
    | true =>
      rw [h5] at h2
      exact hQi x h2 (Or.inl (Nat.eq_of_beq_eq_true h5)) hdc
    | false =>
      rw [h5] at h2
      obtain ⟨h6, h7, h8⟩ := pv_bif h2
      exact hQi x h8 (Or.inr ⟨Nat.eq_of_beq_eq_true h6, h7⟩) hdc
  case lreturn =>
    cases hoi
    obtain ⟨x, rfl, h2⟩ := pv_rl_inv h
    obtain ⟨h6, h7⟩ := pv_bif h2
    exact hQl x h7 (Nat.eq_of_beq_eq_true h6) hdc
  case return_ =>
    cases hoi
    rcases st with _ | ⟨w, r⟩
    · obtain ⟨h6, h7⟩ := pv_bif h
      exact hQv h7 (Nat.eq_of_beq_eq_true h6) hdc
    · exact False.elim h
  all_goals exact False.elim h
end PVT
end
section
/-- from a configuration the method comes to its end, with Q: the least predicate that the steps lead to -/
def pv_go (T : Nat → Option pv_I) (rt : Nat) (call : pv_C) (Q : pv_R) (c : pv_c) : Prop := ∀ X : pv_c → Prop, (∀ c', pv_st T rt call Q X c' → X c') → X c
/-- System.arraycopy of ints -/
def pv_cp (As : List Value) (S : pv_S) (P : pv_R) : Prop := match As with
  | [.ref x, .int sp, .ref y, .int dp, .int n] => pv_ai S x fun t n0 f => pv_ai S y fun u n1 g => bif (Nat.beq t 0 && Nat.beq u 0) then ((¬ sp < 0 ∧ ¬ dp < 0 ∧ ¬ n < 0) ∧ sp.toNatClampNeg + n.toNatClampNeg ≤ n0 ∧ dp.toNatClampNeg + n.toNatClampNeg ≤ n1) ∧ P none (pv_set S y (.inl (0, n1, .inl (va_cpy f g sp.toNatClampNeg dp.toNatClampNeg n.toNatClampNeg)))) else False
  | _ => False
/-- Math.min -/
def pv_mn (As : List Value) (S : pv_S) (P : pv_R) : Prop := match As with
  | [.int x, .int y] => P (some (.int (if y < x then y else x))) S
  | _ => False
/-- a call: d calls deep at most -/
def pv_call (mt : Nat → Option pv_M) : Nat → pv_C
  | 0 => fun _ _ _ _ => False
  | d + 1 => fun j As S P => bif Nat.beq j 999 then pv_cp As S P else bif Nat.beq j 998 then pv_mn As S P else match mt j with
    | some (_, _, maxL, _, _, _, rt, T) => pv_wd As ≤ maxL ∧ pv_go T rt (pv_call mt d) P (0, lv_args 0 As, [], S)
    | none => False
def pv_okM (cl : List vw_C) (tyf : Nat → Nat → FieldType) (Ts NW : List Cond) (mt : Nat → Option pv_M) (y : MethodName) (cc : ByteArray) (maxL : Nat) (ret : Option FieldType) (stat : Bool) (na rt : Nat) (T : Nat → Option pv_I) : Prop :=
  ((plainName y.cls = true ∧ Cond.code y cc maxL ret ∈ Ts) ∧ (Cond.initialized y.cls ∈ Ts ∧ (y.cls ≠ "java/lang/invoke/MethodHandle" ∧ y.cls ≠ "java/lang/invoke/VarHandle" ∧ (parseMethodDescriptor y.desc).map (fun d => d.parameters.length) = some na))) ∧ ((stat = true → Cond.static y ∈ Ts) ∧ (stat = false → Cond.instanceMethod y ∈ Ts ∧ Cond.selects y.cls y y ∈ Ts)) ∧ (maxL ≤ 20 ∧ pv_rt rt ret = true) ∧
  ∀ (pc : Nat) (ins : Instr) (len nx a1 a2 : Nat) (v : Value), T pc = some (ins, len, nx, a1, a2, v) → decode cc pc = .ok (ins, len) ∧ nx = pc + len ∧ pv_oi cl tyf Ts NW mt y.cls maxL pc len a1 a2 v ins
def pv_ok (cl : List vw_C) (tyf : Nat → Nat → FieldType) (Ts NW : List Cond) (mt : Nat → Option pv_M) : Prop :=
  ((∀ w ∈ Ts, goodWord w = true) ∧ (∀ w ∈ NW, pv_isN w = true)) ∧ pv_okC cl tyf Ts ∧ ((mt 999 = none ∧ mt 998 = none) ∧ ∀ j y cc maxL ret stat na rt T, mt j = some (y, cc, maxL, ret, stat, na, rt, T) → pv_okM cl tyf Ts NW mt y cc maxL ret stat na rt T)
def pv_rm (d : Nat) : Room := { frames := d, cells := 0, slots := 0, locals := 40 * d }
def pv_A (ad : Nat → Nat) (n : Nat) : Nat → Prop := fun q => ∃ k, k < n ∧ ad k = q
theorem pv_D_of {cA ad : Nat → Nat} {n : Nat} (hinj : ∀ i j, i < n → j < n → ad i = ad j → i = j) : ∀ S : pv_S, S.length = n → va_D (pv_A ad n) (pv_w cA ad 0 S) := by
  intro S hS
  have key : ∀ (k : Nat) (q : Nat × va_E), (pv_w cA ad 0 S)[k]? = some q → k < n ∧ q.1 = ad k := by
    intro k q hk
    have hl := (List.getElem?_eq_some_iff.mp hk).1
    rw [pv_w_len, hS] at hl
    refine ⟨hl, ?_⟩
    rw [pv_w_at, Nat.zero_add] at hk
    cases h : S[k]? with
    | none => rw [h] at hk; cases hk
    | some x => rw [h] at hk; exact (congrArg Prod.fst (Option.some.inj hk)).symm
  refine ⟨fun i j x y hi hj hxy => ?_, fun k q hk => ?_⟩
  · obtain ⟨h1, h2⟩ := key i x hi
    obtain ⟨h3, h4⟩ := key j y hj
    exact hinj i j h1 h3 (by rw [← h2, ← h4]; exact hxy)
  · obtain ⟨h1, h2⟩ := key k q hk
    exact ⟨k, h1, h2.symm⟩
def pv_ws (Ts : List Cond) (y : MethodName) (cc : ByteArray) (maxL : Nat) (ret : Option FieldType) : List Cond := .code y cc maxL ret :: Ts
def pv_Pc (D : va_G) (cl : List vw_C) (cA ad : Nat → Nat) (NW : List Cond) (As : List Value) (S : pv_S) : Array Value → State → Prop := va_Pc (As.map (pv_v ad)) (fun U => va_P D cl (pv_w cA ad 0 S) U.heap ∧ va_K D cl (pv_tys cA) U ∧ ∀ w ∈ NW, va_Nw w U)
def pv_Qc (D : va_G) (cl : List vw_C) (cA ad : Nat → Nat) (n : Nat) (P : pv_R) : Array Value → State → Outcome → State → Prop := fun _ st oc t => (∃ o S', oc = .returned (o.map (pv_v ad)) ∧ P o S' ∧ S'.length = n ∧ va_P D cl (pv_w cA ad 0 S') t.heap) ∧ va_F (pv_A ad n) st t
theorem pv_warm {NW : List Cond} (hN : ∀ w ∈ NW, pv_isN w = true) {s U : State} (hW : s.WarmedH U.vm) (h : ∀ w ∈ NW, va_Nw w s) : ∀ w ∈ NW, va_Nw w U := by
  intro w hw
  have h1 := hN w hw
  have h2 := h w hw
  cases w <;> first | (exact va_Nw.warmF hW h2) | (exact va_Nw.warmM hW h2) | (cases h1)
theorem pv_blind {D : va_G} {cl : List vw_C} {cA ad : Nat → Nat} {NW : List Cond} (hN : ∀ w ∈ NW, pv_isN w = true) {As : List Value} {S : pv_S} : FrameBlind (pv_Pc D cl cA ad NW As S) := by
  intro a U g mk q
  obtain ⟨q0, qP, qK, qN⟩ := q
  refine ⟨q0, qP, va_K.moved (u := U) (U := U.calling g mk a) (Vm.Alike.refl U.vm) qK, fun w hw => ?_⟩
  have h1 := hN w hw
  have h2 := qN w hw
  cases w <;> first | (exact va_Nw.same rfl rfl h2) | (cases h1)
theorem pv_olmap (ad : Nat → Nat) (o : Option Value) (r : List Value) : (o.map (pv_v ad)).toList ++ r.map (pv_v ad) = (pv_ol o r).map (pv_v ad) := by cases o <;> rfl
section PVC
variable {p : Program} {l : Launch} {e : Env} {R : Room} {s : State} {m : MethodId} {args : Array Value} {below : List Frame} {meth : Method} {c : Code}
variable {cl : List vw_C} {tyf : Nat → Nat → FieldType} {Ts NW : List Cond} {mt : Nat → Option pv_M} {D : va_G} {cA ad : Nat → Nat} {H0 : Heap} {n nL : Nat} {own : String} {cc : ByteArray}
theorem pv_cont {Qs : State → Prop} {H : Heap} {locs : List Loc} {pc : Nat} {ls : Array Slot} {st0 : List Value} {r : List Value} {P : pv_R} {a : Array Value} (hr : va_Run p l e R s m args below meth c H locs 0 0 0 0 (F0 m pc ls st0) (r.map (pv_v ad)) (pv_Qc D cl cA ad n P a) (pv_A ad n)) (hS : va_S (pv_A ad n) H0 H locs)
    (kk : ∀ o S', P o S' → ∀ (H1 : Heap) (locs1 : List Loc), pv_Wo D cl cA ad (pv_A ad n) H0 n S' H1 locs1 → W p l e R s m args below meth c H1 locs1 0 0 Qs (F0 m (pc + 3) ls ((pv_ol o r).map (pv_v ad)))) : W p l e R s m args below meth c H locs 0 0 Qs (F0 m pc ls st0) := by
  intro T hT X
  obtain ⟨v, st₀, t, T', L, h0, X', hL, e1, e2, ⟨⟨o, S', hv, hp, hn, hPw⟩, hz, hk⟩, st⟩ := hr T hT X
  cases hv
  rw [h0] at hz hk
  obtain ⟨t2, a1, b1⟩ := kk o S' hp T'.heap (locs ++ L) ⟨hn, by rw [e1]; exact hPw, Nat.le_trans hS.1 (by rw [e1]; exact hz), fun q h1 h2 => by rw [e1, hk q (Nat.lt_of_lt_of_le h1 hS.1) h2]; exact hS.2.1 q h1 h2, fun q hq => by
      rcases List.mem_append.mp hq with h | h
      · exact hS.2.2 q h
      · exact hL q h⟩ T' rfl X'
  rw [← pv_olmap] at a1
  exact ⟨t2, st t2 a1, b1⟩
theorem pv_good {y : MethodName} {maxL : Nat} {ret : Option FieldType} (hg : ∀ w ∈ Ts, goodWord w = true) (hc : Cond.code y cc maxL ret ∈ Ts) : GoodIn Ts (pv_ws Ts y cc maxL ret) := by
  intro w hw
  rcases List.mem_cons.mp hw with rfl | hw
  · exact ⟨hc, good_of_word (hg _ hc)⟩
  · exact ⟨hw, good_of_word (hg _ hw)⟩
end PVC
end
section
theorem pv_cp_inv {As : List Value} {S : pv_S} {P : pv_R} (h : pv_cp As S P) : ∃ x sp y dp n, As = [.ref x, .int sp, .ref y, .int dp, .int n] ∧ (pv_ai S x fun t n0 f => pv_ai S y fun u n1 g => bif (Nat.beq t 0 && Nat.beq u 0) then ((¬ sp < 0 ∧ ¬ dp < 0 ∧ ¬ n < 0) ∧ sp.toNatClampNeg + n.toNatClampNeg ≤ n0 ∧ dp.toNatClampNeg + n.toNatClampNeg ≤ n1) ∧ P none (pv_set S y (.inl (0, n1, .inl (va_cpy f g sp.toNatClampNeg dp.toNatClampNeg n.toNatClampNeg)))) else False) := by
  unfold pv_cp at h
  split at h
  · exact ⟨_, _, _, _, _, rfl, h⟩
  · exact h.elim
theorem pv_mn_inv {As : List Value} {S : pv_S} {P : pv_R} (h : pv_mn As S P) : ∃ x y, As = [.int x, .int y] ∧ P (some (.int (if y < x then y else x))) S := by
  unfold pv_mn at h
  split at h
  · exact ⟨_, _, rfl, h⟩
  · exact h.elim
section PVM
variable {p : Program} {l : Launch} {e : Env} {R : Room} {s : State} {m : MethodId} {args : Array Value} {below : List Frame} {meth : Method} {c : Code}
variable {cl : List vw_C} {tyf : Nat → Nat → FieldType} {Ts NW : List Cond} {mt : Nat → Option pv_M} {D : va_G} {cA ad : Nat → Nat} {H0 : Heap} {n nL : Nat} {own : String} {cc : ByteArray}
/-- what is known of a method whose contract holds at depth d -/
def pv_Mets (l : Launch) (cl : List vw_C) (Ts NW : List Cond) (mt : Nat → Option pv_M) (D : va_G) (cA ad : Nat → Nat) (n d : Nat) (call : pv_C) : Prop := ∀ (j : Nat) (As : List Value) (S : pv_S) (P : pv_R), S.length = n → call j As S P → ¬ j = 999 ∧ ¬ j = 998 → ∀ y bc maxL ret stat na rt T, mt j = some (y, bc, maxL, ret, stat, na, rt, T) → Met l y (pv_ws Ts y bc maxL ret) (pv_rm d) (pv_Pc D cl cA ad NW As S) (pv_Qc D cl cA ad n P) 0 0 (pv_A ad n)
theorem pv_stV {Qs : State → Prop} {d : Nat} {call : pv_C} (hM : pv_Mets l cl Ts NW mt D cA ad n d call) (hok : pv_ok cl tyf Ts NW mt) (hR : R.frames = d + 1 ∧ R.locals = 40 * (d + 1)) (hx : p.tables.exec = Jvm.exec) (hb : c.code = cc) (hml : c.maxLocals = nL) (hown : s.vm.findClass own = some m.cls) (hts : ∀ w ∈ Ts, w.before args s = true) (hnw : ∀ w ∈ NW, va_Nw w s) (hK : va_K D cl (pv_tys cA) s)
    {a1 pc : Nat} {S : pv_S} {H : Heap} {locs : List Loc} (hw : pv_Wo D cl cA ad (pv_A ad n) H0 n S H locs) {lsA : Array Slot} (hls : lsA.size = nL)
    (i ci b : Nat) (fs As r : List Value) (P : pv_R) (hoi : pv_oi cl tyf Ts NW mt own nL pc 3 a1 As.length (.ref ci) (.invokevirtual i)) (he : S[b]? = some (.inr (ci, fs))) (hwd : pv_wd r ≤ 8) (hdc : decode cc pc = .ok (.invokevirtual i, 3)) (hc : call a1 (.ref b :: As) S P)
    (kk : ∀ o S', P o S' → ∀ (H1 : Heap) (locs1 : List Loc), pv_Wo D cl cA ad (pv_A ad n) H0 n S' H1 locs1 → W p l e R s m args below meth c H1 locs1 0 0 Qs (F0 m (pc + 3) lsA ((pv_ol o r).map (pv_v ad)))) : W p l e R s m args below meth c H locs 0 0 Qs (F0 m pc lsA ((As.reverse ++ .ref b :: r).map (pv_v ad))) := by
  obtain ⟨-, ⟨y, bc, maxL, ret, stat, na, rt, T⟩, hx1, ⟨hst, hna⟩, ⟨ci', T', N, hci, hcl⟩, hml2⟩ := hoi
  cases hci
  obtain ⟨⟨hg, hN⟩, -, ⟨h999, h998⟩, hms⟩ := hok
  have hj : ¬ a1 = 999 ∧ ¬ a1 = 998 := ⟨(fun h => by rw [h, h999] at hx1; cases hx1), (fun h => by rw [h, h998] at hx1; cases hx1)⟩
  obtain ⟨⟨⟨hpl, hcode⟩, hini, hdsc⟩, ⟨-, hinst⟩, ⟨hmx, -⟩, -⟩ := hms _ _ _ _ _ _ _ _ _ hx1
  obtain ⟨hin1, hin2⟩ := hinst hst
  have hMet := hM a1 (.ref b :: As) S P hw.1 hc hj _ _ _ _ _ _ _ _ hx1
  have hG : GoodIn Ts (pv_ws Ts y bc maxL ret) := pv_good hg hcode
  have hstk : ((As.reverse ++ .ref b :: r).map (pv_v ad)) = (As.map (pv_v ad)).reverse ++ .ref (ad b) :: r.map (pv_v ad) := by simp [pv_v]
  have hlen : (As.map (pv_v ad)).length = na := by rw [List.length_map]; exact hna
  have hroom : (pv_rm d).frames + 1 ≤ R.frames ∧ 8 + (maxL + 11) + (pv_rm d).locals ≤ R.locals := by
    rw [hR.1, hR.2]
    refine ⟨Nat.le_refl _, ?_⟩
    show 8 + (maxL + 11) + 40 * d ≤ 40 * (d + 1)
    omega
  have hpv : PreV s H y.cls (ad b) (pv_Pc D cl cA ad NW (.ref b :: As) S) (As.map (pv_v ad)) := by
    refine ⟨pv_blind hN, va_recv hK hw.2.1 (ci := ci) (q0 := b) hcl (pv_w_0 cA ad he), fun U hU hW => ⟨rfl, by rw [hU]; exact hw.2.1, va_K.moved hW.alike hK, pv_warm hN hW hnw⟩⟩
  have hr8 : ((r.map (pv_v ad)).map fun v => v.category).sum ≤ 8 := by rw [pv_wd_map]; exact hwd
  rw [hstk]
  rcases hml2 with hl | ⟨host, hl⟩
  · exact pv_cont (va_runV (As := As.map (pv_v ad)) (rest := r.map (pv_v ad)) ⟨hx, hb, hml, hown, hts⟩ hMet ⟨callB_of na hts hG rfl rfl rfl (hts _ hini) (hts _ hl) hdsc hroom, hts _ hin1, hts _ hin2⟩ hpv rfl hlen hls rfl (lv_room hr8) hdc ⟨Nat.zero_le _, Nat.zero_le _⟩) hw.2.2 kk
  · exact pv_cont (va_runVN (As := As.map (pv_v ad)) (rest := r.map (pv_v ad)) ⟨hx, hb, hml, hown, hts⟩ hMet ⟨va_cnB na hts hG rfl rfl rfl (hnw _ hl) (hts _ hini) hdsc hroom, hts _ hin1, hts _ hin2⟩ hpv rfl hlen hls rfl (lv_room hr8) hdc ⟨Nat.zero_le _, Nat.zero_le _⟩) hw.2.2 kk
theorem pv_stS {Qs : State → Prop} {d : Nat} {call : pv_C} (hM : pv_Mets l cl Ts NW mt D cA ad n d call) (h9 : (∀ As S P, call 999 As S P → pv_cp As S P) ∧ (∀ As S P, call 998 As S P → pv_mn As S P)) (hok : pv_ok cl tyf Ts NW mt) (hD : ∀ S : pv_S, S.length = n → va_D (pv_A ad n) (pv_w cA ad 0 S)) (hR : R.frames = d + 1 ∧ R.locals = 40 * (d + 1)) (hx : p.tables.exec = Jvm.exec) (hb : c.code = cc) (hml : c.maxLocals = nL) (hown : s.vm.findClass own = some m.cls) (hts : ∀ w ∈ Ts, w.before args s = true) (hnw : ∀ w ∈ NW, va_Nw w s) (hK : va_K D cl (pv_tys cA) s)
    {a1 pc : Nat} {v : Value} {S : pv_S} {H : Heap} {locs : List Loc} (hw : pv_Wo D cl cA ad (pv_A ad n) H0 n S H locs) {lsA : Array Slot} (hls : lsA.size = nL)
    (i : Nat) (As r : List Value) (P : pv_R) (hoi : pv_oi cl tyf Ts NW mt own nL pc 3 a1 As.length v (.invokestatic i)) (hwd : pv_wd r ≤ 8) (hdc : decode cc pc = .ok (.invokestatic i, 3)) (hc : call a1 As S P)
    (kk : ∀ o S', P o S' → ∀ (H1 : Heap) (locs1 : List Loc), pv_Wo D cl cA ad (pv_A ad n) H0 n S' H1 locs1 → W p l e R s m args below meth c H1 locs1 0 0 Qs (F0 m (pc + 3) lsA ((pv_ol o r).map (pv_v ad)))) : W p l e R s m args below meth c H locs 0 0 Qs (F0 m pc lsA ((As.reverse ++ r).map (pv_v ad))) := by
  obtain ⟨-, hoi⟩ := hoi
  obtain ⟨⟨hg, hN⟩, -, ⟨h999, h998⟩, hms⟩ := hok
  have hr8 : ((r.map (pv_v ad)).map fun v => v.category).sum ≤ 8 := by rw [pv_wd_map]; exact hwd
  rcases hoi with ⟨rfl, ha5, hl, hcp1, hcp2, hcp3⟩ | ⟨rfl, ha5, hl, hcp1, hcp2, hcp3⟩ | ⟨hj, ⟨y, bc, maxL, ret, stat, na, rt, T⟩, hx1, ⟨hst, hna⟩, hml2⟩
  · have hc := h9.1 As S P hc
    obtain ⟨x, sp, y, dp, z, rfl, hc⟩ := pv_cp_inv hc
    · obtain ⟨t, n0, f, h1, hc⟩ := pv_ai_inv hc
      obtain ⟨u, n1, g, h2, hc⟩ := pv_ai_inv hc
      obtain ⟨h3, ⟨⟨q1, q2, q3⟩, q4, q5⟩, hP⟩ := pv_bif hc
      rw [Bool.and_eq_true] at h3
      have e1 := Nat.eq_of_beq_eq_true h3.1
      have e2 := Nat.eq_of_beq_eq_true h3.2
      subst e1
      subst e2
      have hloc : ((r.map (pv_v ad)).map fun v => v.category).sum + (nativeFrameWords "java/lang/System" "arraycopy" 5 + 11) ≤ R.locals := by
        rw [hR.2]
        have : nativeFrameWords "java/lang/System" "arraycopy" 5 = 7 := by decide +kernel
        omega
      refine va_copyi (ty := .int) hx hb (by rw [hml]; exact hls.symm) hown (hts _ hl) (hts _ hcp1) (hts _ hcp2) (hts _ hcp3) hK hw.2.1 (hD S hw.1) hw.2.2 x y 0 0 (pv_w_0 cA ad h1) (pv_w_0 cA ad h2) rfl rfl rfl q1 q2 q3 q4 q5 (fun _ _ => rfl) (by rw [hR.1]; exact Nat.succ_le_succ (Nat.zero_le _)) hloc hdc (fun H1 locs1 w1 _ w3 => ?_)
      exact kk none _ hP H1 locs1 (pv_ast hw (x := .inl (0, n1, .inl (va_cpy f g sp.toNatClampNeg dp.toNatClampNeg z.toNatClampNeg))) rfl w1 w3)
  · obtain ⟨x, y, rfl, hP⟩ := pv_mn_inv (h9.2 As S P hc)
    have hloc : ((r.map (pv_v ad)).map fun v => v.category).sum + 13 ≤ R.locals := by rw [hR.2]; omega
    exact va_mmin hx hb (by rw [hml]; exact hls.symm) hown (hts _ hl) (hts _ hcp1) (hts _ hcp2) (hts _ hcp3) (by rw [hR.1]; exact Nat.succ_le_succ (Nat.zero_le _)) hloc (Nat.zero_le _) (Nat.zero_le _) hdc (kk _ _ hP H locs hw)
  · obtain ⟨⟨⟨hpl, hcode⟩, hini, hdsc⟩, ⟨hstat, -⟩, ⟨hmx, -⟩, -⟩ := hms _ _ _ _ _ _ _ _ _ hx1
    have hin1 := hstat hst
    have hMet := hM a1 As S P hw.1 hc hj _ _ _ _ _ _ _ _ hx1
    have hG : GoodIn Ts (pv_ws Ts y bc maxL ret) := pv_good hg hcode
    have hstk : ((As.reverse ++ r).map (pv_v ad)) = (As.map (pv_v ad)).reverse ++ r.map (pv_v ad) := by simp
    have hlen : (As.map (pv_v ad)).length = na := by rw [List.length_map]; exact hna
    have hroom : (pv_rm d).frames + 1 ≤ R.frames ∧ 8 + (maxL + 11) + (pv_rm d).locals ≤ R.locals := by
      rw [hR.1, hR.2]
      refine ⟨Nat.le_refl _, ?_⟩
      show 8 + (maxL + 11) + 40 * d ≤ 40 * (d + 1)
      omega
    have hpv : PreS s H (pv_Pc D cl cA ad NW As S) (As.map (pv_v ad)) :=
      ⟨pv_blind hN, fun U hU hW => ⟨rfl, by rw [hU]; exact hw.2.1, va_K.moved hW.alike hK, pv_warm hN hW hnw⟩⟩
    rw [hstk]
    rcases hml2 with hl | ⟨host, hl⟩
    · exact pv_cont (va_runS (As := As.map (pv_v ad)) (rest := r.map (pv_v ad)) ⟨hx, hb, hml, hown, hts⟩ hMet ⟨callB_of na hts hG rfl rfl rfl (hts _ hini) (hts _ hl) hdsc hroom, hts _ hin1⟩ hpv rfl hlen hls rfl (lv_room hr8) hdc ⟨Nat.zero_le _, Nat.zero_le _⟩) hw.2.2 kk
    · exact pv_cont (va_runSN (As := As.map (pv_v ad)) (rest := r.map (pv_v ad)) ⟨hx, hb, hml, hown, hts⟩ hMet ⟨va_cnB na hts hG rfl rfl rfl (hnw _ hl) (hts _ hini) hdsc hroom, hts _ hin1, trivial⟩ hpv rfl hlen hls rfl (lv_room hr8) hdc ⟨Nat.zero_le _, Nat.zero_le _⟩) hw.2.2 kk
/-- the walk of a method's body, from a configuration on -/
theorem pv_walk {d : Nat} {call : pv_C} {ret : Option FieldType} {rt : Nat} {T : Nat → Option pv_I} {P : pv_R}
    (hM : ∀ d', d = d' + 1 → pv_Mets l cl Ts NW mt D cA ad n d' call) (h0 : d = 0 → ∀ j As S P, ¬ call j As S P) (h9 : (∀ As S P, call 999 As S P → pv_cp As S P) ∧ (∀ As S P, call 998 As S P → pv_mn As S P)) (hok : pv_ok cl tyf Ts NW mt) (hD : ∀ S : pv_S, S.length = n → va_D (pv_A ad n) (pv_w cA ad 0 S)) (hR : R.frames = d ∧ R.locals = 40 * d) (hx : p.tables.exec = Jvm.exec) (hb : c.code = cc) (hml : c.maxLocals = nL) (hown : s.vm.findClass own = some m.cls) (hts : ∀ w ∈ Ts, w.before args s = true) (hnw : ∀ w ∈ NW, va_Nw w s) (hK : va_K D cl (pv_tys cA) s) (hr : meth.sig.returnType = ret) (hrt : pv_rt rt ret = true) (hlk : meth.locks = false)
    (hT : ∀ (pc : Nat) (ins : Instr) (len nx a1 a2 : Nat) (v : Value), T pc = some (ins, len, nx, a1, a2, v) → decode cc pc = .ok (ins, len) ∧ nx = pc + len ∧ pv_oi cl tyf Ts NW mt own nL pc len a1 a2 v ins) :
    ∀ (c' : pv_c), pv_go T rt call P c' → ∀ (H : Heap) (locs : List Loc), pv_Wo D cl cA ad (pv_A ad n) s.heap n c'.2.2.2 H locs → ∀ lsA : Array Slot, lv_has lsA nL (pv_lc ad c'.2.1) → W p l e R s m args below meth c H locs 0 0 (MQ below (pv_Qc D cl cA ad n P) args s 0 0 (pv_A ad n)) (F0 m c'.1 lsA (c'.2.2.1.map (pv_v ad))) := by
  intro c0 hgo
  refine hgo (fun c' => ∀ (H : Heap) (locs : List Loc), pv_Wo D cl cA ad (pv_A ad n) s.heap n c'.2.2.2 H locs → ∀ lsA : Array Slot, lv_has lsA nL (pv_lc ad c'.2.1) → W p l e R s m args below meth c H locs 0 0 (MQ below (pv_Qc D cl cA ad n P) args s 0 0 (pv_A ad n)) (F0 m c'.1 lsA (c'.2.2.1.map (pv_v ad)))) ?_
  intro c' h H locs hw lsA hl
  · obtain ⟨pc, ls, st, S⟩ := c'
    unfold pv_st at h
    split at h
    · rename_i ins len nx a1 a2 v hq
      obtain ⟨hdc, rfl, hoi⟩ := hT _ _ _ _ _ _ _ hq
      have hret : ∀ o : Option Value, P o S → ∀ t : State, t.heap = H → pv_Qc D cl cA ad n P args s (.returned (o.map (pv_v ad))) t := fun o ho t ht => ⟨⟨o, S, rfl, ho, hw.1, by rw [ht]; exact hw.2.1⟩, hw.2.2.F ht⟩
      refine pv_sound_ex (mt := mt) hx hb hml hown hts hnw hK hok.2.1 hD hdc hoi h hw hl (fun c' hc' H locs hw lsA hl => hc' H locs hw lsA hl) ?_ ?_ ?_ ?_ ?_
      · intro x hQ hrx hd1
        rcases hrx with rfl | ⟨rfl, h01⟩
        · have er : ret = some .int := by
            cases ret with
            | none => cases hrt
            | some ty => cases ty <;> first | rfl | cases hrt
          exact W.iret hx hb (hr.trans er) (fun t ht _ => hret (some (.int x)) hQ t ht) hw.2.2.2.2 hd1 hlk
        · have er : ret = some .boolean := by
            cases ret with
            | none => cases hrt
            | some ty => cases ty <;> first | rfl | cases hrt
          exact W.zret hx hb (hr.trans er) (pv_z01 h01).1 (fun t ht _ => hret (some (.int x)) hQ t ht) hw.2.2.2.2 hd1 hlk
      · intro x hQ hrx hd1
        subst hrx
        have er : ret = some .long := by
          cases ret with
          | none => cases hrt
          | some ty => cases ty <;> first | rfl | cases hrt
        exact W.lret hx hb (hr.trans er) (fun t ht _ => hret (some (.long x)) hQ t ht) hw.2.2.2.2 hd1 hlk
      · intro hQ hrx hd1
        subst hrx
        have er : ret = none := by
          cases ret with
          | none => rfl
          | some ty => cases hrt
        exact W.vret hx hb (hr.trans er) (fun t ht _ => hret none hQ t ht) hw.2.2.2.2 hd1 hlk
      · intro i ci b fs As r P' hoi' he hwd hd1 hc kk
        cases d with
        | zero => exact absurd hc (h0 rfl _ _ _ _)
        | succ d => exact pv_stV (hM d rfl) hok hR hx hb hml hown hts hnw hK hw hl.1 i ci b fs As r P' hoi' he hwd hd1 hc kk
      · intro i As r P' hoi' hwd hd1 hc kk
        cases d with
        | zero => exact absurd hc (h0 rfl _ _ _ _)
        | succ d => exact pv_stS (hM d rfl) h9 hok hD hR hx hb hml hown hts hnw hK hw hl.1 i As r P' hoi' hwd hd1 hc kk
    · exact h.elim
/-- THE PURE MACHINE'S CALLS ARE CONTRACTS -/
theorem pv_sound (hok : pv_ok cl tyf Ts NW mt) (hD : ∀ S : pv_S, S.length = n → va_D (pv_A ad n) (pv_w cA ad 0 S)) : ∀ d, pv_Mets l cl Ts NW mt D cA ad n d (pv_call mt (d + 1)) := by
  intro d
  induction d with
  | zero =>
    intro j As S P hlen hc hj y bc maxL ret stat na rt T hx1
    have hc : (bif Nat.beq j 999 then pv_cp As S P else bif Nat.beq j 998 then pv_mn As S P else match mt j with
      | some (_, _, maxL, _, _, _, rt, T) => pv_wd As ≤ maxL ∧ pv_go T rt (pv_call mt 0) P (0, lv_args 0 As, [], S)
      | none => False) := hc
    have hjb : Nat.beq j 999 = false := by
      cases hb : Nat.beq j 999 with
      | true => exact absurd (Nat.eq_of_beq_eq_true hb) hj.1
      | false => rfl
    have hjc : Nat.beq j 998 = false := by
      cases hb : Nat.beq j 998 with
      | true => exact absurd (Nat.eq_of_beq_eq_true hb) hj.2
      | false => rfl
    rw [hjb, hjc, hx1] at hc
    obtain ⟨hwd, hit⟩ := hc
    obtain ⟨⟨⟨hpl, hcode⟩, hini, hdsc⟩, -, ⟨hmx, hrt⟩, hT⟩ := hok.2.2.2 _ _ _ _ _ _ _ _ _ hx1
    refine Met.ofW (cc := bc) (maxL := maxL) (ret := ret) hpl rfl ?_
    intro p e s m args below meth c s₁ B hml hv
    obtain ⟨rfl, hP, hK, hN⟩ := hv
    have hts : ∀ w ∈ Ts, w.before _ s = true := fun w hw => atoms_spec (ws := pv_ws Ts y bc maxL ret) B.pre w (List.mem_cons_of_mem _ hw)
    have hown : s.vm.findClass y.cls = some m.cls := findClass_of_methodNamed B.named
    have hl := lv_entry (As.map (pv_v ad)) (n := maxL) (by rw [pv_sl_len, pv_wd, pv_wd_map]; exact hwd)
    rw [lg_entry_eq]
    generalize (lg_sl (As.map (pv_v ad)) ++ List.replicate (maxL - (lg_sl (As.map (pv_v ad))).length) Slot.unset).toArray = lsA at hl ⊢
    rw [pv_lc_args] at hl
    exact pv_walk (d := 0) (call := pv_call mt 0) (R := pv_rm 0) (fun d' h => by cases h) (fun _ j As S P h => h) ⟨fun As S P h => h.elim, fun As S P h => h.elim⟩ hok hD ⟨rfl, rfl⟩ B.exec B.bytes hml hown hts hN hK B.returns hrt B.notSynchronized hT _ hit _ _ ⟨hlen, hP, va_S.rf⟩ lsA hl
  | succ d ih =>
    intro j As S P hlen hc hj y bc maxL ret stat na rt T hx1
    have hc : (bif Nat.beq j 999 then pv_cp As S P else bif Nat.beq j 998 then pv_mn As S P else match mt j with
      | some (_, _, maxL, _, _, _, rt, T) => pv_wd As ≤ maxL ∧ pv_go T rt (pv_call mt (d + 1)) P (0, lv_args 0 As, [], S)
      | none => False) := hc
    have hjb : Nat.beq j 999 = false := by
      cases hb : Nat.beq j 999 with
      | true => exact absurd (Nat.eq_of_beq_eq_true hb) hj.1
      | false => rfl
    have hjc : Nat.beq j 998 = false := by
      cases hb : Nat.beq j 998 with
      | true => exact absurd (Nat.eq_of_beq_eq_true hb) hj.2
      | false => rfl
    rw [hjb, hjc, hx1] at hc
    obtain ⟨hwd, hit⟩ := hc
    obtain ⟨⟨⟨hpl, hcode⟩, hini, hdsc⟩, -, ⟨hmx, hrt⟩, hT⟩ := hok.2.2.2 _ _ _ _ _ _ _ _ _ hx1
    refine Met.ofW (cc := bc) (maxL := maxL) (ret := ret) hpl rfl ?_
    intro p e s m args below meth c s₁ B hml hv
    obtain ⟨rfl, hP, hK, hN⟩ := hv
    have hts : ∀ w ∈ Ts, w.before _ s = true := fun w hw => atoms_spec (ws := pv_ws Ts y bc maxL ret) B.pre w (List.mem_cons_of_mem _ hw)
    have hown : s.vm.findClass y.cls = some m.cls := findClass_of_methodNamed B.named
    have hl := lv_entry (As.map (pv_v ad)) (n := maxL) (by rw [pv_sl_len, pv_wd, pv_wd_map]; exact hwd)
    rw [lg_entry_eq]
    generalize (lg_sl (As.map (pv_v ad)) ++ List.replicate (maxL - (lg_sl (As.map (pv_v ad))).length) Slot.unset).toArray = lsA at hl ⊢
    rw [pv_lc_args] at hl
    exact pv_walk (d := d + 1) (call := pv_call mt (d + 1)) (R := pv_rm (d + 1)) (fun d' h => by cases h; exact ih) (fun h => by cases h) ⟨fun As S P h => h, fun As S P h => h⟩ hok hD ⟨rfl, rfl⟩ B.exec B.bytes hml hown hts hN hK B.returns hrt B.notSynchronized hT _ hit _ _ ⟨hlen, hP, va_S.rf⟩ lsA hl
end PVM
end
section
/-! the pure machine: monotone; runs up to cut points -/
theorem pv_gi_mono {v : Option Value} {f g : Int32 → Prop} (hfg : ∀ x, f x → g x) (h : pv_gi v f) : pv_gi v g := by
  unfold pv_gi at h ⊢
  split at h
  · exact hfg _ h
  · exact h
theorem pv_gl_mono {v : Option Value} {f g : Int64 → Prop} (hfg : ∀ x, f x → g x) (h : pv_gl v f) : pv_gl v g := by
  unfold pv_gl at h ⊢
  split at h
  · exact hfg _ h
  · exact h
theorem pv_gr_mono {v : Option Value} {f g : Nat → Prop} (hfg : ∀ x, f x → g x) (h : pv_gr v f) : pv_gr v g := by
  unfold pv_gr at h ⊢
  split at h
  · exact hfg _ h
  · exact h
theorem pv_so_mono {v : Option Value} {f g : Value → Prop} (hfg : ∀ x, f x → g x) (h : pv_so v f) : pv_so v g := by
  unfold pv_so at h ⊢
  split at h
  · exact hfg _ h
  · exact h
theorem pv_1i_mono {st : List Value} {f g : Int32 → List Value → Prop} (hfg : ∀ x r, f x r → g x r) (h : pv_1i st f) : pv_1i st g := by
  unfold pv_1i at h ⊢
  split at h
  · exact hfg _ _ h
  · exact h
theorem pv_2i_mono {st : List Value} {f g : Int32 → Int32 → List Value → Prop} (hfg : ∀ x y r, f x y r → g x y r) (h : pv_2i st f) : pv_2i st g := by
  unfold pv_2i at h ⊢
  split at h
  · exact hfg _ _ _ h
  · exact h
theorem pv_1l_mono {st : List Value} {f g : Int64 → List Value → Prop} (hfg : ∀ x r, f x r → g x r) (h : pv_1l st f) : pv_1l st g := by
  unfold pv_1l at h ⊢
  split at h
  · exact hfg _ _ h
  · exact h
theorem pv_2l_mono {st : List Value} {f g : Int64 → Int64 → List Value → Prop} (hfg : ∀ x y r, f x y r → g x y r) (h : pv_2l st f) : pv_2l st g := by
  unfold pv_2l at h ⊢
  split at h
  · exact hfg _ _ _ h
  · exact h
theorem pv_li_mono {st : List Value} {f g : Int64 → Int32 → List Value → Prop} (hfg : ∀ x y r, f x y r → g x y r) (h : pv_li st f) : pv_li st g := by
  unfold pv_li at h ⊢
  split at h
  · exact hfg _ _ _ h
  · exact h
theorem pv_1r_mono {st : List Value} {f g : Nat → List Value → Prop} (hfg : ∀ x r, f x r → g x r) (h : pv_1r st f) : pv_1r st g := by
  unfold pv_1r at h ⊢
  split at h
  · exact hfg _ _ h
  · exact h
theorem pv_ir_mono {st : List Value} {f g : Int32 → Nat → List Value → Prop} (hfg : ∀ x y r, f x y r → g x y r) (h : pv_ir st f) : pv_ir st g := by
  unfold pv_ir at h ⊢
  split at h
  · exact hfg _ _ _ h
  · exact h
theorem pv_iir_mono {st : List Value} {f g : Int32 → Int32 → Nat → List Value → Prop} (hfg : ∀ x y z r, f x y z r → g x y z r) (h : pv_iir st f) : pv_iir st g := by
  unfold pv_iir at h ⊢
  split at h
  · exact hfg _ _ _ _ h
  · exact h
theorem pv_lir_mono {st : List Value} {f g : Int64 → Int32 → Nat → List Value → Prop} (hfg : ∀ x y z r, f x y z r → g x y z r) (h : pv_lir st f) : pv_lir st g := by
  unfold pv_lir at h ⊢
  split at h
  · exact hfg _ _ _ _ h
  · exact h
theorem pv_ri_mono {st : List Value} {f g : Int32 → Prop} (hfg : ∀ x, f x → g x) (h : pv_ri st f) : pv_ri st g := by
  unfold pv_ri at h ⊢
  split at h
  · exact hfg _ h
  · exact h
theorem pv_rl_mono {st : List Value} {f g : Int64 → Prop} (hfg : ∀ x, f x → g x) (h : pv_rl st f) : pv_rl st g := by
  unfold pv_rl at h ⊢
  split at h
  · exact hfg _ h
  · exact h
theorem pv_ai_mono {S : pv_S} {b : Nat} {f g : Nat → Nat → (Nat → Int32) → Prop} (hfg : ∀ x y z, f x y z → g x y z) (h : pv_ai S b f) : pv_ai S b g := by
  unfold pv_ai at h ⊢
  split at h
  · exact hfg _ _ _ h
  · exact h
theorem pv_al_mono {S : pv_S} {b : Nat} {f g : Nat → Nat → (Nat → Int64) → Prop} (hfg : ∀ x y z, f x y z → g x y z) (h : pv_al S b f) : pv_al S b g := by
  unfold pv_al at h ⊢
  split at h
  · exact hfg _ _ _ h
  · exact h
theorem pv_an_mono {S : pv_S} {b : Nat} {f g : Nat → Nat → Prop} (hfg : ∀ x y, f x y → g x y) (h : pv_an S b f) : pv_an S b g := by
  unfold pv_an at h ⊢
  split at h
  · exact hfg _ _ h
  · exact h
theorem pv_bif_mono {b : Bool} {P Q : Prop} (h : P → Q) (hp : (bif b then P else False)) : (bif b then Q else False) := by
  cases b with
  | true => exact h hp
  | false => exact hp
theorem pv_ob_mono {S : pv_S} {b ci : Nat} {f g : List Value → Prop} (hfg : ∀ x, f x → g x) (h : pv_ob S b ci f) : pv_ob S b ci g := by
  unfold pv_ob at h ⊢
  split at h
  · exact pv_bif_mono (hfg _) h
  · exact h
theorem pv_sw_mono {k k' : Nat → Prop} (hk : ∀ t, k t → k' t) {pc : Nat} {x : Int32} {d : Int} : ∀ ps : List (Int × Int), pv_sw k pc x ps d → pv_sw k' pc x ps d := by
  intro ps
  induction ps with
  | nil => intro h; exact hk _ h
  | cons q ps ih => intro h; exact ⟨fun e => hk _ (h.1 e), fun e => ih (h.2 e)⟩
def pv_cm (call : pv_C) : Prop := ∀ (j : Nat) (As : List Value) (S : pv_S) (P P' : pv_R), (∀ o S', P o S' → P' o S') → call j As S P → call j As S P'
set_option maxHeartbeats 4000000 in
theorem pv_ex_mono {rt : Nat} {call : pv_C} (hc : pv_cm call) {Q Q' : pv_R} (hQ : ∀ o S, Q o S → Q' o S) {k k' : pv_c → Prop} (hk : ∀ c, k c → k' c) {nx a1 a2 pc : Nat} {v : Value} {ls : pv_L} {st : List Value} {S : pv_S} {ins : Instr} (h : pv_ex rt call Q k nx a1 a2 v pc ls st S ins) : pv_ex rt call Q' k' nx a1 a2 v pc ls st S ins := by
  cases ins
  case iconst z =>
    exact hk _ h
  case bipush z =>
    exact hk _ h
  case sipush z =>
    exact hk _ h
  case lconst z =>
    exact hk _ h
  case ldc z =>
    exact hk _ h
  case ldc2_w z =>
    exact hk _ h
  case goto z =>
    exact hk _ h
  case iload z =>
    exact pv_gi_mono (fun x h => hk _ h) h
  case iload_n z =>
    exact pv_gi_mono (fun x h => hk _ h) h
  case lload z =>
    exact pv_gl_mono (fun x h => hk _ h) h
  case lload_n z =>
    exact pv_gl_mono (fun x h => hk _ h) h
  case aload z =>
    exact pv_gr_mono (fun x h => hk _ h) h
  case aload_n z =>
    exact pv_gr_mono (fun x h => hk _ h) h
  case istore z =>
    exact pv_1i_mono (fun x r h => hk _ h) h
  case istore_n z =>
    exact pv_1i_mono (fun x r h => hk _ h) h
  case lstore z =>
    exact pv_1l_mono (fun x r h => hk _ h) h
  case lstore_n z =>
    exact pv_1l_mono (fun x r h => hk _ h) h
  case i2l =>
    exact pv_1i_mono (fun x r h => hk _ h) h
  case l2i =>
    exact pv_1l_mono (fun x r h => hk _ h) h
  case i2b =>
    exact pv_1i_mono (fun x r h => hk _ h) h
  case iinc i z =>
    exact pv_gi_mono (fun x h => pv_gi_mono (fun y h => hk _ h) h) h
  case iadd =>
    exact pv_2i_mono (fun x y r h => hk _ h) h
  case isub =>
    exact pv_2i_mono (fun x y r h => hk _ h) h
  case imul =>
    exact pv_2i_mono (fun x y r h => hk _ h) h
  case iand =>
    exact pv_2i_mono (fun x y r h => hk _ h) h
  case ior =>
    exact pv_2i_mono (fun x y r h => hk _ h) h
  case ixor =>
    exact pv_2i_mono (fun x y r h => hk _ h) h
  case ishl =>
    exact pv_2i_mono (fun x y r h => hk _ h) h
  case ishr =>
    exact pv_2i_mono (fun x y r h => hk _ h) h
  case idiv =>
    exact pv_2i_mono (fun x y r h => ⟨h.1, hk _ h.2⟩) h
  case irem =>
    exact pv_2i_mono (fun x y r h => ⟨h.1, hk _ h.2⟩) h
  case ladd =>
    exact pv_2l_mono (fun x y r h => hk _ h) h
  case land =>
    exact pv_2l_mono (fun x y r h => hk _ h) h
  case lor =>
    exact pv_2l_mono (fun x y r h => hk _ h) h
  case lxor =>
    exact pv_2l_mono (fun x y r h => hk _ h) h
  case lcmp =>
    exact pv_2l_mono (fun x y r h => hk _ h) h
  case lshl =>
    exact pv_li_mono (fun x y r h => hk _ h) h
  case lshr =>
    exact pv_li_mono (fun x y r h => hk _ h) h
  case lushr =>
    exact pv_li_mono (fun x y r h => hk _ h) h
  case dup =>
    rcases st with _ | ⟨w, r⟩
    · exact h
    · exact pv_bif_mono (hk _) h
  case pop =>
    rcases st with _ | ⟨w, r⟩
    · exact h
    · exact pv_bif_mono (hk _) h
  case pop2 =>
    rcases st with _ | ⟨w, r⟩
    · exact h
    · exact pv_bif_mono (hk _) h
  case dup2 =>
    rcases st with _ | ⟨w, _ | ⟨u, r⟩⟩
    · exact h
    · exact h
    · exact pv_bif_mono (hk _) h
  case ifCond c z =>
    exact pv_1i_mono (fun x r h => by cases c <;> exact ⟨fun e => hk _ (h.1 e), fun e => hk _ (h.2 e)⟩) h
  case if_icmp c z =>
    exact pv_2i_mono (fun x y r h => by cases c <;> exact ⟨fun e => hk _ (h.1 e), fun e => hk _ (h.2 e)⟩) h
  case lookupswitch d ps =>
    exact pv_1i_mono (fun x r h => pv_sw_mono (fun t h => hk _ h) _ h) h
  case tableswitch d lo hi os =>
    exact pv_1i_mono (fun x r h => pv_sw_mono (fun t h => hk _ h) _ h) h
  case getfield z =>
    exact pv_1r_mono (fun x r h => pv_ob_mono (fun fs h => pv_so_mono (fun w h => hk _ h) h) h) h
  case putfield z =>
    cases v
    case null => exact pv_ir_mono (fun x y r h => pv_ob_mono (fun fs h => pv_so_mono (fun w h => hk _ h) h) h) h
    case int q => exact pv_ir_mono (fun x y r h => pv_ob_mono (fun fs h => pv_so_mono (fun w h => ⟨h.1, hk _ h.2⟩) h) h) h
    case long q => exact pv_1l_mono (fun x r h => pv_1r_mono (fun x r h => pv_ob_mono (fun fs h => pv_so_mono (fun w h => hk _ h) h) h) h) h
    all_goals exact h
  case iaload =>
    exact pv_ir_mono (fun x y r h => pv_ai_mono (fun t n f h => pv_bif_mono (fun h => ⟨h.1, hk _ h.2⟩) h) h) h
  case baload =>
    exact pv_ir_mono (fun x y r h => pv_ai_mono (fun t n f h => pv_bif_mono (fun h => ⟨h.1, hk _ h.2⟩) h) h) h
  case laload =>
    exact pv_ir_mono (fun x y r h => pv_al_mono (fun t n f h => pv_bif_mono (fun h => ⟨h.1, hk _ h.2⟩) h) h) h
  case iastore =>
    exact pv_iir_mono (fun x y z r h => pv_ai_mono (fun t n f h => pv_bif_mono (fun h => ⟨h.1, hk _ h.2⟩) h) h) h
  case lastore =>
    exact pv_lir_mono (fun x y z r h => pv_al_mono (fun t n f h => pv_bif_mono (fun h => ⟨h.1, hk _ h.2⟩) h) h) h
  case bastore =>
    refine pv_iir_mono (fun x y z r h => pv_ai_mono (fun t n f h => ?_) h) h
    cases hb : Nat.beq t 1 with
    | true => rw [hb] at h; exact ⟨h.1, hk _ h.2⟩
    | false => rw [hb] at h; exact pv_bif_mono (fun h => ⟨h.1, hk _ h.2⟩) h
  case arraylength =>
    exact pv_1r_mono (fun x r h => pv_an_mono (fun t n h => pv_bif_mono (hk _) h) h) h
  case invokevirtual z =>
    have h : (match pv_pop a2 [] st with | some (As, .ref b :: r) => bif Nat.ble (pv_wd r) 8 then pv_gr (some v) fun ci => pv_ob S b ci fun _ => call a1 (.ref b :: As) S (fun o S' => k (nx, ls, pv_ol o r, S')) else False | _ => False) := h
    show (match pv_pop a2 [] st with | some (As, .ref b :: r) => bif Nat.ble (pv_wd r) 8 then pv_gr (some v) fun ci => pv_ob S b ci fun _ => call a1 (.ref b :: As) S (fun o S' => k' (nx, ls, pv_ol o r, S')) else False | _ => False)
    split at h
    · exact pv_bif_mono (fun h => pv_gr_mono (fun ci h => pv_ob_mono (fun _ h => hc _ _ _ _ _ (fun o S' h => hk _ h) h) h) h) h
    · exact h
  case invokestatic z =>
    have h : (match pv_pop a2 [] st with | some (As, r) => bif Nat.ble (pv_wd r) 8 then call a1 As S (fun o S' => k (nx, ls, pv_ol o r, S')) else False | _ => False) := h
    show (match pv_pop a2 [] st with | some (As, r) => bif Nat.ble (pv_wd r) 8 then call a1 As S (fun o S' => k' (nx, ls, pv_ol o r, S')) else False | _ => False)
    split at h
    · exact pv_bif_mono (fun h => hc _ _ _ _ _ (fun o S' h => hk _ h) h) h
    · exact h
  case ireturn =>
    refine pv_ri_mono (fun x h => ?_) h
    cases hb : Nat.beq rt 0 with
    | true => rw [hb] at h; exact hQ _ _ h
    | false => rw [hb] at h; exact pv_bif_mono (fun h => ⟨h.1, hQ _ _ h.2⟩) h
  case lreturn =>
    exact pv_rl_mono (fun x h => pv_bif_mono (hQ _ _) h) h
  case return_ =>
    rcases st with _ | ⟨w, r⟩
    · exact pv_bif_mono (hQ _ _) h
    · exact h
  all_goals exact h
theorem pv_st_mono {T : Nat → Option pv_I} {rt : Nat} {call : pv_C} (hc : pv_cm call) {Q Q' : pv_R} (hQ : ∀ o S, Q o S → Q' o S) {k k' : pv_c → Prop} (hk : ∀ c, k c → k' c) {c : pv_c} (h : pv_st T rt call Q k c) : pv_st T rt call Q' k' c := by
  unfold pv_st at h ⊢
  split at h
  · exact pv_ex_mono hc hQ hk h
  · exact h
theorem pv_go_fold {T : Nat → Option pv_I} {rt : Nat} {call : pv_C} (hc : pv_cm call) {Q : pv_R} {c : pv_c} (h : pv_st T rt call Q (pv_go T rt call Q) c) : pv_go T rt call Q c :=
  fun X hX => hX c (pv_st_mono hc (fun _ _ h => h) (fun c' h' => h' X hX) h)
theorem pv_go_mono {T : Nat → Option pv_I} {rt : Nat} {call : pv_C} (hc : pv_cm call) {Q Q' : pv_R} (hQ : ∀ o S, Q o S → Q' o S) {c : pv_c} (h : pv_go T rt call Q c) : pv_go T rt call Q' c :=
  fun X hX => h X (fun c' h' => hX c' (pv_st_mono hc hQ (fun _ h => h) h'))
theorem pv_call_cm (mt : Nat → Option pv_M) : ∀ d, pv_cm (pv_call mt d) := by
  intro d
  induction d with
  | zero => intro j As S P P' _ h; exact h
  | succ d ih =>
    intro j As S P P' hP h
    have h : (bif Nat.beq j 999 then pv_cp As S P else bif Nat.beq j 998 then pv_mn As S P else match mt j with
      | some (_, _, maxL, _, _, _, rt, T) => pv_wd As ≤ maxL ∧ pv_go T rt (pv_call mt d) P (0, lv_args 0 As, [], S)
      | none => False) := h
    show (bif Nat.beq j 999 then pv_cp As S P' else bif Nat.beq j 998 then pv_mn As S P' else match mt j with
      | some (_, _, maxL, _, _, _, rt, T) => pv_wd As ≤ maxL ∧ pv_go T rt (pv_call mt d) P' (0, lv_args 0 As, [], S)
      | none => False)
    cases h9 : Nat.beq j 999 with
    | true =>
      rw [h9] at h
      have h : pv_cp As S P := h
      show pv_cp As S P'
      unfold pv_cp at h ⊢
      split at h
      · exact pv_ai_mono (fun t n f h => pv_ai_mono (fun u n' g h => pv_bif_mono (fun h => ⟨h.1, hP _ _ h.2⟩) h) h) h
      · exact h
    | false =>
      rw [h9] at h
      cases h8 : Nat.beq j 998 with
      | true =>
        rw [h8] at h
        have h : pv_mn As S P := h
        show pv_mn As S P'
        unfold pv_mn at h ⊢
        split at h
        · exact hP _ _ h
        · exact h
      | false =>
        rw [h8] at h
        cases hm : mt j with
        | none => rw [hm] at h; exact h
        | some x =>
          obtain ⟨y, bc, maxL, ret, stat, na, rt, T⟩ := x
          rw [hm] at h
          exact ⟨h.1, pv_go_mono ih hP h.2⟩
/-- a call is shown by its method's walk -/
theorem pv_call_of {mt : Nat → Option pv_M} {d j : Nat} {As : List Value} {S : pv_S} {P : pv_R} {y : MethodName} {bc : ByteArray} {maxL : Nat} {ret : Option FieldType} {stat : Bool} {na rt : Nat} {T : Nat → Option pv_I} (hj : (Nat.beq j 999 || Nat.beq j 998) = false) (hm : mt j = some (y, bc, maxL, ret, stat, na, rt, T)) (hw : Nat.ble (pv_wd As) maxL = true) (h : pv_go T rt (pv_call mt d) P (0, lv_args 0 As, [], S)) : pv_call mt (d + 1) j As S P := by
  show (bif Nat.beq j 999 then pv_cp As S P else bif Nat.beq j 998 then pv_mn As S P else match mt j with
      | some (_, _, maxL, _, _, _, rt, T) => pv_wd As ≤ maxL ∧ pv_go T rt (pv_call mt d) P (0, lv_args 0 As, [], S)
      | none => False)
  rw [Bool.or_eq_false_iff] at hj
  rw [hj.1, hj.2, hm]
  exact ⟨Nat.le_of_ble_eq_true hw, h⟩
/-- up to n steps, not beyond a pc of the list -/
def pv_wp (T : Nat → Option pv_I) (rt : Nat) (call : pv_C) (Q : pv_R) (cuts : List Nat) (C : pv_c → Prop) : Nat → pv_c → Prop
  | 0, c => C c
  | n + 1, c => bif cuts.any (Nat.beq c.1) then C c else pv_st T rt call Q (pv_wp T rt call Q cuts C n) c
theorem pv_wp_go {T : Nat → Option pv_I} {rt : Nat} {call : pv_C} (hc : pv_cm call) {Q : pv_R} {cuts : List Nat} : ∀ (n : Nat) (c : pv_c), pv_wp T rt call Q cuts (pv_go T rt call Q) n c → pv_go T rt call Q c := by
  intro n
  induction n with
  | zero => intro c h; exact h
  | succ n ih =>
    intro c h
    have h : (bif cuts.any (Nat.beq c.1) then pv_go T rt call Q c else pv_st T rt call Q (pv_wp T rt call Q cuts (pv_go T rt call Q) n) c) := h
    cases hb : cuts.any (Nat.beq c.1) with
    | true => rw [hb] at h; exact h
    | false => rw [hb] at h; exact pv_go_fold hc (pv_st_mono hc (fun _ _ h => h) ih h)
/-- from a cut point on: one step, then up to n more -/
theorem pv_run {mt : Nat → Option pv_M} {d : Nat} {T : Nat → Option pv_I} {rt : Nat} {Q : pv_R} (cuts : List Nat) (n : Nat) {c : pv_c} (h : pv_st T rt (pv_call mt d) Q (pv_wp T rt (pv_call mt d) Q cuts (pv_go T rt (pv_call mt d) Q) n) c) : pv_go T rt (pv_call mt d) Q c :=
  pv_go_fold (pv_call_cm mt d) (pv_st_mono (pv_call_cm mt d) (fun _ _ h => h) (pv_wp_go (pv_call_cm mt d) n) h)
end
section
/-! the tables' check, by program: what pv_ck accepts, pv_oi says -/
def pv_sorted (ps : List (Int × Int)) : Bool := (ps.zip (ps.drop 1)).all (fun (a, next) => a.1 < next.1)
def pv_ck (FL : List (Nat × Nat × Nat × Nat)) (ML : List (Nat × Nat × Nat)) (CL : List (Nat × Nat × Value)) (cl : List vw_C) (tyf : Nat → Nat → FieldType) (ma : Nat → Option (Bool × Nat × Nat)) (own nL pc len a1 a2 : Nat) (v : Value) (ins : Instr) : Bool := match ins with
  | .iconst n => decide (v = .int (Int32.ofInt n)) && len == 1
  | .bipush n => decide (v = .int (Int8.ofInt n).toInt32) && len == 2
  | .sipush n => decide (v = .int (Int16.ofInt n).toInt32) && len == 3
  | .lconst n => decide (v = .long (Int64.ofNat n.val)) && len == 1
  | .ldc i => (match v with | .int x => decide ((own, i, Value.int x) ∈ CL) | _ => false) && len == 2
  | .ldc2_w i => (match v with | .long x => decide ((own, i, Value.long x) ∈ CL) | _ => false) && len == 3
  | .iload i => i == a1 && len == 2
  | .iload_n i => i.val == a1 && len == 1
  | .lload i => i == a1 && len == 2
  | .lload_n i => i.val == a1 && len == 1
  | .aload i => i == a1 && len == 2
  | .aload_n i => i.val == a1 && len == 1
  | .istore i => (i == a1 && len == 2) && decide (a1 < nL)
  | .istore_n i => (i.val == a1 && len == 1) && decide (a1 < nL)
  | .lstore i => (i == a1 && len == 2) && decide (a1 + 1 < nL)
  | .lstore_n i => (i.val == a1 && len == 1) && decide (a1 + 1 < nL)
  | .iinc i n => ((i == a1 && len == 3) && decide (a1 < nL)) && decide (v = .int (Int32.ofInt n))
  | .goto off => decide ((pc : Int) + off = (a1 : Int)) && len == 3
  | .ifCond _ off => decide ((pc : Int) + off = (a1 : Int)) && len == 3
  | .if_icmp _ off => decide ((pc : Int) + off = (a1 : Int)) && len == 3
  | .lookupswitch d ps => (pv_sorted ps.toList && decide (0 ≤ (pc : Int) + d)) && ps.toList.all (fun q => decide ((Int32.ofInt q.1).toInt = q.1) && decide (0 ≤ (pc : Int) + q.2))
  | .tableswitch d lo hi offs => (decide (hi + 1 = lo + (offs.size : Int)) && decide (0 ≤ (pc : Int) + d)) && (pv_tb lo 0 offs.toList).all (fun q => decide ((Int32.ofInt q.1).toInt = q.1) && decide (0 ≤ (pc : Int) + q.2))
  | .getfield i => len == 3 && decide ((own, i, a1, a2) ∈ FL)
  | .putfield i => (len == 3 && decide ((own, i, a1, a2) ∈ FL)) && ((match cl[a1]? with | some q => !(q.2.1 a2).2.2.2 | none => true) && pv_kd (tyf a1 a2) v)
  | .invokevirtual i => (len == 3 && decide ((own, i, a1) ∈ ML)) && (match ma a1, v with | some (st, na, ci), .ref c => (!st && a2 == na) && ci == c | _, _ => false)
  | .invokestatic i => (len == 3 && decide ((own, i, a1) ∈ ML)) && ((a1 == 999 && a2 == 5) || ((a1 == 998 && a2 == 2) || ((!(a1 == 999) && !(a1 == 998)) && (match ma a1 with | some (st, na, _) => st && a2 == na | _ => false))))
  | _ => len == 1
/-- what the link tables must say -/
def pv_okL (cn : Nat → String) (FL : List (Nat × Nat × Nat × Nat)) (ML : List (Nat × Nat × Nat)) (CL : List (Nat × Nat × Value)) (cl : List vw_C) (Ts NW : List Cond) (mt : Nat → Option pv_M) (ma : Nat → Option (Bool × Nat × Nat)) : Prop :=
  (∀ q ∈ FL, pv_of cl Ts NW (cn q.1) q.2.1 q.2.2.1 q.2.2.2) ∧
  (∀ q ∈ ML, (q.2.2 = 999 → Cond.methodLink (cn q.1) q.2.1 arraycopyName ∈ Ts ∧ Cond.native arraycopyName ∈ Ts ∧ Cond.static arraycopyName ∈ Ts ∧ Cond.initialized "java/lang/System" ∈ Ts) ∧ (q.2.2 = 998 → Cond.methodLink (cn q.1) q.2.1 Lib.Math.min.name ∈ Ts ∧ Cond.static Lib.Math.min.name ∈ Ts ∧ Cond.initialized "java/lang/Math" ∈ Ts ∧ Cond.code Lib.Math.min.name Lib.Math.min.code 2 (some .int) ∈ Ts) ∧ ∀ x, mt q.2.2 = some x → pv_ml Ts NW (cn q.1) q.2.1 x.1) ∧
  (∀ q ∈ CL, (∀ x, q.2.2 = .int x → Cond.constant (cn q.1) q.2.1 x ∈ Ts) ∧ (∀ x, q.2.2 = .long x → Cond.constantLong (cn q.1) q.2.1 x ∈ Ts)) ∧
  (∀ j st na ci, ma j = some (st, na, ci) → ∃ x, mt j = some x ∧ (x.2.2.2.2.1 = st ∧ x.2.2.2.2.2.1 = na) ∧ (st = false → ∃ T N, cl[ci]? = some (x.1.cls, T, N)))
set_option maxHeartbeats 4000000 in
theorem pv_ck_ok {cn : Nat → String} {FL : List (Nat × Nat × Nat × Nat)} {ML : List (Nat × Nat × Nat)} {CL : List (Nat × Nat × Value)} {cl : List vw_C} {tyf : Nat → Nat → FieldType} {Ts NW : List Cond} {mt : Nat → Option pv_M} {ma : Nat → Option (Bool × Nat × Nat)} (hL : pv_okL cn FL ML CL cl Ts NW mt ma) {own nL pc len a1 a2 : Nat} {v : Value} {ins : Instr} (h : pv_ck FL ML CL cl tyf ma own nL pc len a1 a2 v ins = true) : pv_oi cl tyf Ts NW mt (cn own) nL pc len a1 a2 v ins := by
  obtain ⟨hF, hM, hC, hma⟩ := hL
  cases ins
  case ldc i =>
    simp only [pv_ck, Bool.and_eq_true] at h
    obtain ⟨h1, h2⟩ := h
    split at h1
    · rename_i x
      exact ⟨⟨x, rfl, (hC _ (of_decide_eq_true h1)).1 x rfl⟩, by simpa using h2⟩
    · cases h1
  case ldc2_w i =>
    simp only [pv_ck, Bool.and_eq_true] at h
    obtain ⟨h1, h2⟩ := h
    split at h1
    · rename_i x
      exact ⟨⟨x, rfl, (hC _ (of_decide_eq_true h1)).2 x rfl⟩, by simpa using h2⟩
    · cases h1
  case lookupswitch d ps =>
    simp only [pv_ck, Bool.and_eq_true, List.all_eq_true, decide_eq_true_eq] at h
    exact ⟨⟨h.1.1, h.1.2⟩, fun q hq => h.2 q hq⟩
  case tableswitch d lo hi offs =>
    simp only [pv_ck, Bool.and_eq_true, List.all_eq_true, decide_eq_true_eq] at h
    exact ⟨⟨h.1.1, h.1.2⟩, fun q hq => h.2 q hq⟩
  case getfield i =>
    simp only [pv_ck, Bool.and_eq_true, decide_eq_true_eq, beq_iff_eq] at h
    exact ⟨h.1, hF _ h.2⟩
  case putfield i =>
    simp only [pv_ck, Bool.and_eq_true, decide_eq_true_eq, beq_iff_eq] at h
    obtain ⟨⟨h1, h2⟩, h3, h4⟩ := h
    refine ⟨⟨h1, hF _ h2⟩, fun C T N hc => ?_, h4⟩
    rw [hc] at h3
    simpa using h3
  case invokevirtual i =>
    simp only [pv_ck, Bool.and_eq_true, decide_eq_true_eq, beq_iff_eq] at h
    obtain ⟨⟨h1, h2⟩, h3⟩ := h
    split at h3
    · rename_i st na ci c hm
      simp only [Bool.and_eq_true, Bool.not_eq_true', beq_iff_eq] at h3
      obtain ⟨⟨h4, h5⟩, h6⟩ := h3
      obtain ⟨x, hx, ⟨e1, e2⟩, hcl⟩ := hma _ _ _ _ hm
      obtain ⟨T, N, hc⟩ := hcl h4
      subst h6
      exact ⟨h1, x, hx, ⟨e1.trans h4, h5.trans e2.symm⟩, ⟨ci, T, N, rfl, hc⟩, (hM _ h2).2.2 x hx⟩
    · cases h3
  case invokestatic i =>
    simp only [pv_ck, Bool.and_eq_true, decide_eq_true_eq, beq_iff_eq, Bool.or_eq_true] at h
    obtain ⟨⟨h1, h2⟩, h3⟩ := h
    rcases h3 with ⟨h4, h5⟩ | ⟨h4, h5⟩ | ⟨h4, h5⟩
    · exact ⟨h1, Or.inl ⟨h4, h5, (hM _ h2).1 h4⟩⟩
    · exact ⟨h1, Or.inr (Or.inl ⟨h4, h5, (hM _ h2).2.1 h4⟩)⟩
    · split at h5
      · rename_i st na ci hm
        simp only [Bool.and_eq_true, beq_iff_eq] at h5
        obtain ⟨x, hx, ⟨e1, e2⟩, -⟩ := hma _ _ _ _ hm
        exact ⟨h1, Or.inr (Or.inr ⟨by simpa using h4, x, hx, ⟨e1.trans h5.1, h5.2.trans e2.symm⟩, (hM _ h2).2.2 x hx⟩)⟩
      · cases h5
  all_goals (simp only [pv_ck, Bool.and_eq_true, decide_eq_true_eq, beq_iff_eq] at h; exact h)
/-- a method's table, checked to its end -/
def pv_ckT (FL : List (Nat × Nat × Nat × Nat)) (ML : List (Nat × Nat × Nat)) (CL : List (Nat × Nat × Value)) (cl : List vw_C) (tyf : Nat → Nat → FieldType) (ma : Nat → Option (Bool × Nat × Nat)) (own nL : Nat) (cc : ByteArray) (T : Nat → Option pv_I) (pc : Nat) : Bool := match T pc with
  | some (ins, len, nx, a1, a2, v) => decide (decode cc pc = .ok (ins, len)) && (nx == pc + len && pv_ck FL ML CL cl tyf ma own nL pc len a1 a2 v ins)
  | none => true
theorem pv_ckT_ok {cn : Nat → String} {FL : List (Nat × Nat × Nat × Nat)} {ML : List (Nat × Nat × Nat)} {CL : List (Nat × Nat × Value)} {cl : List vw_C} {tyf : Nat → Nat → FieldType} {Ts NW : List Cond} {mt : Nat → Option pv_M} {ma : Nat → Option (Bool × Nat × Nat)} (hL : pv_okL cn FL ML CL cl Ts NW mt ma) {own nL N : Nat} {cc : ByteArray} {T : Nat → Option pv_I} (hN : ∀ pc, N ≤ pc → T pc = none) (h : (List.range N).all (pv_ckT FL ML CL cl tyf ma own nL cc T) = true) :
    ∀ (pc : Nat) (ins : Instr) (len nx a1 a2 : Nat) (v : Value), T pc = some (ins, len, nx, a1, a2, v) → decode cc pc = .ok (ins, len) ∧ nx = pc + len ∧ pv_oi cl tyf Ts NW mt (cn own) nL pc len a1 a2 v ins := by
  intro pc ins len nx a1 a2 v hT
  have hlt : pc < N := by
    rcases Nat.lt_or_ge pc N with q | q
    · exact q
    · rw [hN pc q] at hT; cases hT
  have h1 := List.all_eq_true.mp h pc (List.mem_range.mpr hlt)
  unfold pv_ckT at h1
  rw [hT] at h1
  simp only [Bool.and_eq_true, decide_eq_true_eq, beq_iff_eq] at h1
  exact ⟨h1.1, h1.2.1, pv_ck_ok hL h1.2.2⟩
theorem pv_blt_none {N : Nat} {α : Type} (f : Nat → Option α) : ∀ pc, N ≤ pc → (bif Nat.blt pc N then f pc else none) = none := by
  intro pc h
  have : Nat.blt pc N = false := by
    cases hb : Nat.blt pc N with
    | true => exact absurd (Nat.blt_eq.mp hb) (Nat.not_lt.mpr h)
    | false => rfl
  rw [this]; rfl
end
section
/-! the link tables' check, by program -/
theorem pv_okF {cn : Nat → String} {FL : List (Nat × Nat × Nat × Nat)} {cl : List vw_C} {Ts Wf NW : List Cond} {hn : String} (hin : ∀ w ∈ Wf, w ∈ Ts) (h : FL.all (fun q => match cl[q.2.2.1]? with
    | some r => decide (q.2.2.2 < r.2.2) && (decide (Cond.fieldLink (cn q.1) q.2.1 r.1 (r.2.1 q.2.2.2).2.1 (r.2.1 q.2.2.2).2.2.1 ∈ Wf) || decide (Cond.fieldLinkNest (cn q.1) q.2.1 r.1 (r.2.1 q.2.2.2).2.1 (r.2.1 q.2.2.2).2.2.1 hn ∈ NW))
    | none => false) = true) : ∀ q ∈ FL, pv_of cl Ts NW (cn q.1) q.2.1 q.2.2.1 q.2.2.2 := by
  intro q hq
  have h1 := List.all_eq_true.mp h q hq
  cases hc : cl[q.2.2.1]? with
  | none => rw [hc] at h1; cases h1
  | some r =>
    rw [hc] at h1
    obtain ⟨C, T, N⟩ := r
    simp only [Bool.and_eq_true, Bool.or_eq_true, decide_eq_true_eq] at h1
    refine ⟨C, T, N, hc, h1.1, ?_⟩
    rcases h1.2 with h2 | h2
    · exact Or.inl (hin _ h2)
    · exact Or.inr ⟨hn, h2⟩
theorem pv_okK {cn : Nat → String} {ML : List (Nat × Nat × Nat)} {Ts Wk Wa NW : List Cond} {mt : Nat → Option pv_M} {hn : String} (hin : ∀ w ∈ Wk, w ∈ Ts) (hia : ∀ w ∈ Wa, w ∈ Ts) (h : ML.all (fun q => (!(q.2.2 == 999) || (decide (Cond.methodLink (cn q.1) q.2.1 arraycopyName ∈ Wk) && (decide (Cond.native arraycopyName ∈ Wa) && (decide (Cond.static arraycopyName ∈ Wa) && decide (Cond.initialized "java/lang/System" ∈ Wa))))) && ((!(q.2.2 == 998) || (decide (Cond.methodLink (cn q.1) q.2.1 Lib.Math.min.name ∈ Wk) && (decide (Cond.static Lib.Math.min.name ∈ Wa) && (decide (Cond.initialized "java/lang/Math" ∈ Wa) && decide (Cond.code Lib.Math.min.name Lib.Math.min.code 2 (some .int) ∈ Wa))))) && (match mt q.2.2 with
    | some x => decide (Cond.methodLink (cn q.1) q.2.1 x.1 ∈ Wk) || decide (Cond.methodLinkNest (cn q.1) q.2.1 x.1 hn ∈ NW)
    | none => true))) = true) : ∀ q ∈ ML, (q.2.2 = 999 → Cond.methodLink (cn q.1) q.2.1 arraycopyName ∈ Ts ∧ Cond.native arraycopyName ∈ Ts ∧ Cond.static arraycopyName ∈ Ts ∧ Cond.initialized "java/lang/System" ∈ Ts) ∧ (q.2.2 = 998 → Cond.methodLink (cn q.1) q.2.1 Lib.Math.min.name ∈ Ts ∧ Cond.static Lib.Math.min.name ∈ Ts ∧ Cond.initialized "java/lang/Math" ∈ Ts ∧ Cond.code Lib.Math.min.name Lib.Math.min.code 2 (some .int) ∈ Ts) ∧ ∀ x, mt q.2.2 = some x → pv_ml Ts NW (cn q.1) q.2.1 x.1 := by
  intro q hq
  have h1 := List.all_eq_true.mp h q hq
  rw [Bool.and_eq_true, Bool.and_eq_true] at h1
  obtain ⟨h1, h8, h2⟩ := h1
  refine ⟨fun h9 => ?_, fun h9 => ?_, fun x hx => ?_⟩
  · rw [h9] at h1
    simp only [beq_self_eq_true, Bool.not_true, Bool.false_or, Bool.and_eq_true, decide_eq_true_eq] at h1
    exact ⟨hin _ h1.1, hia _ h1.2.1, hia _ h1.2.2.1, hia _ h1.2.2.2⟩
  · rw [h9] at h8
    simp only [beq_self_eq_true, Bool.not_true, Bool.false_or, Bool.and_eq_true, decide_eq_true_eq] at h8
    exact ⟨hin _ h8.1, hia _ h8.2.1, hia _ h8.2.2.1, hia _ h8.2.2.2⟩
  · rw [hx] at h2
    simp only [Bool.or_eq_true, decide_eq_true_eq] at h2
    rcases h2 with h2 | h2
    · exact Or.inl (hin _ h2)
    · exact Or.inr ⟨hn, h2⟩
theorem pv_okV {cn : Nat → String} {CL : List (Nat × Nat × Value)} {Ts Wv : List Cond} (hin : ∀ w ∈ Wv, w ∈ Ts) (h : CL.all (fun q => match q.2.2 with
    | .int x => decide (Cond.constant (cn q.1) q.2.1 x ∈ Wv)
    | .long x => decide (Cond.constantLong (cn q.1) q.2.1 x ∈ Wv)
    | _ => true) = true) : ∀ q ∈ CL, (∀ x, q.2.2 = .int x → Cond.constant (cn q.1) q.2.1 x ∈ Ts) ∧ (∀ x, q.2.2 = .long x → Cond.constantLong (cn q.1) q.2.1 x ∈ Ts) := by
  intro q hq
  have h1 := List.all_eq_true.mp h q hq
  refine ⟨fun x hx => ?_, fun x hx => ?_⟩ <;> (rw [hx] at h1; exact hin _ (of_decide_eq_true h1))
theorem pv_at_none {α : Type} {l : List α} {n : Nat} (h : l.length ≤ n) : pv_at l n = none := by rw [pv_at_eq]; simp [h]
theorem pv_okA {cl : List vw_C} {mas : List (Bool × Nat × Nat)} {mt : Nat → Option pv_M} (h : (List.range mas.length).all (fun j => match pv_at mas j, mt j with
    | some r, some x => decide (x.2.2.2.2.1 = r.1 ∧ x.2.2.2.2.2.1 = r.2.1) && (r.1 || decide ((cl[r.2.2]?).map (fun z => z.1) = some x.1.cls))
    | _, _ => false) = true) : ∀ j st na ci, pv_at mas j = some (st, na, ci) → ∃ x, mt j = some x ∧ (x.2.2.2.2.1 = st ∧ x.2.2.2.2.2.1 = na) ∧ (st = false → ∃ T N, cl[ci]? = some (x.1.cls, T, N)) := by
  intro j st na ci hj
  have hlt : j < mas.length := by
    rcases Nat.lt_or_ge j mas.length with q | q
    · exact q
    · rw [pv_at_none q] at hj; cases hj
  have h1 := List.all_eq_true.mp h j (List.mem_range.mpr hlt)
  rw [hj] at h1
  cases hm : mt j with
  | none => rw [hm] at h1; cases h1
  | some x =>
    rw [hm] at h1
    simp only [Bool.and_eq_true, Bool.or_eq_true, decide_eq_true_eq] at h1
    refine ⟨x, rfl, h1.1, fun hst => ?_⟩
    rcases h1.2 with h2 | h2
    · rw [hst] at h2; cases h2
    · cases hc : cl[ci]? with
      | none => rw [hc] at h2; cases h2
      | some z =>
        rw [hc] at h2
        obtain ⟨C, T, N⟩ := z
        exact ⟨T, N, by rw [← Option.some.inj h2]⟩
end
