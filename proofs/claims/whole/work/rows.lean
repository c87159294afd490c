section
/-! THE PURE MACHINE: configurations whose references are numbers of cells; one step as a transformer of predicates -/
abbrev pv_S : Type := List va_E
abbrev pv_L : Type := List (Nat × Value)
abbrev pv_c : Type := Nat × pv_L × List Value × pv_S
abbrev pv_I : Type := Instr × Nat × Nat × Nat × Nat × Value
abbrev pv_R : Type := Option Value → pv_S → Prop
abbrev pv_C : Type := Nat → List Value → pv_S → pv_R → Prop
def pv_at {α : Type} : List α → Nat → Option α
  | [], _ => none
  | x :: _, 0 => some x
  | _ :: l, n + 1 => pv_at l n
def pv_set {α : Type} : List α → Nat → α → List α
  | [], _, _ => []
  | _ :: l, 0, y => y :: l
  | x :: l, n + 1, y => x :: pv_set l n y
theorem pv_at_eq {α : Type} (l : List α) (n : Nat) : pv_at l n = l[n]? := by
  induction l generalizing n with
  | nil => simp [pv_at]
  | cons x l ih => cases n with
    | zero => simp [pv_at]
    | succ n => simp [pv_at, ih]
theorem pv_set_eq {α : Type} (l : List α) (n : Nat) (y : α) : pv_set l n y = l.set n y := by
  induction l generalizing n with
  | nil => simp [pv_set]
  | cons x l ih => cases n with
    | zero => simp [pv_set]
    | succ n => simp [pv_set, ih]
def pv_get : pv_L → Nat → Option Value
  | [], _ => none
  | q :: l, i => bif Nat.beq q.1 i then some q.2 else pv_get l i
theorem pv_get_mem {l : pv_L} {i : Nat} {v : Value} (h : pv_get l i = some v) : (i, v) ∈ l := by
  induction l with
  | nil => cases h
  | cons q l ih =>
    unfold pv_get at h
    by_cases hq : Nat.beq q.1 i = true
    · rw [hq] at h
      have h1 : q.2 = v := Option.some.inj h
      have h2 : q.1 = i := Nat.eq_of_beq_eq_true hq
      rw [← h1, ← h2]
      exact List.mem_cons_self
    · have hq' : Nat.beq q.1 i = false := by
        cases hb : Nat.beq q.1 i with
        | true => exact absurd hb hq
        | false => rfl
      rw [hq'] at h
      exact List.mem_cons_of_mem _ (ih h)
def pv_ins (i : Nat) (v : Value) : pv_L → pv_L
  | [] => [(i, v)]
  | q :: l => bif Nat.blt q.1 i then q :: pv_ins i v l else (i, v) :: q :: l
theorem pv_ins_mem {i : Nat} {v : Value} {l : pv_L} {x : Nat × Value} (h : x ∈ pv_ins i v l) : x ∈ (i, v) :: l := by
  induction l with
  | nil => exact h
  | cons q l ih =>
    unfold pv_ins at h
    cases hb : Nat.blt q.1 i with
    | true =>
      rw [hb] at h
      rcases List.mem_cons.mp h with e | h
      · rw [e]; exact List.mem_cons_of_mem _ List.mem_cons_self
      · rcases List.mem_cons.mp (ih h) with e | h
        · rw [e]; exact List.mem_cons_self
        · exact List.mem_cons_of_mem _ (List.mem_cons_of_mem _ h)
    | false => rw [hb] at h; exact h
def pv_put (i : Nat) (v : Value) (l : pv_L) : pv_L := pv_ins i v (l.filter (fun q => !(q.1 == i) && !(q.1 + 1 == i && q.2.category == 2)))
def pv_put2 (i : Nat) (v : Value) (l : pv_L) : pv_L := pv_ins i v (l.filter (fun q => !(q.1 == i) && (!(q.1 == i + 1) && !(q.1 + 1 == i && q.2.category == 2))))
def pv_pop : Nat → List Value → List Value → Option (List Value × List Value)
  | 0, acc, st => some (acc, st)
  | n + 1, acc, v :: st => pv_pop n (v :: acc) st
  | _ + 1, _, [] => none
theorem pv_pop_eq : ∀ (n : Nat) (acc st As r : List Value), pv_pop n acc st = some (As, r) → ∃ L : List Value, L.length = n ∧ As = L ++ acc ∧ st = L.reverse ++ r := by
  intro n
  induction n with
  | zero =>
    intro acc st As r h
    cases h
    exact ⟨[], rfl, rfl, rfl⟩
  | succ n ih =>
    intro acc st As r h
    cases st with
    | nil => cases h
    | cons v st =>
      obtain ⟨L, h1, h2, h3⟩ := ih (v :: acc) st As r h
      refine ⟨L ++ [v], by simp [h1], by simp [h2], by simp [h3]⟩
def pv_wd (l : List Value) : Nat := (l.map fun v => v.category).sum
def pv_gi (o : Option Value) (f : Int32 → Prop) : Prop := match o with
  | some (.int x) => f x
  | _ => False
def pv_gl (o : Option Value) (f : Int64 → Prop) : Prop := match o with
  | some (.long x) => f x
  | _ => False
def pv_gr (o : Option Value) (f : Nat → Prop) : Prop := match o with
  | some (.ref x) => f x
  | _ => False
def pv_1i (st : List Value) (f : Int32 → List Value → Prop) : Prop := match st with
  | .int x :: r => f x r
  | _ => False
def pv_2i (st : List Value) (f : Int32 → Int32 → List Value → Prop) : Prop := match st with
  | .int y :: .int x :: r => f x y r
  | _ => False
def pv_1l (st : List Value) (f : Int64 → List Value → Prop) : Prop := match st with
  | .long x :: r => f x r
  | _ => False
def pv_2l (st : List Value) (f : Int64 → Int64 → List Value → Prop) : Prop := match st with
  | .long y :: .long x :: r => f x y r
  | _ => False
def pv_li (st : List Value) (f : Int64 → Int32 → List Value → Prop) : Prop := match st with
  | .int y :: .long x :: r => f x y r
  | _ => False
def pv_1r (st : List Value) (f : Nat → List Value → Prop) : Prop := match st with
  | .ref a :: r => f a r
  | _ => False
def pv_ir (st : List Value) (f : Int32 → Nat → List Value → Prop) : Prop := match st with
  | .int i :: .ref a :: r => f i a r
  | _ => False
def pv_iir (st : List Value) (f : Int32 → Int32 → Nat → List Value → Prop) : Prop := match st with
  | .int x :: .int i :: .ref a :: r => f x i a r
  | _ => False
def pv_lir (st : List Value) (f : Int64 → Int32 → Nat → List Value → Prop) : Prop := match st with
  | .long x :: .int i :: .ref a :: r => f x i a r
  | _ => False
def pv_ob (S : pv_S) (a ci : Nat) (f : List Value → Prop) : Prop := match pv_at S a with
  | some (.inr (c, fs)) => bif Nat.beq c ci then f fs else False
  | _ => False
def pv_ai (S : pv_S) (a : Nat) (f : Nat → Nat → (Nat → Int32) → Prop) : Prop := match pv_at S a with
  | some (.inl (t, n, .inl g)) => f t n g
  | _ => False
def pv_al (S : pv_S) (a : Nat) (f : Nat → Nat → (Nat → Int64) → Prop) : Prop := match pv_at S a with
  | some (.inl (t, n, .inr (.inl g))) => f t n g
  | _ => False
def pv_an (S : pv_S) (a : Nat) (f : Nat → Nat → Prop) : Prop := match pv_at S a with
  | some (.inl q) => f q.1 q.2.1
  | _ => False
def pv_ri (st : List Value) (f : Int32 → Prop) : Prop := match st with
  | [.int x] => f x
  | _ => False
def pv_rl (st : List Value) (f : Int64 → Prop) : Prop := match st with
  | [.long x] => f x
  | _ => False
def pv_so (o : Option Value) (f : Value → Prop) : Prop := match o with
  | some v => f v
  | none => False
def pv_if (P : Prop) (kt kf : Prop) : Prop := (P → kt) ∧ (¬ P → kf)
def pv_sw (k : Nat → Prop) (pc : Nat) (x : Int32) : List (Int × Int) → Int → Prop
  | [], d => k ((pc : Int) + d).toNat
  | q :: r, d => (x = Int32.ofInt q.1 → k ((pc : Int) + q.2).toNat) ∧ (¬ x = Int32.ofInt q.1 → pv_sw k pc x r d)
def pv_tb (lo : Int) : Nat → List Int → List (Int × Int)
  | _, [] => []
  | n, o :: r => (lo + (n : Int), o) :: pv_tb lo (n + 1) r
def pv_ol (o : Option Value) (r : List Value) : List Value := match o with
  | some v => v :: r
  | none => r
/-- one instruction -/
def pv_ex (rt : Nat) (call : pv_C) (Q : pv_R) (k : pv_c → Prop) (nx a1 a2 : Nat) (v : Value) (pc : Nat) (ls : pv_L) (st : List Value) (S : pv_S) (ins : Instr) : Prop := match ins with
  | .iconst _ => k (nx, ls, v :: st, S)
  | .bipush _ => k (nx, ls, v :: st, S)
  | .sipush _ => k (nx, ls, v :: st, S)
  | .lconst _ => k (nx, ls, v :: st, S)
  | .ldc _ => k (nx, ls, v :: st, S)
  | .ldc2_w _ => k (nx, ls, v :: st, S)
  | .iload _ => pv_gi (pv_get ls a1) fun x => k (nx, ls, .int x :: st, S)
  | .iload_n _ => pv_gi (pv_get ls a1) fun x => k (nx, ls, .int x :: st, S)
  | .lload _ => pv_gl (pv_get ls a1) fun x => k (nx, ls, .long x :: st, S)
  | .lload_n _ => pv_gl (pv_get ls a1) fun x => k (nx, ls, .long x :: st, S)
  | .aload _ => pv_gr (pv_get ls a1) fun x => k (nx, ls, .ref x :: st, S)
  | .aload_n _ => pv_gr (pv_get ls a1) fun x => k (nx, ls, .ref x :: st, S)
  | .istore _ => pv_1i st fun x r => k (nx, pv_put a1 (.int x) ls, r, S)
  | .istore_n _ => pv_1i st fun x r => k (nx, pv_put a1 (.int x) ls, r, S)
  | .lstore _ => pv_1l st fun x r => k (nx, pv_put2 a1 (.long x) ls, r, S)
  | .lstore_n _ => pv_1l st fun x r => k (nx, pv_put2 a1 (.long x) ls, r, S)
  | .iinc _ _ => pv_gi (pv_get ls a1) fun x => pv_gi (some v) fun n => k (nx, pv_put a1 (.int (x + n)) ls, st, S)
  | .iadd => pv_2i st fun x y r => k (nx, ls, .int (x + y) :: r, S)
  | .isub => pv_2i st fun x y r => k (nx, ls, .int (x - y) :: r, S)
  | .imul => pv_2i st fun x y r => k (nx, ls, .int (x * y) :: r, S)
  | .iand => pv_2i st fun x y r => k (nx, ls, .int (x &&& y) :: r, S)
  | .ior => pv_2i st fun x y r => k (nx, ls, .int (x ||| y) :: r, S)
  | .ixor => pv_2i st fun x y r => k (nx, ls, .int (x ^^^ y) :: r, S)
  | .ishl => pv_2i st fun x y r => k (nx, ls, .int (x <<< (y &&& 31)) :: r, S)
  | .ishr => pv_2i st fun x y r => k (nx, ls, .int (x >>> (y &&& 31)) :: r, S)
  | .idiv => pv_2i st fun x y r => ¬ y = 0 ∧ k (nx, ls, .int (x / y) :: r, S)
  | .irem => pv_2i st fun x y r => ¬ y = 0 ∧ k (nx, ls, .int (x - x / y * y) :: r, S)
  | .ladd => pv_2l st fun x y r => k (nx, ls, .long (x + y) :: r, S)
  | .land => pv_2l st fun x y r => k (nx, ls, .long (x &&& y) :: r, S)
  | .lor => pv_2l st fun x y r => k (nx, ls, .long (x ||| y) :: r, S)
  | .lxor => pv_2l st fun x y r => k (nx, ls, .long (x ^^^ y) :: r, S)
  | .lshl => pv_li st fun x y r => k (nx, ls, .long (x <<< (y.toInt64 &&& 63)) :: r, S)
  | .lshr => pv_li st fun x y r => k (nx, ls, .long (x >>> (y.toInt64 &&& 63)) :: r, S)
  | .lushr => pv_li st fun x y r => k (nx, ls, .long ((x.toUInt64 >>> (y.toInt64.toUInt64 &&& Int64.toUInt64 63)).toInt64) :: r, S)
  | .lcmp => pv_2l st fun x y r => k (nx, ls, .int (lg_cmp x y) :: r, S)
  | .i2l => pv_1i st fun x r => k (nx, ls, .long x.toInt64 :: r, S)
  | .l2i => pv_1l st fun x r => k (nx, ls, .int x.toInt32 :: r, S)
  | .i2b => pv_1i st fun x r => k (nx, ls, .int x.toInt8.toInt32 :: r, S)
  | .dup => match st with
    | w :: r => bif Nat.beq w.category 1 then k (nx, ls, w :: w :: r, S) else False
    | _ => False
  | .dup2 => match st with
    | w :: u :: r => bif (Nat.beq w.category 1 && Nat.beq u.category 1) then k (nx, ls, w :: u :: w :: u :: r, S) else False
    | _ => False
  | .pop => match st with
    | w :: r => bif Nat.beq w.category 1 then k (nx, ls, r, S) else False
    | _ => False
  | .pop2 => match st with
    | w :: r => bif Nat.beq w.category 2 then k (nx, ls, r, S) else False
    | _ => False
  | .goto _ => k (a1, ls, st, S)
  | .ifCond c _ => pv_1i st fun x r => match c with
    | .eq => pv_if (x = 0) (k (a1, ls, r, S)) (k (nx, ls, r, S))
    | .ne => pv_if (x = 0) (k (nx, ls, r, S)) (k (a1, ls, r, S))
    | .lt => pv_if (x < 0) (k (a1, ls, r, S)) (k (nx, ls, r, S))
    | .ge => pv_if (0 ≤ x) (k (a1, ls, r, S)) (k (nx, ls, r, S))
    | .gt => pv_if (0 < x) (k (a1, ls, r, S)) (k (nx, ls, r, S))
    | .le => pv_if (x ≤ 0) (k (a1, ls, r, S)) (k (nx, ls, r, S))
  | .if_icmp c _ => pv_2i st fun x y r => match c with
    | .eq => pv_if (x = y) (k (a1, ls, r, S)) (k (nx, ls, r, S))
    | .ne => pv_if (x = y) (k (nx, ls, r, S)) (k (a1, ls, r, S))
    | .lt => pv_if (x < y) (k (a1, ls, r, S)) (k (nx, ls, r, S))
    | .ge => pv_if (y ≤ x) (k (a1, ls, r, S)) (k (nx, ls, r, S))
    | .gt => pv_if (y < x) (k (a1, ls, r, S)) (k (nx, ls, r, S))
    | .le => pv_if (x ≤ y) (k (a1, ls, r, S)) (k (nx, ls, r, S))
  | .lookupswitch d ps => pv_1i st fun x r => pv_sw (fun t => k (t, ls, r, S)) pc x ps.toList d
  | .tableswitch d lo _ offs => pv_1i st fun x r => pv_sw (fun t => k (t, ls, r, S)) pc x (pv_tb lo 0 offs.toList) d
  | .getfield _ => pv_1r st fun a r => pv_ob S a a1 fun fs => pv_so (pv_at fs a2) fun w => k (nx, ls, w :: r, S)
  | .putfield _ => match v with
    | .null => pv_ir st fun x a r => pv_ob S a a1 fun fs => pv_so (pv_at fs a2) fun _ => k (nx, ls, r, pv_set S a (.inr (a1, pv_set fs a2 (.int x))))
    | .int _ => pv_ir st fun x a r => pv_ob S a a1 fun fs => pv_so (pv_at fs a2) fun _ => (x = 0 ∨ x = 1) ∧ k (nx, ls, r, pv_set S a (.inr (a1, pv_set fs a2 (.int x))))
    | .long _ => pv_1l st fun x r => pv_1r r fun a r => pv_ob S a a1 fun fs => pv_so (pv_at fs a2) fun _ => k (nx, ls, r, pv_set S a (.inr (a1, pv_set fs a2 (.long x))))
    | _ => False
  | .iaload => pv_ir st fun i a r => pv_ai S a fun t n f => bif Nat.beq t 0 then vp_in i n ∧ k (nx, ls, .int (f i.toNatClampNeg) :: r, S) else False
  | .baload => pv_ir st fun i a r => pv_ai S a fun t n f => bif (Nat.beq t 1 || Nat.beq t 2) then vp_in i n ∧ k (nx, ls, .int (f i.toNatClampNeg) :: r, S) else False
  | .laload => pv_ir st fun i a r => pv_al S a fun t n f => bif Nat.beq t 3 then vp_in i n ∧ k (nx, ls, .long (f i.toNatClampNeg) :: r, S) else False
  | .iastore => pv_iir st fun x i a r => pv_ai S a fun t n f => bif Nat.beq t 0 then vp_in i n ∧ k (nx, ls, r, pv_set S a (.inl (0, n, .inl (upd f i.toNatClampNeg x)))) else False
  | .bastore => pv_iir st fun x i a r => pv_ai S a fun t n f => bif Nat.beq t 1 then vp_in i n ∧ k (nx, ls, r, pv_set S a (.inl (1, n, .inl (upd f i.toNatClampNeg x.toInt8.toInt32)))) else (bif Nat.beq t 2 then (vp_in i n ∧ (x = 0 ∨ x = 1)) ∧ k (nx, ls, r, pv_set S a (.inl (2, n, .inl (upd f i.toNatClampNeg x)))) else False)
  | .lastore => pv_lir st fun x i a r => pv_al S a fun t n f => bif Nat.beq t 3 then vp_in i n ∧ k (nx, ls, r, pv_set S a (.inl (3, n, .inr (.inl (vp_updL f i.toNatClampNeg x))))) else False
  | .arraylength => pv_1r st fun a r => pv_an S a fun t n => bif Nat.blt t 4 then k (nx, ls, .int (Int32.ofNat n) :: r, S) else False
  | .invokevirtual _ => match pv_pop a2 [] st with
    | some (As, .ref b :: r) => bif Nat.ble (pv_wd r) 8 then pv_gr (some v) fun ci => pv_ob S b ci fun _ => call a1 (.ref b :: As) S (fun o S' => k (nx, ls, pv_ol o r, S')) else False
    | _ => False
  | .invokestatic _ => match pv_pop a2 [] st with
    | some (As, r) => bif Nat.ble (pv_wd r) 8 then call a1 As S (fun o S' => k (nx, ls, pv_ol o r, S')) else False
    | _ => False
  | .ireturn => pv_ri st fun x => bif Nat.beq rt 0 then Q (some (.int x)) S else (bif Nat.beq rt 1 then (x = 0 ∨ x = 1) ∧ Q (some (.int x)) S else False)
  | .lreturn => pv_rl st fun x => bif Nat.beq rt 2 then Q (some (.long x)) S else False
  | .return_ => match st with
    | [] => bif Nat.beq rt 3 then Q none S else False
    | _ => False
  | _ => False
def pv_st (T : Nat → Option pv_I) (rt : Nat) (call : pv_C) (Q : pv_R) (k : pv_c → Prop) (c : pv_c) : Prop := match c with
  | (pc, ls, st, S) => match T pc with
    | some (ins, _, nx, a1, a2, v) => pv_ex rt call Q k nx a1 a2 v pc ls st S ins
    | none => False
end
section
/-! THE PURE MACHINE IS SOUND: what it says of a method, the machine does -/
theorem pv_gi_inv {v : Option Value} {f : Int32 → Prop} (h : pv_gi v f) : ∃ x, v = some (.int x) ∧ f x := by
  unfold pv_gi at h
  split at h
  · exact ⟨_, rfl, h⟩
  · exact h.elim
theorem pv_gl_inv {v : Option Value} {f : Int64 → Prop} (h : pv_gl v f) : ∃ x, v = some (.long x) ∧ f x := by
  unfold pv_gl at h
  split at h
  · exact ⟨_, rfl, h⟩
  · exact h.elim
theorem pv_gr_inv {v : Option Value} {f : Nat → Prop} (h : pv_gr v f) : ∃ x, v = some (.ref x) ∧ f x := by
  unfold pv_gr at h
  split at h
  · exact ⟨_, rfl, h⟩
  · exact h.elim
theorem pv_1i_inv {st : List Value} {f : Int32 → List Value → Prop} (h : pv_1i st f) : ∃ x r, st = .int x :: r ∧ f x r := by
  unfold pv_1i at h
  split at h
  · exact ⟨_, _, rfl, h⟩
  · exact h.elim
theorem pv_2i_inv {st : List Value} {f : Int32 → Int32 → List Value → Prop} (h : pv_2i st f) : ∃ x y r, st = .int y :: .int x :: r ∧ f x y r := by
  unfold pv_2i at h
  split at h
  · exact ⟨_, _, _, rfl, h⟩
  · exact h.elim
theorem pv_1l_inv {st : List Value} {f : Int64 → List Value → Prop} (h : pv_1l st f) : ∃ x r, st = .long x :: r ∧ f x r := by
  unfold pv_1l at h
  split at h
  · exact ⟨_, _, rfl, h⟩
  · exact h.elim
theorem pv_2l_inv {st : List Value} {f : Int64 → Int64 → List Value → Prop} (h : pv_2l st f) : ∃ x y r, st = .long y :: .long x :: r ∧ f x y r := by
  unfold pv_2l at h
  split at h
  · exact ⟨_, _, _, rfl, h⟩
  · exact h.elim
theorem pv_li_inv {st : List Value} {f : Int64 → Int32 → List Value → Prop} (h : pv_li st f) : ∃ x y r, st = .int y :: .long x :: r ∧ f x y r := by
  unfold pv_li at h
  split at h
  · exact ⟨_, _, _, rfl, h⟩
  · exact h.elim
theorem pv_1r_inv {st : List Value} {f : Nat → List Value → Prop} (h : pv_1r st f) : ∃ x r, st = .ref x :: r ∧ f x r := by
  unfold pv_1r at h
  split at h
  · exact ⟨_, _, rfl, h⟩
  · exact h.elim
theorem pv_ir_inv {st : List Value} {f : Int32 → Nat → List Value → Prop} (h : pv_ir st f) : ∃ i a r, st = .int i :: .ref a :: r ∧ f i a r := by
  unfold pv_ir at h
  split at h
  · exact ⟨_, _, _, rfl, h⟩
  · exact h.elim
theorem pv_iir_inv {st : List Value} {f : Int32 → Int32 → Nat → List Value → Prop} (h : pv_iir st f) : ∃ x i a r, st = .int x :: .int i :: .ref a :: r ∧ f x i a r := by
  unfold pv_iir at h
  split at h
  · exact ⟨_, _, _, _, rfl, h⟩
  · exact h.elim
theorem pv_lir_inv {st : List Value} {f : Int64 → Int32 → Nat → List Value → Prop} (h : pv_lir st f) : ∃ x i a r, st = .long x :: .int i :: .ref a :: r ∧ f x i a r := by
  unfold pv_lir at h
  split at h
  · exact ⟨_, _, _, _, rfl, h⟩
  · exact h.elim
theorem pv_ob_inv {S : pv_S} {a ci : Nat} {f : List Value → Prop} (h : pv_ob S a ci f) : ∃ fs, S[a]? = some (.inr (ci, fs)) ∧ f fs := by
  unfold pv_ob at h
  split at h
  · rename_i c fs hq
    rw [pv_at_eq] at hq
    cases hb : Nat.beq c ci with
    | true =>
      rw [hb] at h
      have hc := Nat.eq_of_beq_eq_true hb
      subst hc
      exact ⟨fs, hq, h⟩
    | false => rw [hb] at h; exact h.elim
  · exact h.elim
theorem pv_ai_inv {S : pv_S} {a : Nat} {f : Nat → Nat → (Nat → Int32) → Prop} (h : pv_ai S a f) : ∃ t n g, S[a]? = some (.inl (t, n, .inl g)) ∧ f t n g := by
  unfold pv_ai at h
  split at h
  · rename_i t n g hq
    rw [pv_at_eq] at hq
    exact ⟨t, n, g, hq, h⟩
  · exact h.elim
theorem pv_al_inv {S : pv_S} {a : Nat} {f : Nat → Nat → (Nat → Int64) → Prop} (h : pv_al S a f) : ∃ t n g, S[a]? = some (.inl (t, n, .inr (.inl g))) ∧ f t n g := by
  unfold pv_al at h
  split at h
  · rename_i t n g hq
    rw [pv_at_eq] at hq
    exact ⟨t, n, g, hq, h⟩
  · exact h.elim
theorem pv_an_inv {S : pv_S} {a : Nat} {f : Nat → Nat → Prop} (h : pv_an S a f) : ∃ q, S[a]? = some (.inl q) ∧ f q.1 q.2.1 := by
  unfold pv_an at h
  split at h
  · rename_i q hq
    rw [pv_at_eq] at hq
    exact ⟨q, hq, h⟩
  · exact h.elim
theorem pv_ri_inv {st : List Value} {f : Int32 → Prop} (h : pv_ri st f) : ∃ x, st = [.int x] ∧ f x := by
  unfold pv_ri at h
  split at h
  · exact ⟨_, rfl, h⟩
  · exact h.elim
theorem pv_rl_inv {st : List Value} {f : Int64 → Prop} (h : pv_rl st f) : ∃ x, st = [.long x] ∧ f x := by
  unfold pv_rl at h
  split at h
  · exact ⟨_, rfl, h⟩
  · exact h.elim
theorem pv_so_inv {v : Option Value} {f : Value → Prop} (h : pv_so v f) : ∃ x, v = some x ∧ f x := by
  unfold pv_so at h
  split at h
  · exact ⟨_, rfl, h⟩
  · exact h.elim
theorem pv_bif {b : Bool} {P : Prop} (h : (bif b then P else False)) : b = true ∧ P := by
  cases b with
  | true => exact ⟨rfl, h⟩
  | false => exact h.elim
def pv_v (ad : Nat → Nat) (v : Value) : Value := match v with
  | .ref k => .ref (ad k)
  | v => v
theorem pv_cat (ad : Nat → Nat) (v : Value) : (pv_v ad v).category = v.category := by cases v <;> rfl
def pv_e (cA ad : Nat → Nat) (x : va_E) : va_E := match x with
  | .inl a => .inl (cA a.1, a.2)
  | .inr q => .inr (q.1, q.2.map (pv_v ad))
def pv_w (cA ad : Nat → Nat) : Nat → pv_S → va_W
  | _, [] => []
  | k, x :: S => (ad k, pv_e cA ad x) :: pv_w cA ad (k + 1) S
theorem pv_w_at (cA ad : Nat → Nat) (S : pv_S) : ∀ i k : Nat, (pv_w cA ad i S)[k]? = (S[k]?).map (fun x => (ad (i + k), pv_e cA ad x)) := by
  induction S with
  | nil => intro i k; simp [pv_w]
  | cons x S ih =>
    intro i k
    cases k with
    | zero => simp [pv_w]
    | succ k =>
      simp only [pv_w, List.getElem?_cons_succ, ih (i + 1) k]
      rw [show i + 1 + k = i + (k + 1) by omega]
theorem pv_w_0 (cA ad : Nat → Nat) {S : pv_S} {k : Nat} {x : va_E} (h : S[k]? = some x) : (pv_w cA ad 0 S)[k]? = some (ad k, pv_e cA ad x) := by
  rw [pv_w_at, h, Nat.zero_add]; rfl
theorem pv_w_set (cA ad : Nat → Nat) (S : pv_S) : ∀ (i k : Nat) (x : va_E), (pv_w cA ad i S).set k (ad (i + k), pv_e cA ad x) = pv_w cA ad i (S.set k x) := by
  induction S with
  | nil => intro i k x; simp [pv_w]
  | cons y S ih =>
    intro i k x
    cases k with
    | zero => simp [pv_w]
    | succ k =>
      simp only [pv_w, List.set_cons_succ]
      rw [show i + (k + 1) = i + 1 + k by omega, ih (i + 1) k x]
theorem pv_w_s0 (cA ad : Nat → Nat) (S : pv_S) (k : Nat) (x : va_E) : (pv_w cA ad 0 S).set k (ad k, pv_e cA ad x) = pv_w cA ad 0 (pv_set S k x) := by
  have h := pv_w_set cA ad S 0 k x
  rw [Nat.zero_add] at h
  rw [h, pv_set_eq]
theorem pv_w_len (cA ad : Nat → Nat) (S : pv_S) : ∀ i, (pv_w cA ad i S).length = S.length := by
  induction S with
  | nil => intro i; rfl
  | cons y S ih => intro i; simp [pv_w, ih]
theorem pv_set_len {α : Type} (l : List α) (n : Nat) (y : α) : (pv_set l n y).length = l.length := by rw [pv_set_eq]; simp
def pv_lc (ad : Nat → Nat) (l : pv_L) : pv_L := l.map (fun q => (q.1, pv_v ad q.2))
theorem pv_lc_get {ad : Nat → Nat} {ls : Array Slot} {nL : Nat} {l : pv_L} {i : Nat} {v : Value} (hl : lv_has ls nL (pv_lc ad l)) (h : pv_get l i = some v) : ls[i]? = some (.val (pv_v ad v)) :=
  hl.2.2 (i, pv_v ad v) (List.mem_map.mpr ⟨(i, v), pv_get_mem h, rfl⟩)
theorem pv_has_sub {ls : Array Slot} {nL : Nat} {l l' : pv_L} (h : lv_has ls nL l) (hs : ∀ q ∈ l', q ∈ l) : lv_has ls nL l' := ⟨h.1, h.2.1, fun q hq => h.2.2 q (hs q hq)⟩
theorem pv_lc_put (ad : Nat → Nat) (i : Nat) (v : Value) (l : pv_L) {ls : Array Slot} {nL : Nat} (h : lv_has ls nL ((i, pv_v ad v) :: (pv_lc ad l).filter (fun q => !(q.1 == i) && !(q.1 + 1 == i && q.2.category == 2)))) : lv_has ls nL (pv_lc ad (pv_put i v l)) := by
  refine pv_has_sub h (fun q hq => ?_)
  obtain ⟨x, hx, rfl⟩ := List.mem_map.mp hq
  rcases List.mem_cons.mp (pv_ins_mem hx) with e | hx
  · rw [e]; exact List.mem_cons_self
  · refine List.mem_cons_of_mem _ ?_
    obtain ⟨h1, h2⟩ := List.mem_filter.mp hx
    exact List.mem_filter.mpr ⟨List.mem_map.mpr ⟨x, h1, rfl⟩, by simpa [pv_cat] using h2⟩
theorem pv_lc_put2 (ad : Nat → Nat) (i : Nat) (v : Value) (l : pv_L) {ls : Array Slot} {nL : Nat} (h : lv_has ls nL ((i, pv_v ad v) :: (pv_lc ad l).filter (fun q => !(q.1 == i) && (!(q.1 == i + 1) && !(q.1 + 1 == i && q.2.category == 2))))) : lv_has ls nL (pv_lc ad (pv_put2 i v l)) := by
  refine pv_has_sub h (fun q hq => ?_)
  obtain ⟨x, hx, rfl⟩ := List.mem_map.mp hq
  rcases List.mem_cons.mp (pv_ins_mem hx) with e | hx
  · rw [e]; exact List.mem_cons_self
  · refine List.mem_cons_of_mem _ ?_
    obtain ⟨h1, h2⟩ := List.mem_filter.mp hx
    exact List.mem_filter.mpr ⟨List.mem_map.mpr ⟨x, h1, rfl⟩, by simpa [pv_cat] using h2⟩
theorem pv_lc_args (ad : Nat → Nat) (As : List Value) : ∀ i, lv_args i (As.map (pv_v ad)) = pv_lc ad (lv_args i As) := by
  induction As with
  | nil => intro i; rfl
  | cons v As ih => intro i; simp [lv_args, pv_lc, pv_cat, ih] <;> simp [pv_lc]
theorem pv_wd_map (ad : Nat → Nat) (r : List Value) : ((r.map (pv_v ad)).map fun v => v.category).sum = pv_wd r := by
  simp [pv_wd, Function.comp_def, pv_cat]
theorem pv_sl_len (vs : List Value) : (lg_sl vs).length = pv_wd vs := by
  induction vs with
  | nil => rfl
  | cons v vs ih =>
    have e1 : (lg_sl (v :: vs)).length = (if v.category = 2 then [Slot.val v, Slot.second] else [Slot.val v]).length + (lg_sl vs).length := by simp [lg_sl]
    have e2 : pv_wd (v :: vs) = v.category + pv_wd vs := by simp [pv_wd]
    rw [e1, e2, ih]
    rcases lv_cat v with h | h <;> simp [h]
def pv_tys (cA : Nat → Nat) : List (ClassId × FieldType) := [(cA 0, .int), (cA 1, .byte), (cA 2, .boolean), (cA 3, .long)]
end
section
abbrev pv_M : Type := MethodName × ByteArray × Nat × Option FieldType × Bool × Nat × Nat × (Nat → Option pv_I)
def pv_isN (w : Cond) : Bool := match w with
  | .fieldLinkNest .. => true
  | .methodLinkNest .. => true
  | _ => false
/-- a field by its number: class a1, place a2, linked from the class own at i -/
def pv_of (cl : List vw_C) (Ts NW : List Cond) (own : String) (i a1 a2 : Nat) : Prop :=
  ∃ C T N, cl[a1]? = some (C, T, N) ∧ a2 < N ∧ (Cond.fieldLink own i C (T a2).2.1 (T a2).2.2.1 ∈ Ts ∨ ∃ host, Cond.fieldLinkNest own i C (T a2).2.1 (T a2).2.2.1 host ∈ NW)
def pv_kd (ty : FieldType) (v : Value) : Bool := match ty, v with
  | .int, .null => true
  | .boolean, .int _ => true
  | .long, .long _ => true
  | _, _ => false
def pv_ml (Ts NW : List Cond) (own : String) (i : Nat) (y : MethodName) : Prop := Cond.methodLink own i y ∈ Ts ∨ ∃ host, Cond.methodLinkNest own i y host ∈ NW
/-- what the tables must say of an instruction -/
def pv_oi (cl : List vw_C) (tyf : Nat → Nat → FieldType) (Ts NW : List Cond) (mt : Nat → Option pv_M) (own : String) (nL pc len a1 a2 : Nat) (v : Value) (ins : Instr) : Prop := match ins with
  | .iconst n => v = .int (Int32.ofInt n) ∧ len = 1
  | .bipush n => v = .int (Int8.ofInt n).toInt32 ∧ len = 2
  | .sipush n => v = .int (Int16.ofInt n).toInt32 ∧ len = 3
  | .lconst n => v = .long (Int64.ofNat n.val) ∧ len = 1
  | .ldc i => (∃ x, v = .int x ∧ Cond.constant own i x ∈ Ts) ∧ len = 2
  | .ldc2_w i => (∃ x, v = .long x ∧ Cond.constantLong own i x ∈ Ts) ∧ len = 3
  | .iload i => i = a1 ∧ len = 2
  | .iload_n i => i.val = a1 ∧ len = 1
  | .lload i => i = a1 ∧ len = 2
  | .lload_n i => i.val = a1 ∧ len = 1
  | .aload i => i = a1 ∧ len = 2
  | .aload_n i => i.val = a1 ∧ len = 1
  | .istore i => (i = a1 ∧ len = 2) ∧ a1 < nL
  | .istore_n i => (i.val = a1 ∧ len = 1) ∧ a1 < nL
  | .lstore i => (i = a1 ∧ len = 2) ∧ a1 + 1 < nL
  | .lstore_n i => (i.val = a1 ∧ len = 1) ∧ a1 + 1 < nL
  | .iinc i n => ((i = a1 ∧ len = 3) ∧ a1 < nL) ∧ v = .int (Int32.ofInt n)
  | .goto off => (pc : Int) + off = (a1 : Int) ∧ len = 3
  | .ifCond _ off => (pc : Int) + off = (a1 : Int) ∧ len = 3
  | .if_icmp _ off => (pc : Int) + off = (a1 : Int) ∧ len = 3
  | .lookupswitch d ps => ((ps.toList.zip (ps.toList.drop 1)).all (fun (a, next) => a.1 < next.1) = true ∧ 0 ≤ (pc : Int) + d) ∧ ∀ q ∈ ps.toList, (Int32.ofInt q.1).toInt = q.1 ∧ 0 ≤ (pc : Int) + q.2
  | .tableswitch d lo hi offs => (hi + 1 = lo + (offs.size : Int) ∧ 0 ≤ (pc : Int) + d) ∧ ∀ q ∈ pv_tb lo 0 offs.toList, (Int32.ofInt q.1).toInt = q.1 ∧ 0 ≤ (pc : Int) + q.2
  | .getfield i => len = 3 ∧ pv_of cl Ts NW own i a1 a2
  | .putfield i => (len = 3 ∧ pv_of cl Ts NW own i a1 a2) ∧ ((∀ C T N, cl[a1]? = some (C, T, N) → (T a2).2.2.2 = false) ∧ pv_kd (tyf a1 a2) v = true)
  | .invokevirtual i => len = 3 ∧ ∃ x, mt a1 = some x ∧ (x.2.2.2.2.1 = false ∧ a2 = x.2.2.2.2.2.1) ∧ (∃ ci T N, v = .ref ci ∧ cl[ci]? = some (x.1.cls, T, N)) ∧ pv_ml Ts NW own i x.1
  | .invokestatic i => len = 3 ∧ ((a1 = 999 ∧ a2 = 5 ∧ Cond.methodLink own i arraycopyName ∈ Ts ∧ Cond.native arraycopyName ∈ Ts ∧ Cond.static arraycopyName ∈ Ts ∧ Cond.initialized "java/lang/System" ∈ Ts) ∨ (a1 = 998 ∧ a2 = 2 ∧ Cond.methodLink own i Lib.Math.min.name ∈ Ts ∧ Cond.static Lib.Math.min.name ∈ Ts ∧ Cond.initialized "java/lang/Math" ∈ Ts ∧ Cond.code Lib.Math.min.name Lib.Math.min.code 2 (some .int) ∈ Ts) ∨ ((¬ a1 = 999 ∧ ¬ a1 = 998) ∧ ∃ x, mt a1 = some x ∧ (x.2.2.2.2.1 = true ∧ a2 = x.2.2.2.2.2.1) ∧ pv_ml Ts NW own i x.1))
  | _ => len = 1
def pv_rt (rt : Nat) (ret : Option FieldType) : Bool := match rt, ret with
  | 0, some .int => true
  | 1, some .boolean => true
  | 2, some .long => true
  | 3, none => true
  | _, _ => false
section PVS
variable {p : Program} {l : Launch} {e : Env} {R : Room} {s : State} {m : MethodId} {args : Array Value} {below : List Frame} {meth : Method} {c : Code}
variable {cl : List vw_C} {tyf : Nat → Nat → FieldType} {Ts NW : List Cond} {mt : Nat → Option pv_M} {D : va_G} {cA ad : Nat → Nat} {A : Nat → Prop} {H0 : Heap} {n nL : Nat} {own : String} {cc : ByteArray}
/-- the world of a store -/
def pv_Wo (D : va_G) (cl : List vw_C) (cA ad : Nat → Nat) (A : Nat → Prop) (H0 : Heap) (n : Nat) (S : pv_S) (H : Heap) (locs : List Loc) : Prop := S.length = n ∧ va_P D cl (pv_w cA ad 0 S) H ∧ va_S A H0 H locs
theorem pv_swS {k : Nat → Prop} {pc : Nat} {x : Int32} {d : Int} (hd : 0 ≤ (pc : Int) + d) : ∀ (ps : List (Int × Int)), (∀ q ∈ ps, (Int32.ofInt q.1).toInt = q.1 ∧ 0 ≤ (pc : Int) + q.2) → pv_sw k pc x ps d → ∃ tgt : Nat, (pc : Int) + lookupswitch.offset ps d x.toInt = (tgt : Int) ∧ k tgt := by
  intro ps
  induction ps with
  | nil =>
    intro _ h
    exact ⟨((pc : Int) + d).toNat, by show (pc : Int) + d = _; omega, h⟩
  | cons q ps ih =>
    intro hq h
    obtain ⟨a, o⟩ := q
    obtain ⟨h1, h2⟩ := hq (a, o) List.mem_cons_self
    have ih := ih (fun q hq' => hq q (List.mem_cons_of_mem _ hq'))
    rw [lookupswitch.offset_cons]
    by_cases hx : x = Int32.ofInt a
    · have e : a = x.toInt := by rw [hx]; exact h1.symm
      rw [if_pos e]
      exact ⟨((pc : Int) + o).toNat, by dsimp only at h2; omega, h.1 hx⟩
    · have e : ¬ a = x.toInt := fun e => hx (by rw [e]; simp)
      rw [if_neg e]
      exact ih (h.2 hx)
theorem pv_tb_off {lo d k : Int} : ∀ (os : List Int) (i : Nat), lookupswitch.offset (pv_tb lo i os) d k = if k < lo + (i : Int) ∨ lo + (i : Int) + (os.length : Int) ≤ k then d else os.getD (k - lo - (i : Int)).toNat d := by
  intro os
  induction os with
  | nil =>
    intro i
    have : (k < lo + (i : Int) ∨ lo + (i : Int) + (([] : List Int).length : Int) ≤ k) := by simp; omega
    rw [if_pos this]; rfl
  | cons o os ih =>
    intro i
    show lookupswitch.offset ((lo + (i : Int), o) :: pv_tb lo (i + 1) os) d k = _
    rw [lookupswitch.offset_cons, ih (i + 1)]
    simp only [List.length_cons]
    by_cases h1 : lo + (i : Int) = k
    · rw [if_pos h1, if_neg (by omega), show (k - lo - (i : Int)).toNat = 0 by omega]; rfl
    · rw [if_neg h1]
      by_cases h2 : k < lo + (i : Int) ∨ lo + (i : Int) + ((os.length + 1 : Nat) : Int) ≤ k
      · rw [if_pos h2, if_pos (by omega)]
      · rw [if_neg h2, if_neg (by omega), show (k - lo - (i : Int)).toNat = (k - lo - ((i + 1 : Nat) : Int)).toNat + 1 by omega]; rfl
end PVS
end
section
section PVX
variable {p : Program} {l : Launch} {e : Env} {R : Room} {s : State} {m : MethodId} {args : Array Value} {below : List Frame} {meth : Method} {c : Code}
variable {cl : List vw_C} {tyf : Nat → Nat → FieldType} {Ts NW : List Cond} {mt : Nat → Option pv_M} {D : va_G} {cA ad : Nat → Nat} {A : Nat → Prop} {H0 : Heap} {n nL : Nat} {own : String} {cc : ByteArray}
/-- the tables, class by class -/
def pv_okC (cl : List vw_C) (tyf : Nat → Nat → FieldType) (Ts : List Cond) : Prop := ∀ (ci : Nat) (C : String) (T : u_T) (N : Nat), cl[ci]? = some (C, T, N) → (∀ w ∈ u_ws C T N, w ∈ Ts) ∧ (∀ k, k < N → parseFieldDescriptor (T k).2.2.1 = some (tyf ci k)) ∧ (∀ x, x < N → ∀ y, y < N → x ≠ y → (T x).2.1 ≠ (T y).2.1) ∧ (∀ k, k < N → (T k).1 = C)
theorem pv_obj {S : pv_S} {H : Heap} {locs : List Loc} (hw : pv_Wo D cl cA ad A H0 n S H locs) {b ci : Nat} {fs : List Value} (h : S[b]? = some (.inr (ci, fs))) : (pv_w cA ad 0 S)[b]? = some (ad b, .inr (ci, fs.map (pv_v ad))) := pv_w_0 cA ad h
theorem pv_sound_get {Q : State → Prop} (hx : p.tables.exec = Jvm.exec) (hb : c.code = cc) (hown : s.vm.findClass own = some m.cls) (hts : ∀ w ∈ Ts, w.before args s = true) (hnw : ∀ w ∈ NW, va_Nw w s) (hK : va_K D cl (pv_tys cA) s) (hC : pv_okC cl tyf Ts) {S : pv_S} {H : Heap} {locs : List Loc} (hw : pv_Wo D cl cA ad A H0 n S H locs) {i a1 a2 pc b : Nat} (hf : pv_of cl Ts NW own i a1 a2) {fs : List Value} (he : S[b]? = some (.inr (a1, fs))) {w : Value} (hv : fs[a2]? = some w) (hd : decode cc pc = .ok (.getfield i, 3)) {lsA : Array Slot} {r : List Value}
    (kk : W p l e R s m args below meth c H locs 0 0 Q (F0 m (pc + 3) lsA (pv_v ad w :: r))) : W p l e R s m args below meth c H locs 0 0 Q (F0 m pc lsA (.ref (ad b) :: r)) := by
  obtain ⟨C, T, N, hc, hk, hl⟩ := hf
  obtain ⟨c1, c2, c3, c4⟩ := hC _ _ _ _ hc
  have hv' : (fs.map (pv_v ad))[a2]? = some (pv_v ad w) := by rw [List.getElem?_map, hv]; rfl
  rcases hl with hl | ⟨host, hl⟩
  · exact va_get (D := D) (ci := a1) (v := pv_v ad w) (C := C) (T := T) (N := N) hx hb hts c1 hown hK hw.2.1 b (pv_obj hw he) hc a2 hk (hts _ hl) (fun x h9 => by rw [c4 a2 hk] at h9; exact h9) hv' hd kk
  · exact va_getN (D := D) (ci := a1) (v := pv_v ad w) (C := C) (T := T) (N := N) hx hb hts c1 hown hK hw.2.1 b (pv_obj hw he) hc a2 hk (va_Nw.use rfl (hnw _ hl)) (fun x h9 => by rw [c4 a2 hk] at h9; exact h9) hv' hd kk
theorem pv_sound_put {Q : State → Prop} (hx : p.tables.exec = Jvm.exec) (hb : c.code = cc) (hown : s.vm.findClass own = some m.cls) (hts : ∀ w ∈ Ts, w.before args s = true) (hnw : ∀ w ∈ NW, va_Nw w s) (hK : va_K D cl (pv_tys cA) s) (hC : pv_okC cl tyf Ts) (hD : ∀ S : pv_S, S.length = n → va_D A (pv_w cA ad 0 S)) {S : pv_S} {H : Heap} {locs : List Loc} (hw : pv_Wo D cl cA ad A H0 n S H locs) {i a1 a2 pc b : Nat} (hf : pv_of cl Ts NW own i a1 a2) (hfin : ∀ C T N, cl[a1]? = some (C, T, N) → (T a2).2.2.2 = false) {fs : List Value} (he : S[b]? = some (.inr (a1, fs))) (hlen : a2 < fs.length) {w : Value} (hvw : pv_v ad w = w) (hn : narrow (tyf a1 a2) w = w) (hfit : fits (tyf a1 a2) w = true) (hd : decode cc pc = .ok (.putfield i, 3)) {lsA : Array Slot} {r : List Value}
    (kk : ∀ (H1 : Heap) (locs1 : List Loc), pv_Wo D cl cA ad A H0 n (pv_set S b (.inr (a1, pv_set fs a2 w))) H1 locs1 → W p l e R s m args below meth c H1 locs1 0 0 Q (F0 m (pc + 3) lsA r)) : W p l e R s m args below meth c H locs 0 0 Q (F0 m pc lsA (w :: .ref (ad b) :: r)) := by
  obtain ⟨C, T, N, hc, hk, hl⟩ := hf
  obtain ⟨c1, c2, c3, c4⟩ := hC _ _ _ _ hc
  have hl2 : a2 < (fs.map (pv_v ad)).length := by rw [List.length_map]; exact hlen
  have hset : (pv_w cA ad 0 S).set b (ad b, .inr (a1, (fs.map (pv_v ad)).set a2 w)) = pv_w cA ad 0 (pv_set S b (.inr (a1, pv_set fs a2 w))) := by
    rw [← pv_w_s0]
    show _ = (pv_w cA ad 0 S).set b (ad b, .inr (a1, (pv_set fs a2 w).map (pv_v ad)))
    rw [pv_set_eq, List.map_set, hvw]
  have kk' : ∀ (H1 : Heap) (locs1 : List Loc), va_P D cl ((pv_w cA ad 0 S).set b (ad b, .inr (a1, (fs.map (pv_v ad)).set a2 w))) H1 → va_D A ((pv_w cA ad 0 S).set b (ad b, .inr (a1, (fs.map (pv_v ad)).set a2 w))) → va_S A H0 H1 locs1 → W p l e R s m args below meth c H1 locs1 0 0 Q (F0 m (pc + 3) lsA r) := by
    intro H1 locs1 h1 _ h3
    rw [hset] at h1
    exact kk H1 locs1 ⟨by rw [pv_set_len]; exact hw.1, h1, h3⟩
  rcases hl with hl | ⟨host, hl⟩
  · exact va_put (D := D) (ci := a1) (v := w) (ty := tyf a1 a2) (C := C) (T := T) (N := N) hx hb hts c1 (tyf a1) c2 c3 hown hK hw.2.1 (hD S hw.1) hw.2.2 b (pv_obj hw he) hc a2 hk (hts _ hl) (fun x h9 => by rw [c4 a2 hk] at h9; exact h9) (hfin _ _ _ hc) (c2 a2 hk) hn hfit hl2 hd kk'
  · exact va_putN (D := D) (ci := a1) (v := w) (ty := tyf a1 a2) (C := C) (T := T) (N := N) hx hb hts c1 (tyf a1) c2 c3 hown hK hw.2.1 (hD S hw.1) hw.2.2 b (pv_obj hw he) hc a2 hk (va_Nw.use rfl (hnw _ hl)) (fun x h9 => by rw [c4 a2 hk] at h9; exact h9) (hfin _ _ _ hc) (c2 a2 hk) hn hfit hl2 hd kk'
theorem pv_kd_i {ty : FieldType} (h : pv_kd ty .null = true) : ty = .int := by cases ty <;> first | rfl | cases h
theorem pv_kd_z {ty : FieldType} {x : Int32} (h : pv_kd ty (.int x) = true) : ty = .boolean := by cases ty <;> first | rfl | cases h
theorem pv_kd_l {ty : FieldType} {x : Int64} (h : pv_kd ty (.long x) = true) : ty = .long := by cases ty <;> first | rfl | cases h
theorem pv_z01 {x : Int32} (h : x = 0 ∨ x = 1) : narrow .boolean (.int x) = .int x ∧ fits .boolean (.int x) = true ∧ vp_nar .boolean x = x := by
  rcases h with rfl | rfl <;> decide +kernel
end PVX
end
section
section PVT
variable {p : Program} {l : Launch} {e : Env} {R : Room} {s : State} {m : MethodId} {args : Array Value} {below : List Frame} {meth : Method} {c : Code}
variable {cl : List vw_C} {tyf : Nat → Nat → FieldType} {Ts NW : List Cond} {mt : Nat → Option pv_M} {D : va_G} {cA ad : Nat → Nat} {A : Nat → Prop} {H0 : Heap} {n nL : Nat} {own : String} {cc : ByteArray}
theorem pv_len_of {α : Type} {l : List α} {k : Nat} {x : α} (h : pv_at l k = some x) : k < l.length := by
  rw [pv_at_eq] at h
  exact (List.getElem?_eq_some_iff.mp h).1
theorem pv_ast {S : pv_S} {H : Heap} {locs : List Loc} (hw : pv_Wo D cl cA ad A H0 n S H locs) {b : Nat} {x : va_E} {H1 : Heap} {locs1 : List Loc} {y : va_E} (hy : y = pv_e cA ad x) (h1 : va_P D cl ((pv_w cA ad 0 S).set b (ad b, y)) H1) (h3 : va_S A H0 H1 locs1) : pv_Wo D cl cA ad A H0 n (pv_set S b x) H1 locs1 := by
  subst hy
  rw [pv_w_s0] at h1
  exact ⟨by rw [pv_set_len]; exact hw.1, h1, h3⟩

set_option maxHeartbeats 4000000 in
set_option maxRecDepth 100000 in
theorem pv_sound_ex {Qs : State → Prop} {rt : Nat} {call : pv_C} {Q : pv_R} {k : pv_c → Prop} {len a1 a2 pc : Nat} {v : Value} {ls : pv_L} {st : List Value} {S : pv_S} {ins : Instr} (hx : p.tables.exec = Jvm.exec) (hb : c.code = cc) (hml : c.maxLocals = nL) (hown : s.vm.findClass own = some m.cls) (hts : ∀ w ∈ Ts, w.before args s = true) (hnw : ∀ w ∈ NW, va_Nw w s) (hK : va_K D cl (pv_tys cA) s) (hC : pv_okC cl tyf Ts) (hD : ∀ S : pv_S, S.length = n → va_D A (pv_w cA ad 0 S))
    (hdc : decode cc pc = .ok (ins, len)) (hoi : pv_oi cl tyf Ts NW mt own nL pc len a1 a2 v ins) (h : pv_ex rt call Q k (pc + len) a1 a2 v pc ls st S ins)
    {H : Heap} {locs : List Loc} (hw : pv_Wo D cl cA ad A H0 n S H locs) {lsA : Array Slot} (hl : lv_has lsA nL (pv_lc ad ls))
    (hk : ∀ c' : pv_c, k c' → ∀ (H : Heap) (locs : List Loc), pv_Wo D cl cA ad A H0 n c'.2.2.2 H locs → ∀ lsA : Array Slot, lv_has lsA nL (pv_lc ad c'.2.1) → W p l e R s m args below meth c H locs 0 0 Qs (F0 m c'.1 lsA (c'.2.2.1.map (pv_v ad))))
    (hQi : ∀ x : Int32, Q (some (.int x)) S → (rt = 0 ∨ (rt = 1 ∧ (x = 0 ∨ x = 1))) → decode cc pc = .ok (.ireturn, 1) → W p l e R s m args below meth c H locs 0 0 Qs (F0 m pc lsA [.int x]))
    (hQl : ∀ x : Int64, Q (some (.long x)) S → rt = 2 → decode cc pc = .ok (.lreturn, 1) → W p l e R s m args below meth c H locs 0 0 Qs (F0 m pc lsA [.long x]))
    (hQv : Q none S → rt = 3 → decode cc pc = .ok (.return_, 1) → W p l e R s m args below meth c H locs 0 0 Qs (F0 m pc lsA []))
    (hcV : ∀ (i ci b : Nat) (fs As r : List Value) (P : pv_R), pv_oi cl tyf Ts NW mt own nL pc 3 a1 As.length (.ref ci) (.invokevirtual i) → S[b]? = some (.inr (ci, fs)) → pv_wd r ≤ 8 → decode cc pc = .ok (.invokevirtual i, 3) → call a1 (.ref b :: As) S P → (∀ o S', P o S' → ∀ (H1 : Heap) (locs1 : List Loc), pv_Wo D cl cA ad A H0 n S' H1 locs1 → W p l e R s m args below meth c H1 locs1 0 0 Qs (F0 m (pc + 3) lsA ((pv_ol o r).map (pv_v ad)))) → W p l e R s m args below meth c H locs 0 0 Qs (F0 m pc lsA ((As.reverse ++ .ref b :: r).map (pv_v ad))))
    (hcS : ∀ (i : Nat) (As r : List Value) (P : pv_R), pv_oi cl tyf Ts NW mt own nL pc 3 a1 As.length v (.invokestatic i) → pv_wd r ≤ 8 → decode cc pc = .ok (.invokestatic i, 3) → call a1 As S P → (∀ o S', P o S' → ∀ (H1 : Heap) (locs1 : List Loc), pv_Wo D cl cA ad A H0 n S' H1 locs1 → W p l e R s m args below meth c H1 locs1 0 0 Qs (F0 m (pc + 3) lsA ((pv_ol o r).map (pv_v ad)))) → W p l e R s m args below meth c H locs 0 0 Qs (F0 m pc lsA ((As.reverse ++ r).map (pv_v ad)))) :
    W p l e R s m args below meth c H locs 0 0 Qs (F0 m pc lsA (st.map (pv_v ad))) := by
  have hP := hw.2.1
  have hDS := hD S hw.1
  have hS := hw.2.2
  cases ins
  case iconst z =>
    obtain ⟨rfl, rfl⟩ := hoi
    exact lv_iconst hx hb hdc rfl (hk _ h H locs hw lsA hl)
  case bipush z =>
    obtain ⟨rfl, rfl⟩ := hoi
    exact lv_bipush hx hb hdc rfl (hk _ h H locs hw lsA hl)
  case sipush z =>
    obtain ⟨rfl, rfl⟩ := hoi
    exact lv_sipush hx hb hdc rfl (hk _ h H locs hw lsA hl)
  case lconst z =>
    obtain ⟨rfl, rfl⟩ := hoi
    exact lv_lconst hx hb hdc rfl (hk _ h H locs hw lsA hl)
  case ldc i =>
    obtain ⟨⟨x, rfl, hc⟩, rfl⟩ := hoi
    exact lv_ldc hx hb hown (hts _ hc) hdc (hk _ h H locs hw lsA hl)
  case ldc2_w i =>
    obtain ⟨⟨x, rfl, hc⟩, rfl⟩ := hoi
    exact lv_ldc2 hx hb hown (hts _ hc) hdc (hk _ h H locs hw lsA hl)
  case iload i =>
    obtain ⟨rfl, rfl⟩ := hoi
    obtain ⟨x, h1, h2⟩ := pv_gi_inv h
    exact lv_iload hx hb hdc (pv_lc_get hl h1) (hk _ h2 H locs hw lsA hl)
  case iload_n i =>
    obtain ⟨h0, rfl⟩ := hoi
    obtain ⟨x, h1, h2⟩ := pv_gi_inv h
    exact lv_iload_n hx hb hdc h0 (pv_lc_get hl h1) (hk _ h2 H locs hw lsA hl)
  case lload i =>
    obtain ⟨rfl, rfl⟩ := hoi
    obtain ⟨x, h1, h2⟩ := pv_gl_inv h
    exact lv_lload hx hb hdc (pv_lc_get hl h1) (hk _ h2 H locs hw lsA hl)
  case lload_n i =>
    obtain ⟨h0, rfl⟩ := hoi
    obtain ⟨x, h1, h2⟩ := pv_gl_inv h
    exact lv_lload_n hx hb hdc h0 (pv_lc_get hl h1) (hk _ h2 H locs hw lsA hl)
  case aload i =>
    obtain ⟨rfl, rfl⟩ := hoi
    obtain ⟨x, h1, h2⟩ := pv_gr_inv h
    exact lv_aload hx hb hdc (pv_lc_get hl h1) (hk _ h2 H locs hw lsA hl)
  case aload_n i =>
    obtain ⟨h0, rfl⟩ := hoi
    obtain ⟨x, h1, h2⟩ := pv_gr_inv h
    exact lv_aload_n hx hb hdc h0 (pv_lc_get hl h1) (hk _ h2 H locs hw lsA hl)
  case istore i =>
    obtain ⟨⟨rfl, rfl⟩, hn⟩ := hoi
    obtain ⟨x, r, rfl, h2⟩ := pv_1i_inv h
    exact lv_istore hx hb hdc hl hn rfl (fun ls' hl' => hk _ h2 H locs hw ls' (pv_lc_put ad _ (.int x) ls hl'))
  case istore_n i =>
    obtain ⟨⟨h0, rfl⟩, hn⟩ := hoi
    obtain ⟨x, r, rfl, h2⟩ := pv_1i_inv h
    exact lv_istore_n hx hb hdc h0 hl hn rfl (fun ls' hl' => hk _ h2 H locs hw ls' (pv_lc_put ad _ (.int x) ls hl'))
  case lstore i =>
    obtain ⟨⟨rfl, rfl⟩, hn⟩ := hoi
    obtain ⟨x, r, rfl, h2⟩ := pv_1l_inv h
    exact lv_lstore hx hb hdc hl hn rfl (fun ls' hl' => hk _ h2 H locs hw ls' (pv_lc_put2 ad _ (.long x) ls hl'))
  case lstore_n i =>
    obtain ⟨⟨h0, rfl⟩, hn⟩ := hoi
    obtain ⟨x, r, rfl, h2⟩ := pv_1l_inv h
    exact lv_lstore_n hx hb hdc h0 hl hn rfl (fun ls' hl' => hk _ h2 H locs hw ls' (pv_lc_put2 ad _ (.long x) ls hl'))
  case iinc i z =>
    obtain ⟨⟨⟨rfl, rfl⟩, hn⟩, rfl⟩ := hoi
    obtain ⟨x, h1, h2⟩ := pv_gi_inv h
    have hm : (i, Value.int x) ∈ pv_lc ad ls := List.mem_map.mpr ⟨(i, .int x), pv_get_mem h1, rfl⟩
    obtain ⟨kx, hkx⟩ := List.mem_iff_getElem?.mp hm
    exact lv_iinc hx hb hdc hl hkx rfl hn rfl (fun ls' hl' => hk _ h2 H locs hw ls' (pv_lc_put ad _ (.int _) ls hl'))
  case iadd =>
    cases hoi
    obtain ⟨x, y, r, rfl, h2⟩ := pv_2i_inv h
    exact lv_iadd hx hb hdc (hk _ h2 H locs hw lsA hl)
  case isub =>
    cases hoi
    obtain ⟨x, y, r, rfl, h2⟩ := pv_2i_inv h
    exact lv_isub hx hb hdc (hk _ h2 H locs hw lsA hl)
  case imul =>
    cases hoi
    obtain ⟨x, y, r, rfl, h2⟩ := pv_2i_inv h
    exact lv_imul hx hb hdc (hk _ h2 H locs hw lsA hl)
  case iand =>
    cases hoi
    obtain ⟨x, y, r, rfl, h2⟩ := pv_2i_inv h
    exact lv_iand hx hb hdc (hk _ h2 H locs hw lsA hl)
  case ior =>
    cases hoi
    obtain ⟨x, y, r, rfl, h2⟩ := pv_2i_inv h
    exact lv_ior hx hb hdc (hk _ h2 H locs hw lsA hl)
  case ixor =>
    cases hoi
    obtain ⟨x, y, r, rfl, h2⟩ := pv_2i_inv h
    exact lv_ixor hx hb hdc (hk _ h2 H locs hw lsA hl)
  case ishl =>
    cases hoi
    obtain ⟨x, y, r, rfl, h2⟩ := pv_2i_inv h
    exact lv_ishl hx hb hdc (hk _ h2 H locs hw lsA hl)
  case ishr =>
    cases hoi
    obtain ⟨x, y, r, rfl, h2⟩ := pv_2i_inv h
    exact lv_ishr hx hb hdc (hk _ h2 H locs hw lsA hl)
  case idiv =>
    cases hoi
    obtain ⟨x, y, r, rfl, h2, h3⟩ := pv_2i_inv h
    exact lv_idiv hx hb hdc h2 (hk _ h3 H locs hw lsA hl)
  case irem =>
    cases hoi
    obtain ⟨x, y, r, rfl, h2, h3⟩ := pv_2i_inv h
    exact lv_irem hx hb hdc h2 (hk _ h3 H locs hw lsA hl)
  case ladd =>
    cases hoi
    obtain ⟨x, y, r, rfl, h2⟩ := pv_2l_inv h
    exact lv_ladd hx hb hdc (hk _ h2 H locs hw lsA hl)
  case land =>
    cases hoi
    obtain ⟨x, y, r, rfl, h2⟩ := pv_2l_inv h
    exact lv_land hx hb hdc (hk _ h2 H locs hw lsA hl)
  case lor =>
    cases hoi
    obtain ⟨x, y, r, rfl, h2⟩ := pv_2l_inv h
    exact lv_lor hx hb hdc (hk _ h2 H locs hw lsA hl)
  case lxor =>
    cases hoi
    obtain ⟨x, y, r, rfl, h2⟩ := pv_2l_inv h
    exact lv_lxor hx hb hdc (hk _ h2 H locs hw lsA hl)
  case lshl =>
    cases hoi
    obtain ⟨x, y, r, rfl, h2⟩ := pv_li_inv h
    exact lv_lshl hx hb hdc rfl (hk _ h2 H locs hw lsA hl)
  case lshr =>
    cases hoi
    obtain ⟨x, y, r, rfl, h2⟩ := pv_li_inv h
    exact lv_lshr hx hb hdc rfl (hk _ h2 H locs hw lsA hl)
  case lushr =>
    cases hoi
    obtain ⟨x, y, r, rfl, h2⟩ := pv_li_inv h
    exact lv_lushr hx hb hdc rfl (hk _ h2 H locs hw lsA hl)
  case lcmp =>
    cases hoi
    obtain ⟨x, y, r, rfl, h2⟩ := pv_2l_inv h
    exact W.lcmp hx hb hdc (hk _ h2 H locs hw lsA hl)
  case i2l =>
    cases hoi
    obtain ⟨x, r, rfl, h2⟩ := pv_1i_inv h
    exact lv_i2l hx hb hdc rfl (hk _ h2 H locs hw lsA hl)
  case l2i =>
    cases hoi
    obtain ⟨x, r, rfl, h2⟩ := pv_1l_inv h
    exact lv_l2i hx hb hdc rfl (hk _ h2 H locs hw lsA hl)
  case i2b =>
    cases hoi
    obtain ⟨x, r, rfl, h2⟩ := pv_1i_inv h
    exact lv_i2b hx hb hdc rfl (hk _ h2 H locs hw lsA hl)
  case dup =>
    cases hoi
    rcases st with _ | ⟨w, r⟩
    · exact False.elim h
    · obtain ⟨h1, h2⟩ := pv_bif h
      exact lv_dup hx hb hdc (by rw [pv_cat]; exact Nat.eq_of_beq_eq_true h1) (hk _ h2 H locs hw lsA hl)
  case pop =>
    cases hoi
    rcases st with _ | ⟨w, r⟩
    · exact False.elim h
    · obtain ⟨h1, h2⟩ := pv_bif h
      exact lv_pop hx hb hdc (by rw [pv_cat]; exact Nat.eq_of_beq_eq_true h1) (hk _ h2 H locs hw lsA hl)
  case pop2 =>
    cases hoi
    rcases st with _ | ⟨w, r⟩
    · exact False.elim h
    · obtain ⟨h1, h2⟩ := pv_bif h
      exact lv_pop2_2 hx hb hdc (by rw [pv_cat]; exact Nat.eq_of_beq_eq_true h1) (hk _ h2 H locs hw lsA hl)
  case dup2 =>
    cases hoi
    rcases st with _ | ⟨w, _ | ⟨u, r⟩⟩
    · exact False.elim h
    · exact False.elim h
    · obtain ⟨h1, h2⟩ := pv_bif h
      rw [Bool.and_eq_true] at h1
      exact lv_dup2_11 hx hb hdc (by rw [pv_cat]; exact Nat.eq_of_beq_eq_true h1.1) (by rw [pv_cat]; exact Nat.eq_of_beq_eq_true h1.2) (hk _ h2 H locs hw lsA hl)
  case goto off =>
    obtain ⟨ht, rfl⟩ := hoi
    exact lv_goto hx hb hdc ht (hk _ h H locs hw lsA hl)
  case ifCond cd off =>
    obtain ⟨ht, rfl⟩ := hoi
    obtain ⟨x, r, rfl, h2⟩ := pv_1i_inv h
    cases cd
    case eq => exact lv_if_eq hx hb hdc ht (fun q => hk _ (h2.1 q) H locs hw lsA hl) (fun q => hk _ (h2.2 q) H locs hw lsA hl)
    case ne => exact lv_if_ne hx hb hdc ht (fun q => hk _ (h2.2 q) H locs hw lsA hl) (fun q => hk _ (h2.1 q) H locs hw lsA hl)
    case lt => exact lv_if_lt hx hb hdc ht (fun q => hk _ (h2.1 q) H locs hw lsA hl) (fun q => hk _ (h2.2 q) H locs hw lsA hl)
    case ge => exact lv_if_ge hx hb hdc ht (fun q => hk _ (h2.1 q) H locs hw lsA hl) (fun q => hk _ (h2.2 q) H locs hw lsA hl)
    case gt => exact lv_if_gt hx hb hdc ht (fun q => hk _ (h2.1 q) H locs hw lsA hl) (fun q => hk _ (h2.2 q) H locs hw lsA hl)
    case le => exact lv_if_le hx hb hdc ht (fun q => hk _ (h2.1 q) H locs hw lsA hl) (fun q => hk _ (h2.2 q) H locs hw lsA hl)
  case if_icmp cd off =>
    obtain ⟨ht, rfl⟩ := hoi
    obtain ⟨x, y, r, rfl, h2⟩ := pv_2i_inv h
    cases cd
    case eq => exact lv_icmp_eq hx hb hdc ht (fun q => hk _ (h2.1 q) H locs hw lsA hl) (fun q => hk _ (h2.2 q) H locs hw lsA hl)
    case ne => exact lv_icmp_ne hx hb hdc ht (fun q => hk _ (h2.2 q) H locs hw lsA hl) (fun q => hk _ (h2.1 q) H locs hw lsA hl)
    case lt => exact lv_icmp_lt hx hb hdc ht (fun q => hk _ (h2.1 q) H locs hw lsA hl) (fun q => hk _ (h2.2 q) H locs hw lsA hl)
    case ge => exact lv_icmp_ge hx hb hdc ht (fun q => hk _ (h2.1 q) H locs hw lsA hl) (fun q => hk _ (h2.2 q) H locs hw lsA hl)
    case gt => exact lv_icmp_gt hx hb hdc ht (fun q => hk _ (h2.1 q) H locs hw lsA hl) (fun q => hk _ (h2.2 q) H locs hw lsA hl)
    case le => exact lv_icmp_le hx hb hdc ht (fun q => hk _ (h2.1 q) H locs hw lsA hl) (fun q => hk _ (h2.2 q) H locs hw lsA hl)
  case lookupswitch d ps =>
    obtain ⟨⟨hsrt, hd0⟩, hps⟩ := hoi
    obtain ⟨x, r, rfl, h2⟩ := pv_1i_inv h
    obtain ⟨tgt, h3, h4⟩ := pv_swS hd0 _ hps h2
    exact lv_lookup hx hb hdc hsrt rfl h3 (hk _ h4 H locs hw lsA hl)
  case tableswitch d lo hi offs =>
    obtain ⟨⟨hhi, hd0⟩, hps⟩ := hoi
    obtain ⟨x, r, rfl, h2⟩ := pv_1i_inv h
    obtain ⟨tgt, h3, h4⟩ := pv_swS hd0 _ hps h2
    rw [pv_tb_off] at h3
    have hsz : (offs.toList.length : Int) = (offs.size : Int) := by simp
    by_cases hx1 : x.toInt < lo ∨ hi < x.toInt
    · rw [if_pos (by omega)] at h3
      exact lv_tableOut hx hb hdc hx1 h3 (hk _ h4 H locs hw lsA hl)
    · rw [if_neg (by omega)] at h3
      have hlt : (x.toInt - lo).toNat < offs.toList.length := by omega
      have hget : offs[(x.toInt - lo).toNat]? = some (offs.toList.getD (x.toInt - lo - ((0 : Nat) : Int)).toNat d) := by
        rw [show (x.toInt - lo - ((0 : Nat) : Int)).toNat = (x.toInt - lo).toNat by omega, ← Array.getElem?_toList, List.getD_eq_getElem?_getD, List.getElem?_eq_getElem hlt]
        rfl
      exact lv_tableIn hx hb hdc (by omega) (by omega) hget h3 (hk _ h4 H locs hw lsA hl)
  case getfield i =>
    obtain ⟨rfl, hf⟩ := hoi
    obtain ⟨b, r, rfl, h2⟩ := pv_1r_inv h
    obtain ⟨fs, h3, h4⟩ := pv_ob_inv h2
    obtain ⟨w, h5, h6⟩ := pv_so_inv h4
    rw [pv_at_eq] at h5
    exact pv_sound_get hx hb hown hts hnw hK hC hw hf h3 h5 hdc (hk _ h6 H locs hw lsA hl)
  case putfield i =>
    obtain ⟨⟨rfl, hf⟩, hfin, hkd⟩ := hoi
    cases v
    case null =>
      obtain ⟨x, b, r, rfl, h2⟩ := pv_ir_inv h
      obtain ⟨fs, h3, h4⟩ := pv_ob_inv h2
      obtain ⟨w, h5, h6⟩ := pv_so_inv h4
      have ety := pv_kd_i hkd
      exact pv_sound_put hx hb hown hts hnw hK hC hD hw hf hfin h3 (pv_len_of h5) (w := .int x) rfl (by rw [ety]; rfl) (by rw [ety]; rfl) hdc (fun H1 locs1 hw1 => hk _ h6 H1 locs1 hw1 lsA hl)
    case int z =>
      obtain ⟨x, b, r, rfl, h2⟩ := pv_ir_inv h
      obtain ⟨fs, h3, h4⟩ := pv_ob_inv h2
      obtain ⟨w, h5, h7, h6⟩ := pv_so_inv h4
      have ety := pv_kd_z hkd
      exact pv_sound_put hx hb hown hts hnw hK hC hD hw hf hfin h3 (pv_len_of h5) (w := .int x) rfl (by rw [ety]; exact (pv_z01 h7).1) (by rw [ety]; exact (pv_z01 h7).2.1) hdc (fun H1 locs1 hw1 => hk _ h6 H1 locs1 hw1 lsA hl)
    case long z =>
      obtain ⟨x, r', rfl, h2'⟩ := pv_1l_inv h
      obtain ⟨b, r, rfl, h2⟩ := pv_1r_inv h2'
      obtain ⟨fs, h3, h4⟩ := pv_ob_inv h2
      obtain ⟨w, h5, h6⟩ := pv_so_inv h4
      have ety := pv_kd_l hkd
      exact pv_sound_put hx hb hown hts hnw hK hC hD hw hf hfin h3 (pv_len_of h5) (w := .long x) rfl (by rw [ety]; rfl) (by rw [ety]; rfl) hdc (fun H1 locs1 hw1 => hk _ h6 H1 locs1 hw1 lsA hl)
    all_goals exact False.elim h
  case iaload =>
    cases hoi
    obtain ⟨i, b, r, rfl, h2⟩ := pv_ir_inv h
    obtain ⟨t, z, g, h3, h4⟩ := pv_ai_inv h2
    obtain ⟨h5, h6, h7⟩ := pv_bif h4
    have et := Nat.eq_of_beq_eq_true h5
    subst et
    exact va_iald hx hb hK hP b 0 (pv_w_0 cA ad h3) rfl h6 hdc (hk _ h7 H locs hw lsA hl)
  case baload =>
    cases hoi
    obtain ⟨i, b, r, rfl, h2⟩ := pv_ir_inv h
    obtain ⟨t, z, g, h3, h4⟩ := pv_ai_inv h2
    obtain ⟨h5, h6, h7⟩ := pv_bif h4
    rw [Bool.or_eq_true] at h5
    rcases h5 with h5 | h5
    · have et := Nat.eq_of_beq_eq_true h5
      subst et
      exact va_bald hx hb hK hP b 1 (pv_w_0 cA ad h3) rfl h6 hdc (hk _ h7 H locs hw lsA hl)
    · have et := Nat.eq_of_beq_eq_true h5
      subst et
      exact va_zald hx hb hK hP b 2 (pv_w_0 cA ad h3) rfl h6 hdc (hk _ h7 H locs hw lsA hl)
  case laload =>
    cases hoi
    obtain ⟨i, b, r, rfl, h2⟩ := pv_ir_inv h
    obtain ⟨t, z, g, h3, h4⟩ := pv_al_inv h2
    obtain ⟨h5, h6, h7⟩ := pv_bif h4
    have et := Nat.eq_of_beq_eq_true h5
    subst et
    exact va_lald hx hb hK hP b 3 (pv_w_0 cA ad h3) rfl h6 hdc (hk _ h7 H locs hw lsA hl)
  case iastore =>
    cases hoi
    obtain ⟨x, i, b, r, rfl, h2⟩ := pv_iir_inv h
    obtain ⟨t, z, g, h3, h4⟩ := pv_ai_inv h2
    obtain ⟨h5, h6, h7⟩ := pv_bif h4
    have et := Nat.eq_of_beq_eq_true h5
    subst et
    exact va_iast hx hb hK hP hDS hS b 0 (pv_w_0 cA ad h3) rfl h6 hdc (fun H1 locs1 q1 _ q3 => hk _ h7 H1 locs1 (pv_ast hw (x := .inl (0, z, .inl (upd g i.toNatClampNeg x))) rfl q1 q3) lsA hl)
  case bastore =>
    cases hoi
    obtain ⟨x, i, b, r, rfl, h2⟩ := pv_iir_inv h
    obtain ⟨t, z, g, h3, h4⟩ := pv_ai_inv h2
    cases h5 : Nat.beq t 1 with
    | true =>
      rw [h5] at h4
      obtain ⟨h6, h7⟩ := h4
      have et := Nat.eq_of_beq_eq_true h5
      subst et
      refine va_bast hx hb hK hP hDS hS b 1 (pv_w_0 cA ad h3) rfl h6 hdc (fun H1 locs1 q1 _ q3 => ?_)
      rw [vp_nar_byte] at q1
      exact hk _ h7 H1 locs1 (pv_ast hw (x := .inl (1, z, .inl (upd g i.toNatClampNeg x.toInt8.toInt32))) rfl q1 q3) lsA hl
    | false =>
      rw [h5] at h4
      obtain ⟨h8, ⟨h6, h9⟩, h7⟩ := pv_bif h4
      have et := Nat.eq_of_beq_eq_true h8
      subst et
      refine va_zast hx hb hK hP hDS hS b 2 (pv_w_0 cA ad h3) rfl h6 hdc (fun H1 locs1 q1 _ q3 => ?_)
      rw [(pv_z01 h9).2.2] at q1
      exact hk _ h7 H1 locs1 (pv_ast hw (x := .inl (2, z, .inl (upd g i.toNatClampNeg x))) rfl q1 q3) lsA hl
  case lastore =>
    cases hoi
    obtain ⟨x, i, b, r, rfl, h2⟩ := pv_lir_inv h
    obtain ⟨t, z, g, h3, h4⟩ := pv_al_inv h2
    obtain ⟨h5, h6, h7⟩ := pv_bif h4
    have et := Nat.eq_of_beq_eq_true h5
    subst et
    exact va_last hx hb hK hP hDS hS b 3 (pv_w_0 cA ad h3) rfl h6 hdc (fun H1 locs1 q1 _ q3 => hk _ h7 H1 locs1 (pv_ast hw (x := .inl (3, z, .inr (.inl (vp_updL g i.toNatClampNeg x)))) rfl q1 q3) lsA hl)
  case arraylength =>
    cases hoi
    obtain ⟨b, r, rfl, h2⟩ := pv_1r_inv h
    obtain ⟨⟨t, z⟩, hq, h4⟩ := pv_an_inv h2
    obtain ⟨h5, h6⟩ := pv_bif h4
    have ht : t < 4 := Nat.blt_eq.mp h5
    have ht4 : ∀ u : Nat, u < 4 → u = 0 ∨ u = 1 ∨ u = 2 ∨ u = 3 := fun u hu => by omega
    rcases ht4 t ht with rfl | rfl | rfl | rfl
    · exact va_alen hx hb hK hP b 0 (pv_w_0 cA ad hq) rfl rfl hdc (hk _ h6 H locs hw lsA hl)
    · exact va_alen hx hb hK hP b 1 (pv_w_0 cA ad hq) rfl rfl hdc (hk _ h6 H locs hw lsA hl)
    · exact va_alen hx hb hK hP b 2 (pv_w_0 cA ad hq) rfl rfl hdc (hk _ h6 H locs hw lsA hl)
    · exact va_alen hx hb hK hP b 3 (pv_w_0 cA ad hq) rfl rfl hdc (hk _ h6 H locs hw lsA hl)
  case invokevirtual i =>
    have hoi0 := hoi
    obtain ⟨rfl, -⟩ := hoi
    have h : (match pv_pop a2 [] st with | some (As, .ref b :: r) => bif Nat.ble (pv_wd r) 8 then pv_gr (some v) fun ci => pv_ob S b ci fun _ => call a1 (.ref b :: As) S (fun o S' => k (pc + 3, ls, pv_ol o r, S')) else False | _ => False) := h
    split at h
    · rename_i As b r hq
      obtain ⟨L, e1, e2, e3⟩ := pv_pop_eq _ _ _ _ _ hq
      rw [List.append_nil] at e2
      subst e2
      obtain ⟨h1, h2⟩ := pv_bif h
      obtain ⟨ci, h3, h4⟩ := pv_gr_inv h2
      cases h3
      obtain ⟨fs, h5, h6⟩ := pv_ob_inv h4
      subst e3
      subst e1
      exact hcV i ci b fs As r _ hoi0 h5 (Nat.le_of_ble_eq_true h1) hdc h6 (fun o S' hP' H1 locs1 hw1 => hk _ hP' H1 locs1 hw1 lsA hl)
    · exact False.elim h
  case invokestatic i =>
    have hoi0 := hoi
    obtain ⟨rfl, -⟩ := hoi
    have h : (match pv_pop a2 [] st with | some (As, r) => bif Nat.ble (pv_wd r) 8 then call a1 As S (fun o S' => k (pc + 3, ls, pv_ol o r, S')) else False | _ => False) := h
    split at h
    · rename_i As r hq
      obtain ⟨L, e1, e2, e3⟩ := pv_pop_eq _ _ _ _ _ hq
      rw [List.append_nil] at e2
      subst e2
      obtain ⟨h1, h2⟩ := pv_bif h
      subst e3
      subst e1
      exact hcS i As r _ hoi0 (Nat.le_of_ble_eq_true h1) hdc h2 (fun o S' hP' H1 locs1 hw1 => hk _ hP' H1 locs1 hw1 lsA hl)
    · exact False.elim h
  case ireturn =>
    cases hoi
    obtain ⟨x, rfl, h2⟩ := pv_ri_inv h
    cases h5 : Nat.beq rt 0 with
    | true =>
      rw [h5] at h2
      exact hQi x h2 (Or.inl (Nat.eq_of_beq_eq_true h5)) hdc
    | false =>
      rw [h5] at h2
      obtain ⟨h6, h7, h8⟩ := pv_bif h2
      exact hQi x h8 (Or.inr ⟨Nat.eq_of_beq_eq_true h6, h7⟩) hdc
  case lreturn =>
    cases hoi
    obtain ⟨x, rfl, h2⟩ := pv_rl_inv h
    obtain ⟨h6, h7⟩ := pv_bif h2
    exact hQl x h7 (Nat.eq_of_beq_eq_true h6) hdc
  case return_ =>
    cases hoi
    rcases st with _ | ⟨w, r⟩
    · obtain ⟨h6, h7⟩ := pv_bif h
      exact hQv h7 (Nat.eq_of_beq_eq_true h6) hdc
    · exact False.elim h
  all_goals exact False.elim h
end PVT
end
section
/-- from a configuration the method comes to its end, with Q: the least predicate that the steps lead to -/
def pv_go (T : Nat → Option pv_I) (rt : Nat) (call : pv_C) (Q : pv_R) (c : pv_c) : Prop := ∀ X : pv_c → Prop, (∀ c', pv_st T rt call Q X c' → X c') → X c
/-- System.arraycopy of ints -/
def pv_cp (As : List Value) (S : pv_S) (P : pv_R) : Prop := match As with
  | [.ref x, .int sp, .ref y, .int dp, .int n] => pv_ai S x fun t n0 f => pv_ai S y fun u n1 g => bif (Nat.beq t 0 && Nat.beq u 0) then ((¬ sp < 0 ∧ ¬ dp < 0 ∧ ¬ n < 0) ∧ sp.toNatClampNeg + n.toNatClampNeg ≤ n0 ∧ dp.toNatClampNeg + n.toNatClampNeg ≤ n1) ∧ P none (pv_set S y (.inl (0, n1, .inl (va_cpy f g sp.toNatClampNeg dp.toNatClampNeg n.toNatClampNeg)))) else False
  | _ => False
/-- Math.min -/
def pv_mn (As : List Value) (S : pv_S) (P : pv_R) : Prop := match As with
  | [.int x, .int y] => P (some (.int (if y < x then y else x))) S
  | _ => False
/-- a call: d calls deep at most -/
def pv_call (mt : Nat → Option pv_M) : Nat → pv_C
  | 0 => fun _ _ _ _ => False
  | d + 1 => fun j As S P => bif Nat.beq j 999 then pv_cp As S P else bif Nat.beq j 998 then pv_mn As S P else match mt j with
    | some (_, _, maxL, _, _, _, rt, T) => pv_wd As ≤ maxL ∧ pv_go T rt (pv_call mt d) P (0, lv_args 0 As, [], S)
    | none => False
def pv_okM (cl : List vw_C) (tyf : Nat → Nat → FieldType) (Ts NW : List Cond) (mt : Nat → Option pv_M) (y : MethodName) (cc : ByteArray) (maxL : Nat) (ret : Option FieldType) (stat : Bool) (na rt : Nat) (T : Nat → Option pv_I) : Prop :=
  ((plainName y.cls = true ∧ Cond.code y cc maxL ret ∈ Ts) ∧ (Cond.initialized y.cls ∈ Ts ∧ (y.cls ≠ "java/lang/invoke/MethodHandle" ∧ y.cls ≠ "java/lang/invoke/VarHandle" ∧ (parseMethodDescriptor y.desc).map (fun d => d.parameters.length) = some na))) ∧ ((stat = true → Cond.static y ∈ Ts) ∧ (stat = false → Cond.instanceMethod y ∈ Ts ∧ Cond.selects y.cls y y ∈ Ts)) ∧ (maxL ≤ 20 ∧ pv_rt rt ret = true) ∧
  ∀ (pc : Nat) (ins : Instr) (len nx a1 a2 : Nat) (v : Value), T pc = some (ins, len, nx, a1, a2, v) → decode cc pc = .ok (ins, len) ∧ nx = pc + len ∧ pv_oi cl tyf Ts NW mt y.cls maxL pc len a1 a2 v ins
def pv_ok (cl : List vw_C) (tyf : Nat → Nat → FieldType) (Ts NW : List Cond) (mt : Nat → Option pv_M) : Prop :=
  ((∀ w ∈ Ts, goodWord w = true) ∧ (∀ w ∈ NW, pv_isN w = true)) ∧ pv_okC cl tyf Ts ∧ ((mt 999 = none ∧ mt 998 = none) ∧ ∀ j y cc maxL ret stat na rt T, mt j = some (y, cc, maxL, ret, stat, na, rt, T) → pv_okM cl tyf Ts NW mt y cc maxL ret stat na rt T)
def pv_rm (d : Nat) : Room := { frames := d, cells := 0, slots := 0, locals := 40 * d }
def pv_A (ad : Nat → Nat) (n : Nat) : Nat → Prop := fun q => ∃ k, k < n ∧ ad k = q
theorem pv_D_of {cA ad : Nat → Nat} {n : Nat} (hinj : ∀ i j, i < n → j < n → ad i = ad j → i = j) : ∀ S : pv_S, S.length = n → va_D (pv_A ad n) (pv_w cA ad 0 S) := by
  intro S hS
  have key : ∀ (k : Nat) (q : Nat × va_E), (pv_w cA ad 0 S)[k]? = some q → k < n ∧ q.1 = ad k := by
    intro k q hk
    have hl := (List.getElem?_eq_some_iff.mp hk).1
    rw [pv_w_len, hS] at hl
    refine ⟨hl, ?_⟩
    rw [pv_w_at, Nat.zero_add] at hk
    cases h : S[k]? with
    | none => rw [h] at hk; cases hk
    | some x => rw [h] at hk; exact (congrArg Prod.fst (Option.some.inj hk)).symm
  refine ⟨fun i j x y hi hj hxy => ?_, fun k q hk => ?_⟩
  · obtain ⟨h1, h2⟩ := key i x hi
    obtain ⟨h3, h4⟩ := key j y hj
    exact hinj i j h1 h3 (by rw [← h2, ← h4]; exact hxy)
  · obtain ⟨h1, h2⟩ := key k q hk
    exact ⟨k, h1, h2.symm⟩
def pv_ws (Ts : List Cond) (y : MethodName) (cc : ByteArray) (maxL : Nat) (ret : Option FieldType) : List Cond := .code y cc maxL ret :: Ts
def pv_Pc (D : va_G) (cl : List vw_C) (cA ad : Nat → Nat) (NW : List Cond) (As : List Value) (S : pv_S) : Array Value → State → Prop := va_Pc (As.map (pv_v ad)) (fun U => va_P D cl (pv_w cA ad 0 S) U.heap ∧ va_K D cl (pv_tys cA) U ∧ ∀ w ∈ NW, va_Nw w U)
def pv_Qc (D : va_G) (cl : List vw_C) (cA ad : Nat → Nat) (n : Nat) (P : pv_R) : Array Value → State → Outcome → State → Prop := fun _ st oc t => (∃ o S', oc = .returned (o.map (pv_v ad)) ∧ P o S' ∧ S'.length = n ∧ va_P D cl (pv_w cA ad 0 S') t.heap) ∧ va_F (pv_A ad n) st t
theorem pv_warm {NW : List Cond} (hN : ∀ w ∈ NW, pv_isN w = true) {s U : State} (hW : s.WarmedH U.vm) (h : ∀ w ∈ NW, va_Nw w s) : ∀ w ∈ NW, va_Nw w U := by
  intro w hw
  have h1 := hN w hw
  have h2 := h w hw
  cases w <;> first | (exact va_Nw.warmF hW h2) | (exact va_Nw.warmM hW h2) | (cases h1)
theorem pv_blind {D : va_G} {cl : List vw_C} {cA ad : Nat → Nat} {NW : List Cond} (hN : ∀ w ∈ NW, pv_isN w = true) {As : List Value} {S : pv_S} : FrameBlind (pv_Pc D cl cA ad NW As S) := by
  intro a U g mk q
  obtain ⟨q0, qP, qK, qN⟩ := q
  refine ⟨q0, qP, va_K.moved (u := U) (U := U.calling g mk a) (Vm.Alike.refl U.vm) qK, fun w hw => ?_⟩
  have h1 := hN w hw
  have h2 := qN w hw
  cases w <;> first | (exact va_Nw.same rfl rfl h2) | (cases h1)
theorem pv_olmap (ad : Nat → Nat) (o : Option Value) (r : List Value) : (o.map (pv_v ad)).toList ++ r.map (pv_v ad) = (pv_ol o r).map (pv_v ad) := by cases o <;> rfl
section PVC
variable {p : Program} {l : Launch} {e : Env} {R : Room} {s : State} {m : MethodId} {args : Array Value} {below : List Frame} {meth : Method} {c : Code}
variable {cl : List vw_C} {tyf : Nat → Nat → FieldType} {Ts NW : List Cond} {mt : Nat → Option pv_M} {D : va_G} {cA ad : Nat → Nat} {H0 : Heap} {n nL : Nat} {own : String} {cc : ByteArray}
theorem pv_cont {Qs : State → Prop} {H : Heap} {locs : List Loc} {pc : Nat} {ls : Array Slot} {st0 : List Value} {r : List Value} {P : pv_R} {a : Array Value} (hr : va_Run p l e R s m args below meth c H locs 0 0 0 0 (F0 m pc ls st0) (r.map (pv_v ad)) (pv_Qc D cl cA ad n P a) (pv_A ad n)) (hS : va_S (pv_A ad n) H0 H locs)
    (kk : ∀ o S', P o S' → ∀ (H1 : Heap) (locs1 : List Loc), pv_Wo D cl cA ad (pv_A ad n) H0 n S' H1 locs1 → W p l e R s m args below meth c H1 locs1 0 0 Qs (F0 m (pc + 3) ls ((pv_ol o r).map (pv_v ad)))) : W p l e R s m args below meth c H locs 0 0 Qs (F0 m pc ls st0) := by
  intro T hT X
  obtain ⟨v, st₀, t, T', L, h0, X', hL, e1, e2, ⟨⟨o, S', hv, hp, hn, hPw⟩, hz, hk⟩, st⟩ := hr T hT X
  cases hv
  rw [h0] at hz hk
  obtain ⟨t2, a1, b1⟩ := kk o S' hp T'.heap (locs ++ L) ⟨hn, by rw [e1]; exact hPw, Nat.le_trans hS.1 (by rw [e1]; exact hz), fun q h1 h2 => by rw [e1, hk q (Nat.lt_of_lt_of_le h1 hS.1) h2]; exact hS.2.1 q h1 h2, fun q hq => by
      rcases List.mem_append.mp hq with h | h
      · exact hS.2.2 q h
      · exact hL q h⟩ T' rfl X'
  rw [← pv_olmap] at a1
  exact ⟨t2, st t2 a1, b1⟩
theorem pv_good {y : MethodName} {maxL : Nat} {ret : Option FieldType} (hg : ∀ w ∈ Ts, goodWord w = true) (hc : Cond.code y cc maxL ret ∈ Ts) : GoodIn Ts (pv_ws Ts y cc maxL ret) := by
  intro w hw
  rcases List.mem_cons.mp hw with rfl | hw
  · exact ⟨hc, good_of_word (hg _ hc)⟩
  · exact ⟨hw, good_of_word (hg _ hw)⟩
end PVC
end
section
theorem pv_cp_inv {As : List Value} {S : pv_S} {P : pv_R} (h : pv_cp As S P) : ∃ x sp y dp n, As = [.ref x, .int sp, .ref y, .int dp, .int n] ∧ (pv_ai S x fun t n0 f => pv_ai S y fun u n1 g => bif (Nat.beq t 0 && Nat.beq u 0) then ((¬ sp < 0 ∧ ¬ dp < 0 ∧ ¬ n < 0) ∧ sp.toNatClampNeg + n.toNatClampNeg ≤ n0 ∧ dp.toNatClampNeg + n.toNatClampNeg ≤ n1) ∧ P none (pv_set S y (.inl (0, n1, .inl (va_cpy f g sp.toNatClampNeg dp.toNatClampNeg n.toNatClampNeg)))) else False) := by
  unfold pv_cp at h
  split at h
  · exact ⟨_, _, _, _, _, rfl, h⟩
  · exact h.elim
theorem pv_mn_inv {As : List Value} {S : pv_S} {P : pv_R} (h : pv_mn As S P) : ∃ x y, As = [.int x, .int y] ∧ P (some (.int (if y < x then y else x))) S := by
  unfold pv_mn at h
  split at h
  · exact ⟨_, _, rfl, h⟩
  · exact h.elim
section PVM
variable {p : Program} {l : Launch} {e : Env} {R : Room} {s : State} {m : MethodId} {args : Array Value} {below : List Frame} {meth : Method} {c : Code}
variable {cl : List vw_C} {tyf : Nat → Nat → FieldType} {Ts NW : List Cond} {mt : Nat → Option pv_M} {D : va_G} {cA ad : Nat → Nat} {H0 : Heap} {n nL : Nat} {own : String} {cc : ByteArray}
/-- what is known of a method whose contract holds at depth d -/
def pv_Mets (l : Launch) (cl : List vw_C) (Ts NW : List Cond) (mt : Nat → Option pv_M) (D : va_G) (cA ad : Nat → Nat) (n d : Nat) (call : pv_C) : Prop := ∀ (j : Nat) (As : List Value) (S : pv_S) (P : pv_R), S.length = n → call j As S P → ¬ j = 999 ∧ ¬ j = 998 → ∀ y bc maxL ret stat na rt T, mt j = some (y, bc, maxL, ret, stat, na, rt, T) → Met l y (pv_ws Ts y bc maxL ret) (pv_rm d) (pv_Pc D cl cA ad NW As S) (pv_Qc D cl cA ad n P) 0 0 (pv_A ad n)
theorem pv_stV {Qs : State → Prop} {d : Nat} {call : pv_C} (hM : pv_Mets l cl Ts NW mt D cA ad n d call) (hok : pv_ok cl tyf Ts NW mt) (hR : R.frames = d + 1 ∧ R.locals = 40 * (d + 1)) (hx : p.tables.exec = Jvm.exec) (hb : c.code = cc) (hml : c.maxLocals = nL) (hown : s.vm.findClass own = some m.cls) (hts : ∀ w ∈ Ts, w.before args s = true) (hnw : ∀ w ∈ NW, va_Nw w s) (hK : va_K D cl (pv_tys cA) s)
    {a1 pc : Nat} {S : pv_S} {H : Heap} {locs : List Loc} (hw : pv_Wo D cl cA ad (pv_A ad n) H0 n S H locs) {lsA : Array Slot} (hls : lsA.size = nL)
    (i ci b : Nat) (fs As r : List Value) (P : pv_R) (hoi : pv_oi cl tyf Ts NW mt own nL pc 3 a1 As.length (.ref ci) (.invokevirtual i)) (he : S[b]? = some (.inr (ci, fs))) (hwd : pv_wd r ≤ 8) (hdc : decode cc pc = .ok (.invokevirtual i, 3)) (hc : call a1 (.ref b :: As) S P)
    (kk : ∀ o S', P o S' → ∀ (H1 : Heap) (locs1 : List Loc), pv_Wo D cl cA ad (pv_A ad n) H0 n S' H1 locs1 → W p l e R s m args below meth c H1 locs1 0 0 Qs (F0 m (pc + 3) lsA ((pv_ol o r).map (pv_v ad)))) : W p l e R s m args below meth c H locs 0 0 Qs (F0 m pc lsA ((As.reverse ++ .ref b :: r).map (pv_v ad))) := by
  obtain ⟨-, ⟨y, bc, maxL, ret, stat, na, rt, T⟩, hx1, ⟨hst, hna⟩, ⟨ci', T', N, hci, hcl⟩, hml2⟩ := hoi
  cases hci
  obtain ⟨⟨hg, hN⟩, -, ⟨h999, h998⟩, hms⟩ := hok
  have hj : ¬ a1 = 999 ∧ ¬ a1 = 998 := ⟨(fun h => by rw [h, h999] at hx1; cases hx1), (fun h => by rw [h, h998] at hx1; cases hx1)⟩
  obtain ⟨⟨⟨hpl, hcode⟩, hini, hdsc⟩, ⟨-, hinst⟩, ⟨hmx, -⟩, -⟩ := hms _ _ _ _ _ _ _ _ _ hx1
  obtain ⟨hin1, hin2⟩ := hinst hst
  have hMet := hM a1 (.ref b :: As) S P hw.1 hc hj _ _ _ _ _ _ _ _ hx1
  have hG : GoodIn Ts (pv_ws Ts y bc maxL ret) := pv_good hg hcode
  have hstk : ((As.reverse ++ .ref b :: r).map (pv_v ad)) = (As.map (pv_v ad)).reverse ++ .ref (ad b) :: r.map (pv_v ad) := by simp [pv_v]
  have hlen : (As.map (pv_v ad)).length = na := by rw [List.length_map]; exact hna
  have hroom : (pv_rm d).frames + 1 ≤ R.frames ∧ 8 + (maxL + 11) + (pv_rm d).locals ≤ R.locals := by
    rw [hR.1, hR.2]
    refine ⟨Nat.le_refl _, ?_⟩
    show 8 + (maxL + 11) + 40 * d ≤ 40 * (d + 1)
    omega
  have hpv : PreV s H y.cls (ad b) (pv_Pc D cl cA ad NW (.ref b :: As) S) (As.map (pv_v ad)) := by
    refine ⟨pv_blind hN, va_recv hK hw.2.1 (ci := ci) (q0 := b) hcl (pv_w_0 cA ad he), fun U hU hW => ⟨rfl, by rw [hU]; exact hw.2.1, va_K.moved hW.alike hK, pv_warm hN hW hnw⟩⟩
  have hr8 : ((r.map (pv_v ad)).map fun v => v.category).sum ≤ 8 := by rw [pv_wd_map]; exact hwd
  rw [hstk]
  rcases hml2 with hl | ⟨host, hl⟩
  · exact pv_cont (va_runV (As := As.map (pv_v ad)) (rest := r.map (pv_v ad)) ⟨hx, hb, hml, hown, hts⟩ hMet ⟨callB_of na hts hG rfl rfl rfl (hts _ hini) (hts _ hl) hdsc hroom, hts _ hin1, hts _ hin2⟩ hpv rfl hlen hls rfl (lv_room hr8) hdc ⟨Nat.zero_le _, Nat.zero_le _⟩) hw.2.2 kk
  · exact pv_cont (va_runVN (As := As.map (pv_v ad)) (rest := r.map (pv_v ad)) ⟨hx, hb, hml, hown, hts⟩ hMet ⟨va_cnB na hts hG rfl rfl rfl (hnw _ hl) (hts _ hini) hdsc hroom, hts _ hin1, hts _ hin2⟩ hpv rfl hlen hls rfl (lv_room hr8) hdc ⟨Nat.zero_le _, Nat.zero_le _⟩) hw.2.2 kk
theorem pv_stS {Qs : State → Prop} {d : Nat} {call : pv_C} (hM : pv_Mets l cl Ts NW mt D cA ad n d call) (h9 : (∀ As S P, call 999 As S P → pv_cp As S P) ∧ (∀ As S P, call 998 As S P → pv_mn As S P)) (hok : pv_ok cl tyf Ts NW mt) (hD : ∀ S : pv_S, S.length = n → va_D (pv_A ad n) (pv_w cA ad 0 S)) (hR : R.frames = d + 1 ∧ R.locals = 40 * (d + 1)) (hx : p.tables.exec = Jvm.exec) (hb : c.code = cc) (hml : c.maxLocals = nL) (hown : s.vm.findClass own = some m.cls) (hts : ∀ w ∈ Ts, w.before args s = true) (hnw : ∀ w ∈ NW, va_Nw w s) (hK : va_K D cl (pv_tys cA) s)
    {a1 pc : Nat} {v : Value} {S : pv_S} {H : Heap} {locs : List Loc} (hw : pv_Wo D cl cA ad (pv_A ad n) H0 n S H locs) {lsA : Array Slot} (hls : lsA.size = nL)
    (i : Nat) (As r : List Value) (P : pv_R) (hoi : pv_oi cl tyf Ts NW mt own nL pc 3 a1 As.length v (.invokestatic i)) (hwd : pv_wd r ≤ 8) (hdc : decode cc pc = .ok (.invokestatic i, 3)) (hc : call a1 As S P)
    (kk : ∀ o S', P o S' → ∀ (H1 : Heap) (locs1 : List Loc), pv_Wo D cl cA ad (pv_A ad n) H0 n S' H1 locs1 → W p l e R s m args below meth c H1 locs1 0 0 Qs (F0 m (pc + 3) lsA ((pv_ol o r).map (pv_v ad)))) : W p l e R s m args below meth c H locs 0 0 Qs (F0 m pc lsA ((As.reverse ++ r).map (pv_v ad))) := by
  obtain ⟨-, hoi⟩ := hoi
  obtain ⟨⟨hg, hN⟩, -, ⟨h999, h998⟩, hms⟩ := hok
  have hr8 : ((r.map (pv_v ad)).map fun v => v.category).sum ≤ 8 := by rw [pv_wd_map]; exact hwd
  rcases hoi with ⟨rfl, ha5, hl, hcp1, hcp2, hcp3⟩ | ⟨rfl, ha5, hl, hcp1, hcp2, hcp3⟩ | ⟨hj, ⟨y, bc, maxL, ret, stat, na, rt, T⟩, hx1, ⟨hst, hna⟩, hml2⟩
  · have hc := h9.1 As S P hc
    obtain ⟨x, sp, y, dp, z, rfl, hc⟩ := pv_cp_inv hc
    · obtain ⟨t, n0, f, h1, hc⟩ := pv_ai_inv hc
      obtain ⟨u, n1, g, h2, hc⟩ := pv_ai_inv hc
      obtain ⟨h3, ⟨⟨q1, q2, q3⟩, q4, q5⟩, hP⟩ := pv_bif hc
      rw [Bool.and_eq_true] at h3
      have e1 := Nat.eq_of_beq_eq_true h3.1
      have e2 := Nat.eq_of_beq_eq_true h3.2
      subst e1
      subst e2
      have hloc : ((r.map (pv_v ad)).map fun v => v.category).sum + (nativeFrameWords "java/lang/System" "arraycopy" 5 + 11) ≤ R.locals := by
        rw [hR.2]
        have : nativeFrameWords "java/lang/System" "arraycopy" 5 = 7 := by decide +kernel
        omega
      refine va_copyi (ty := .int) hx hb (by rw [hml]; exact hls.symm) hown (hts _ hl) (hts _ hcp1) (hts _ hcp2) (hts _ hcp3) hK hw.2.1 (hD S hw.1) hw.2.2 x y 0 0 (pv_w_0 cA ad h1) (pv_w_0 cA ad h2) rfl rfl rfl q1 q2 q3 q4 q5 (fun _ _ => rfl) (by rw [hR.1]; exact Nat.succ_le_succ (Nat.zero_le _)) hloc hdc (fun H1 locs1 w1 _ w3 => ?_)
      exact kk none _ hP H1 locs1 (pv_ast hw (x := .inl (0, n1, .inl (va_cpy f g sp.toNatClampNeg dp.toNatClampNeg z.toNatClampNeg))) rfl w1 w3)
  · obtain ⟨x, y, rfl, hP⟩ := pv_mn_inv (h9.2 As S P hc)
    have hloc : ((r.map (pv_v ad)).map fun v => v.category).sum + 13 ≤ R.locals := by rw [hR.2]; omega
    exact va_mmin hx hb (by rw [hml]; exact hls.symm) hown (hts _ hl) (hts _ hcp1) (hts _ hcp2) (hts _ hcp3) (by rw [hR.1]; exact Nat.succ_le_succ (Nat.zero_le _)) hloc (Nat.zero_le _) (Nat.zero_le _) hdc (kk _ _ hP H locs hw)
  · obtain ⟨⟨⟨hpl, hcode⟩, hini, hdsc⟩, ⟨hstat, -⟩, ⟨hmx, -⟩, -⟩ := hms _ _ _ _ _ _ _ _ _ hx1
    have hin1 := hstat hst
    have hMet := hM a1 As S P hw.1 hc hj _ _ _ _ _ _ _ _ hx1
    have hG : GoodIn Ts (pv_ws Ts y bc maxL ret) := pv_good hg hcode
    have hstk : ((As.reverse ++ r).map (pv_v ad)) = (As.map (pv_v ad)).reverse ++ r.map (pv_v ad) := by simp
    have hlen : (As.map (pv_v ad)).length = na := by rw [List.length_map]; exact hna
    have hroom : (pv_rm d).frames + 1 ≤ R.frames ∧ 8 + (maxL + 11) + (pv_rm d).locals ≤ R.locals := by
      rw [hR.1, hR.2]
      refine ⟨Nat.le_refl _, ?_⟩
      show 8 + (maxL + 11) + 40 * d ≤ 40 * (d + 1)
      omega
    have hpv : PreS s H (pv_Pc D cl cA ad NW As S) (As.map (pv_v ad)) :=
      ⟨pv_blind hN, fun U hU hW => ⟨rfl, by rw [hU]; exact hw.2.1, va_K.moved hW.alike hK, pv_warm hN hW hnw⟩⟩
    rw [hstk]
    rcases hml2 with hl | ⟨host, hl⟩
    · exact pv_cont (va_runS (As := As.map (pv_v ad)) (rest := r.map (pv_v ad)) ⟨hx, hb, hml, hown, hts⟩ hMet ⟨callB_of na hts hG rfl rfl rfl (hts _ hini) (hts _ hl) hdsc hroom, hts _ hin1⟩ hpv rfl hlen hls rfl (lv_room hr8) hdc ⟨Nat.zero_le _, Nat.zero_le _⟩) hw.2.2 kk
    · exact pv_cont (va_runSN (As := As.map (pv_v ad)) (rest := r.map (pv_v ad)) ⟨hx, hb, hml, hown, hts⟩ hMet ⟨va_cnB na hts hG rfl rfl rfl (hnw _ hl) (hts _ hini) hdsc hroom, hts _ hin1, trivial⟩ hpv rfl hlen hls rfl (lv_room hr8) hdc ⟨Nat.zero_le _, Nat.zero_le _⟩) hw.2.2 kk
/-- the walk of a method's body, from a configuration on -/
theorem pv_walk {d : Nat} {call : pv_C} {ret : Option FieldType} {rt : Nat} {T : Nat → Option pv_I} {P : pv_R}
    (hM : ∀ d', d = d' + 1 → pv_Mets l cl Ts NW mt D cA ad n d' call) (h0 : d = 0 → ∀ j As S P, ¬ call j As S P) (h9 : (∀ As S P, call 999 As S P → pv_cp As S P) ∧ (∀ As S P, call 998 As S P → pv_mn As S P)) (hok : pv_ok cl tyf Ts NW mt) (hD : ∀ S : pv_S, S.length = n → va_D (pv_A ad n) (pv_w cA ad 0 S)) (hR : R.frames = d ∧ R.locals = 40 * d) (hx : p.tables.exec = Jvm.exec) (hb : c.code = cc) (hml : c.maxLocals = nL) (hown : s.vm.findClass own = some m.cls) (hts : ∀ w ∈ Ts, w.before args s = true) (hnw : ∀ w ∈ NW, va_Nw w s) (hK : va_K D cl (pv_tys cA) s) (hr : meth.sig.returnType = ret) (hrt : pv_rt rt ret = true) (hlk : meth.locks = false)
    (hT : ∀ (pc : Nat) (ins : Instr) (len nx a1 a2 : Nat) (v : Value), T pc = some (ins, len, nx, a1, a2, v) → decode cc pc = .ok (ins, len) ∧ nx = pc + len ∧ pv_oi cl tyf Ts NW mt own nL pc len a1 a2 v ins) :
    ∀ (c' : pv_c), pv_go T rt call P c' → ∀ (H : Heap) (locs : List Loc), pv_Wo D cl cA ad (pv_A ad n) s.heap n c'.2.2.2 H locs → ∀ lsA : Array Slot, lv_has lsA nL (pv_lc ad c'.2.1) → W p l e R s m args below meth c H locs 0 0 (MQ below (pv_Qc D cl cA ad n P) args s 0 0 (pv_A ad n)) (F0 m c'.1 lsA (c'.2.2.1.map (pv_v ad))) := by
  intro c0 hgo
  refine hgo (fun c' => ∀ (H : Heap) (locs : List Loc), pv_Wo D cl cA ad (pv_A ad n) s.heap n c'.2.2.2 H locs → ∀ lsA : Array Slot, lv_has lsA nL (pv_lc ad c'.2.1) → W p l e R s m args below meth c H locs 0 0 (MQ below (pv_Qc D cl cA ad n P) args s 0 0 (pv_A ad n)) (F0 m c'.1 lsA (c'.2.2.1.map (pv_v ad)))) ?_
  intro c' h H locs hw lsA hl
  · obtain ⟨pc, ls, st, S⟩ := c'
    have h : (match T pc with | some (ins, _, nx, a1, a2, v) => pv_ex rt call P (fun c' => ∀ (H : Heap) (locs : List Loc), pv_Wo D cl cA ad (pv_A ad n) s.heap n c'.2.2.2 H locs → ∀ lsA : Array Slot, lv_has lsA nL (pv_lc ad c'.2.1) → W p l e R s m args below meth c H locs 0 0 (MQ below (pv_Qc D cl cA ad n P) args s 0 0 (pv_A ad n)) (F0 m c'.1 lsA (c'.2.2.1.map (pv_v ad)))) nx a1 a2 v pc ls st S ins | none => False) := h
    split at h
    · rename_i ins len nx a1 a2 v hq
      obtain ⟨hdc, rfl, hoi⟩ := hT _ _ _ _ _ _ _ hq
      have hret : ∀ o : Option Value, P o S → ∀ t : State, t.heap = H → pv_Qc D cl cA ad n P args s (.returned (o.map (pv_v ad))) t := fun o ho t ht => ⟨⟨o, S, rfl, ho, hw.1, by rw [ht]; exact hw.2.1⟩, hw.2.2.F ht⟩
      refine pv_sound_ex (mt := mt) hx hb hml hown hts hnw hK hok.2.1 hD hdc hoi h hw hl (fun c' hc' H locs hw lsA hl => hc' H locs hw lsA hl) ?_ ?_ ?_ ?_ ?_
      · intro x hQ hrx hd1
        rcases hrx with rfl | ⟨rfl, h01⟩
        · have er : ret = some .int := by
            cases ret with
            | none => cases hrt
            | some ty => cases ty <;> first | rfl | cases hrt
          exact W.iret hx hb (hr.trans er) (fun t ht _ => hret (some (.int x)) hQ t ht) hw.2.2.2.2 hd1 hlk
        · have er : ret = some .boolean := by
            cases ret with
            | none => cases hrt
            | some ty => cases ty <;> first | rfl | cases hrt
          exact W.zret hx hb (hr.trans er) (pv_z01 h01).1 (fun t ht _ => hret (some (.int x)) hQ t ht) hw.2.2.2.2 hd1 hlk
      · intro x hQ hrx hd1
        subst hrx
        have er : ret = some .long := by
          cases ret with
          | none => cases hrt
          | some ty => cases ty <;> first | rfl | cases hrt
        exact W.lret hx hb (hr.trans er) (fun t ht _ => hret (some (.long x)) hQ t ht) hw.2.2.2.2 hd1 hlk
      · intro hQ hrx hd1
        subst hrx
        have er : ret = none := by
          cases ret with
          | none => rfl
          | some ty => cases hrt
        exact W.vret hx hb (hr.trans er) (fun t ht _ => hret none hQ t ht) hw.2.2.2.2 hd1 hlk
      · intro i ci b fs As r P' hoi' he hwd hd1 hc kk
        cases d with
        | zero => exact absurd hc (h0 rfl _ _ _ _)
        | succ d => exact pv_stV (hM d rfl) hok hR hx hb hml hown hts hnw hK hw hl.1 i ci b fs As r P' hoi' he hwd hd1 hc kk
      · intro i As r P' hoi' hwd hd1 hc kk
        cases d with
        | zero => exact absurd hc (h0 rfl _ _ _ _)
        | succ d => exact pv_stS (hM d rfl) h9 hok hD hR hx hb hml hown hts hnw hK hw hl.1 i As r P' hoi' hwd hd1 hc kk
    · exact h.elim
/-- THE PURE MACHINE'S CALLS ARE CONTRACTS -/
theorem pv_sound (hok : pv_ok cl tyf Ts NW mt) (hD : ∀ S : pv_S, S.length = n → va_D (pv_A ad n) (pv_w cA ad 0 S)) : ∀ d, pv_Mets l cl Ts NW mt D cA ad n d (pv_call mt (d + 1)) := by
  intro d
  induction d with
  | zero =>
    intro j As S P hlen hc hj y bc maxL ret stat na rt T hx1
    have hc : (bif Nat.beq j 999 then pv_cp As S P else bif Nat.beq j 998 then pv_mn As S P else match mt j with
      | some (_, _, maxL, _, _, _, rt, T) => pv_wd As ≤ maxL ∧ pv_go T rt (pv_call mt 0) P (0, lv_args 0 As, [], S)
      | none => False) := hc
    have hjb : Nat.beq j 999 = false := by
      cases hb : Nat.beq j 999 with
      | true => exact absurd (Nat.eq_of_beq_eq_true hb) hj.1
      | false => rfl
    have hjc : Nat.beq j 998 = false := by
      cases hb : Nat.beq j 998 with
      | true => exact absurd (Nat.eq_of_beq_eq_true hb) hj.2
      | false => rfl
    rw [hjb, hjc, hx1] at hc
    obtain ⟨hwd, hit⟩ := hc
    obtain ⟨⟨⟨hpl, hcode⟩, hini, hdsc⟩, -, ⟨hmx, hrt⟩, hT⟩ := hok.2.2.2 _ _ _ _ _ _ _ _ _ hx1
    refine Met.ofW (cc := bc) (maxL := maxL) (ret := ret) hpl rfl ?_
    intro p e s m args below meth c s₁ B hml hv
    obtain ⟨rfl, hP, hK, hN⟩ := hv
    have hts : ∀ w ∈ Ts, w.before _ s = true := fun w hw => atoms_spec (ws := pv_ws Ts y bc maxL ret) B.pre w (List.mem_cons_of_mem _ hw)
    have hown : s.vm.findClass y.cls = some m.cls := findClass_of_methodNamed B.named
    have hl := lv_entry (As.map (pv_v ad)) (n := maxL) (by rw [pv_sl_len, pv_wd, pv_wd_map]; exact hwd)
    rw [lg_entry_eq]
    generalize (lg_sl (As.map (pv_v ad)) ++ List.replicate (maxL - (lg_sl (As.map (pv_v ad))).length) Slot.unset).toArray = lsA at hl ⊢
    rw [pv_lc_args] at hl
    exact pv_walk (d := 0) (call := pv_call mt 0) (R := pv_rm 0) (fun d' h => by cases h) (fun _ j As S P h => h) ⟨fun As S P h => h.elim, fun As S P h => h.elim⟩ hok hD ⟨rfl, rfl⟩ B.exec B.bytes hml hown hts hN hK B.returns hrt B.notSynchronized hT _ hit _ _ ⟨hlen, hP, va_S.rf⟩ lsA hl
  | succ d ih =>
    intro j As S P hlen hc hj y bc maxL ret stat na rt T hx1
    have hc : (bif Nat.beq j 999 then pv_cp As S P else bif Nat.beq j 998 then pv_mn As S P else match mt j with
      | some (_, _, maxL, _, _, _, rt, T) => pv_wd As ≤ maxL ∧ pv_go T rt (pv_call mt (d + 1)) P (0, lv_args 0 As, [], S)
      | none => False) := hc
    have hjb : Nat.beq j 999 = false := by
      cases hb : Nat.beq j 999 with
      | true => exact absurd (Nat.eq_of_beq_eq_true hb) hj.1
      | false => rfl
    have hjc : Nat.beq j 998 = false := by
      cases hb : Nat.beq j 998 with
      | true => exact absurd (Nat.eq_of_beq_eq_true hb) hj.2
      | false => rfl
    rw [hjb, hjc, hx1] at hc
    obtain ⟨hwd, hit⟩ := hc
    obtain ⟨⟨⟨hpl, hcode⟩, hini, hdsc⟩, -, ⟨hmx, hrt⟩, hT⟩ := hok.2.2.2 _ _ _ _ _ _ _ _ _ hx1
    refine Met.ofW (cc := bc) (maxL := maxL) (ret := ret) hpl rfl ?_
    intro p e s m args below meth c s₁ B hml hv
    obtain ⟨rfl, hP, hK, hN⟩ := hv
    have hts : ∀ w ∈ Ts, w.before _ s = true := fun w hw => atoms_spec (ws := pv_ws Ts y bc maxL ret) B.pre w (List.mem_cons_of_mem _ hw)
    have hown : s.vm.findClass y.cls = some m.cls := findClass_of_methodNamed B.named
    have hl := lv_entry (As.map (pv_v ad)) (n := maxL) (by rw [pv_sl_len, pv_wd, pv_wd_map]; exact hwd)
    rw [lg_entry_eq]
    generalize (lg_sl (As.map (pv_v ad)) ++ List.replicate (maxL - (lg_sl (As.map (pv_v ad))).length) Slot.unset).toArray = lsA at hl ⊢
    rw [pv_lc_args] at hl
    exact pv_walk (d := d + 1) (call := pv_call mt (d + 1)) (R := pv_rm (d + 1)) (fun d' h => by cases h; exact ih) (fun h => by cases h) ⟨fun As S P h => h, fun As S P h => h⟩ hok hD ⟨rfl, rfl⟩ B.exec B.bytes hml hown hts hN hK B.returns hrt B.notSynchronized hT _ hit _ _ ⟨hlen, hP, va_S.rf⟩ lsA hl
end PVM
end
section
/-! the pure machine: monotone; runs up to cut points -/
theorem pv_gi_mono {v : Option Value} {f g : Int32 → Prop} (hfg : ∀ x, f x → g x) (h : pv_gi v f) : pv_gi v g := by
  unfold pv_gi at h ⊢
  split at h
  · exact hfg _ h
  · exact h
theorem pv_gl_mono {v : Option Value} {f g : Int64 → Prop} (hfg : ∀ x, f x → g x) (h : pv_gl v f) : pv_gl v g := by
  unfold pv_gl at h ⊢
  split at h
  · exact hfg _ h
  · exact h
theorem pv_gr_mono {v : Option Value} {f g : Nat → Prop} (hfg : ∀ x, f x → g x) (h : pv_gr v f) : pv_gr v g := by
  unfold pv_gr at h ⊢
  split at h
  · exact hfg _ h
  · exact h
theorem pv_so_mono {v : Option Value} {f g : Value → Prop} (hfg : ∀ x, f x → g x) (h : pv_so v f) : pv_so v g := by
  unfold pv_so at h ⊢
  split at h
  · exact hfg _ h
  · exact h
theorem pv_1i_mono {st : List Value} {f g : Int32 → List Value → Prop} (hfg : ∀ x r, f x r → g x r) (h : pv_1i st f) : pv_1i st g := by
  unfold pv_1i at h ⊢
  split at h
  · exact hfg _ _ h
  · exact h
theorem pv_2i_mono {st : List Value} {f g : Int32 → Int32 → List Value → Prop} (hfg : ∀ x y r, f x y r → g x y r) (h : pv_2i st f) : pv_2i st g := by
  unfold pv_2i at h ⊢
  split at h
  · exact hfg _ _ _ h
  · exact h
theorem pv_1l_mono {st : List Value} {f g : Int64 → List Value → Prop} (hfg : ∀ x r, f x r → g x r) (h : pv_1l st f) : pv_1l st g := by
  unfold pv_1l at h ⊢
  split at h
  · exact hfg _ _ h
  · exact h
theorem pv_2l_mono {st : List Value} {f g : Int64 → Int64 → List Value → Prop} (hfg : ∀ x y r, f x y r → g x y r) (h : pv_2l st f) : pv_2l st g := by
  unfold pv_2l at h ⊢
  split at h
  · exact hfg _ _ _ h
  · exact h
theorem pv_li_mono {st : List Value} {f g : Int64 → Int32 → List Value → Prop} (hfg : ∀ x y r, f x y r → g x y r) (h : pv_li st f) : pv_li st g := by
  unfold pv_li at h ⊢
  split at h
  · exact hfg _ _ _ h
  · exact h
theorem pv_1r_mono {st : List Value} {f g : Nat → List Value → Prop} (hfg : ∀ x r, f x r → g x r) (h : pv_1r st f) : pv_1r st g := by
  unfold pv_1r at h ⊢
  split at h
  · exact hfg _ _ h
  · exact h
theorem pv_ir_mono {st : List Value} {f g : Int32 → Nat → List Value → Prop} (hfg : ∀ x y r, f x y r → g x y r) (h : pv_ir st f) : pv_ir st g := by
  unfold pv_ir at h ⊢
  split at h
  · exact hfg _ _ _ h
  · exact h
theorem pv_iir_mono {st : List Value} {f g : Int32 → Int32 → Nat → List Value → Prop} (hfg : ∀ x y z r, f x y z r → g x y z r) (h : pv_iir st f) : pv_iir st g := by
  unfold pv_iir at h ⊢
  split at h
  · exact hfg _ _ _ _ h
  · exact h
theorem pv_lir_mono {st : List Value} {f g : Int64 → Int32 → Nat → List Value → Prop} (hfg : ∀ x y z r, f x y z r → g x y z r) (h : pv_lir st f) : pv_lir st g := by
  unfold pv_lir at h ⊢
  split at h
  · exact hfg _ _ _ _ h
  · exact h
theorem pv_ri_mono {st : List Value} {f g : Int32 → Prop} (hfg : ∀ x, f x → g x) (h : pv_ri st f) : pv_ri st g := by
  unfold pv_ri at h ⊢
  split at h
  · exact hfg _ h
  · exact h
theorem pv_rl_mono {st : List Value} {f g : Int64 → Prop} (hfg : ∀ x, f x → g x) (h : pv_rl st f) : pv_rl st g := by
  unfold pv_rl at h ⊢
  split at h
  · exact hfg _ h
  · exact h
theorem pv_ai_mono {S : pv_S} {b : Nat} {f g : Nat → Nat → (Nat → Int32) → Prop} (hfg : ∀ x y z, f x y z → g x y z) (h : pv_ai S b f) : pv_ai S b g := by
  unfold pv_ai at h ⊢
  split at h
  · exact hfg _ _ _ h
  · exact h
theorem pv_al_mono {S : pv_S} {b : Nat} {f g : Nat → Nat → (Nat → Int64) → Prop} (hfg : ∀ x y z, f x y z → g x y z) (h : pv_al S b f) : pv_al S b g := by
  unfold pv_al at h ⊢
  split at h
  · exact hfg _ _ _ h
  · exact h
theorem pv_an_mono {S : pv_S} {b : Nat} {f g : Nat → Nat → Prop} (hfg : ∀ x y, f x y → g x y) (h : pv_an S b f) : pv_an S b g := by
  unfold pv_an at h ⊢
  split at h
  · exact hfg _ _ h
  · exact h
theorem pv_bif_mono {b : Bool} {P Q : Prop} (h : P → Q) (hp : (bif b then P else False)) : (bif b then Q else False) := by
  cases b with
  | true => exact h hp
  | false => exact hp
theorem pv_ob_mono {S : pv_S} {b ci : Nat} {f g : List Value → Prop} (hfg : ∀ x, f x → g x) (h : pv_ob S b ci f) : pv_ob S b ci g := by
  unfold pv_ob at h ⊢
  split at h
  · exact pv_bif_mono (hfg _) h
  · exact h
theorem pv_sw_mono {k k' : Nat → Prop} (hk : ∀ t, k t → k' t) {pc : Nat} {x : Int32} {d : Int} : ∀ ps : List (Int × Int), pv_sw k pc x ps d → pv_sw k' pc x ps d := by
  intro ps
  induction ps with
  | nil => intro h; exact hk _ h
  | cons q ps ih => intro h; exact ⟨fun e => hk _ (h.1 e), fun e => ih (h.2 e)⟩
def pv_cm (call : pv_C) : Prop := ∀ (j : Nat) (As : List Value) (S : pv_S) (P P' : pv_R), (∀ o S', P o S' → P' o S') → call j As S P → call j As S P'
set_option maxHeartbeats 4000000 in
theorem pv_ex_mono {rt : Nat} {call : pv_C} (hc : pv_cm call) {Q Q' : pv_R} (hQ : ∀ o S, Q o S → Q' o S) {k k' : pv_c → Prop} (hk : ∀ c, k c → k' c) {nx a1 a2 pc : Nat} {v : Value} {ls : pv_L} {st : List Value} {S : pv_S} {ins : Instr} (h : pv_ex rt call Q k nx a1 a2 v pc ls st S ins) : pv_ex rt call Q' k' nx a1 a2 v pc ls st S ins := by
  cases ins
  case iconst z =>
    exact hk _ h
  case bipush z =>
    exact hk _ h
  case sipush z =>
    exact hk _ h
  case lconst z =>
    exact hk _ h
  case ldc z =>
    exact hk _ h
  case ldc2_w z =>
    exact hk _ h
  case goto z =>
    exact hk _ h
  case iload z =>
    exact pv_gi_mono (fun x h => hk _ h) h
  case iload_n z =>
    exact pv_gi_mono (fun x h => hk _ h) h
  case lload z =>
    exact pv_gl_mono (fun x h => hk _ h) h
  case lload_n z =>
    exact pv_gl_mono (fun x h => hk _ h) h
  case aload z =>
    exact pv_gr_mono (fun x h => hk _ h) h
  case aload_n z =>
    exact pv_gr_mono (fun x h => hk _ h) h
  case istore z =>
    exact pv_1i_mono (fun x r h => hk _ h) h
  case istore_n z =>
    exact pv_1i_mono (fun x r h => hk _ h) h
  case lstore z =>
    exact pv_1l_mono (fun x r h => hk _ h) h
  case lstore_n z =>
    exact pv_1l_mono (fun x r h => hk _ h) h
  case i2l =>
    exact pv_1i_mono (fun x r h => hk _ h) h
  case l2i =>
    exact pv_1l_mono (fun x r h => hk _ h) h
  case i2b =>
    exact pv_1i_mono (fun x r h => hk _ h) h
  case iinc i z =>
    exact pv_gi_mono (fun x h => pv_gi_mono (fun y h => hk _ h) h) h
  case iadd =>
    exact pv_2i_mono (fun x y r h => hk _ h) h
  case isub =>
    exact pv_2i_mono (fun x y r h => hk _ h) h
  case imul =>
    exact pv_2i_mono (fun x y r h => hk _ h) h
  case iand =>
    exact pv_2i_mono (fun x y r h => hk _ h) h
  case ior =>
    exact pv_2i_mono (fun x y r h => hk _ h) h
  case ixor =>
    exact pv_2i_mono (fun x y r h => hk _ h) h
  case ishl =>
    exact pv_2i_mono (fun x y r h => hk _ h) h
  case ishr =>
    exact pv_2i_mono (fun x y r h => hk _ h) h
  case idiv =>
    exact pv_2i_mono (fun x y r h => ⟨h.1, hk _ h.2⟩) h
  case irem =>
    exact pv_2i_mono (fun x y r h => ⟨h.1, hk _ h.2⟩) h
  case ladd =>
    exact pv_2l_mono (fun x y r h => hk _ h) h
  case land =>
    exact pv_2l_mono (fun x y r h => hk _ h) h
  case lor =>
    exact pv_2l_mono (fun x y r h => hk _ h) h
  case lxor =>
    exact pv_2l_mono (fun x y r h => hk _ h) h
  case lcmp =>
    exact pv_2l_mono (fun x y r h => hk _ h) h
  case lshl =>
    exact pv_li_mono (fun x y r h => hk _ h) h
  case lshr =>
    exact pv_li_mono (fun x y r h => hk _ h) h
  case lushr =>
    exact pv_li_mono (fun x y r h => hk _ h) h
  case dup =>
    rcases st with _ | ⟨w, r⟩
    · exact h
    · exact pv_bif_mono (hk _) h
  case pop =>
    rcases st with _ | ⟨w, r⟩
    · exact h
    · exact pv_bif_mono (hk _) h
  case pop2 =>
    rcases st with _ | ⟨w, r⟩
    · exact h
    · exact pv_bif_mono (hk _) h
  case dup2 =>
    rcases st with _ | ⟨w, _ | ⟨u, r⟩⟩
    · exact h
    · exact h
    · exact pv_bif_mono (hk _) h
  case ifCond c z =>
    exact pv_1i_mono (fun x r h => by cases c <;> exact ⟨fun e => hk _ (h.1 e), fun e => hk _ (h.2 e)⟩) h
  case if_icmp c z =>
    exact pv_2i_mono (fun x y r h => by cases c <;> exact ⟨fun e => hk _ (h.1 e), fun e => hk _ (h.2 e)⟩) h
  case lookupswitch d ps =>
    exact pv_1i_mono (fun x r h => pv_sw_mono (fun t h => hk _ h) _ h) h
  case tableswitch d lo hi os =>
    exact pv_1i_mono (fun x r h => pv_sw_mono (fun t h => hk _ h) _ h) h
  case getfield z =>
    exact pv_1r_mono (fun x r h => pv_ob_mono (fun fs h => pv_so_mono (fun w h => hk _ h) h) h) h
  case putfield z =>
    cases v
    case null => exact pv_ir_mono (fun x y r h => pv_ob_mono (fun fs h => pv_so_mono (fun w h => hk _ h) h) h) h
    case int q => exact pv_ir_mono (fun x y r h => pv_ob_mono (fun fs h => pv_so_mono (fun w h => ⟨h.1, hk _ h.2⟩) h) h) h
    case long q => exact pv_1l_mono (fun x r h => pv_1r_mono (fun x r h => pv_ob_mono (fun fs h => pv_so_mono (fun w h => hk _ h) h) h) h) h
    all_goals exact h
  case iaload =>
    exact pv_ir_mono (fun x y r h => pv_ai_mono (fun t n f h => pv_bif_mono (fun h => ⟨h.1, hk _ h.2⟩) h) h) h
  case baload =>
    exact pv_ir_mono (fun x y r h => pv_ai_mono (fun t n f h => pv_bif_mono (fun h => ⟨h.1, hk _ h.2⟩) h) h) h
  case laload =>
    exact pv_ir_mono (fun x y r h => pv_al_mono (fun t n f h => pv_bif_mono (fun h => ⟨h.1, hk _ h.2⟩) h) h) h
  case iastore =>
    exact pv_iir_mono (fun x y z r h => pv_ai_mono (fun t n f h => pv_bif_mono (fun h => ⟨h.1, hk _ h.2⟩) h) h) h
  case lastore =>
    exact pv_lir_mono (fun x y z r h => pv_al_mono (fun t n f h => pv_bif_mono (fun h => ⟨h.1, hk _ h.2⟩) h) h) h
  case bastore =>
    refine pv_iir_mono (fun x y z r h => pv_ai_mono (fun t n f h => ?_) h) h
    cases hb : Nat.beq t 1 with
    | true => rw [hb] at h; exact ⟨h.1, hk _ h.2⟩
    | false => rw [hb] at h; exact pv_bif_mono (fun h => ⟨h.1, hk _ h.2⟩) h
  case arraylength =>
    exact pv_1r_mono (fun x r h => pv_an_mono (fun t n h => pv_bif_mono (hk _) h) h) h
  case invokevirtual z =>
    have h : (match pv_pop a2 [] st with | some (As, .ref b :: r) => bif Nat.ble (pv_wd r) 8 then pv_gr (some v) fun ci => pv_ob S b ci fun _ => call a1 (.ref b :: As) S (fun o S' => k (nx, ls, pv_ol o r, S')) else False | _ => False) := h
    show (match pv_pop a2 [] st with | some (As, .ref b :: r) => bif Nat.ble (pv_wd r) 8 then pv_gr (some v) fun ci => pv_ob S b ci fun _ => call a1 (.ref b :: As) S (fun o S' => k' (nx, ls, pv_ol o r, S')) else False | _ => False)
    split at h
    · exact pv_bif_mono (fun h => pv_gr_mono (fun ci h => pv_ob_mono (fun _ h => hc _ _ _ _ _ (fun o S' h => hk _ h) h) h) h) h
    · exact h
  case invokestatic z =>
    have h : (match pv_pop a2 [] st with | some (As, r) => bif Nat.ble (pv_wd r) 8 then call a1 As S (fun o S' => k (nx, ls, pv_ol o r, S')) else False | _ => False) := h
    show (match pv_pop a2 [] st with | some (As, r) => bif Nat.ble (pv_wd r) 8 then call a1 As S (fun o S' => k' (nx, ls, pv_ol o r, S')) else False | _ => False)
    split at h
    · exact pv_bif_mono (fun h => hc _ _ _ _ _ (fun o S' h => hk _ h) h) h
    · exact h
  case ireturn =>
    refine pv_ri_mono (fun x h => ?_) h
    cases hb : Nat.beq rt 0 with
    | true => rw [hb] at h; exact hQ _ _ h
    | false => rw [hb] at h; exact pv_bif_mono (fun h => ⟨h.1, hQ _ _ h.2⟩) h
  case lreturn =>
    exact pv_rl_mono (fun x h => pv_bif_mono (hQ _ _) h) h
  case return_ =>
    rcases st with _ | ⟨w, r⟩
    · exact pv_bif_mono (hQ _ _) h
    · exact h
  all_goals exact h
theorem pv_st_mono {T : Nat → Option pv_I} {rt : Nat} {call : pv_C} (hc : pv_cm call) {Q Q' : pv_R} (hQ : ∀ o S, Q o S → Q' o S) {k k' : pv_c → Prop} (hk : ∀ c, k c → k' c) {c : pv_c} (h : pv_st T rt call Q k c) : pv_st T rt call Q' k' c := by
  obtain ⟨pc, ls, st, S⟩ := c
  have h : (match T pc with | some (ins, _, nx, a1, a2, v) => pv_ex rt call Q k nx a1 a2 v pc ls st S ins | none => False) := h
  show (match T pc with | some (ins, _, nx, a1, a2, v) => pv_ex rt call Q' k' nx a1 a2 v pc ls st S ins | none => False)
  split at h
  · exact pv_ex_mono hc hQ hk h
  · exact h
theorem pv_go_fold {T : Nat → Option pv_I} {rt : Nat} {call : pv_C} (hc : pv_cm call) {Q : pv_R} {c : pv_c} (h : pv_st T rt call Q (pv_go T rt call Q) c) : pv_go T rt call Q c :=
  fun X hX => hX c (pv_st_mono hc (fun _ _ h => h) (fun c' h' => h' X hX) h)
theorem pv_go_mono {T : Nat → Option pv_I} {rt : Nat} {call : pv_C} (hc : pv_cm call) {Q Q' : pv_R} (hQ : ∀ o S, Q o S → Q' o S) {c : pv_c} (h : pv_go T rt call Q c) : pv_go T rt call Q' c :=
  fun X hX => h X (fun c' h' => hX c' (pv_st_mono hc hQ (fun _ h => h) h'))
theorem pv_call_cm (mt : Nat → Option pv_M) : ∀ d, pv_cm (pv_call mt d) := by
  intro d
  induction d with
  | zero => intro j As S P P' _ h; exact h
  | succ d ih =>
    intro j As S P P' hP h
    have h : (bif Nat.beq j 999 then pv_cp As S P else bif Nat.beq j 998 then pv_mn As S P else match mt j with
      | some (_, _, maxL, _, _, _, rt, T) => pv_wd As ≤ maxL ∧ pv_go T rt (pv_call mt d) P (0, lv_args 0 As, [], S)
      | none => False) := h
    show (bif Nat.beq j 999 then pv_cp As S P' else bif Nat.beq j 998 then pv_mn As S P' else match mt j with
      | some (_, _, maxL, _, _, _, rt, T) => pv_wd As ≤ maxL ∧ pv_go T rt (pv_call mt d) P' (0, lv_args 0 As, [], S)
      | none => False)
    cases h9 : Nat.beq j 999 with
    | true =>
      rw [h9] at h
      have h : pv_cp As S P := h
      show pv_cp As S P'
      unfold pv_cp at h ⊢
      split at h
      · exact pv_ai_mono (fun t n f h => pv_ai_mono (fun u n' g h => pv_bif_mono (fun h => ⟨h.1, hP _ _ h.2⟩) h) h) h
      · exact h
    | false =>
      rw [h9] at h
      cases h8 : Nat.beq j 998 with
      | true =>
        rw [h8] at h
        have h : pv_mn As S P := h
        show pv_mn As S P'
        unfold pv_mn at h ⊢
        split at h
        · exact hP _ _ h
        · exact h
      | false =>
        rw [h8] at h
        cases hm : mt j with
        | none => rw [hm] at h; exact h
        | some x =>
          obtain ⟨y, bc, maxL, ret, stat, na, rt, T⟩ := x
          rw [hm] at h
          exact ⟨h.1, pv_go_mono ih hP h.2⟩
/-- a call is shown by its method's walk -/
theorem pv_call_of {mt : Nat → Option pv_M} {d j : Nat} {As : List Value} {S : pv_S} {P : pv_R} {y : MethodName} {bc : ByteArray} {maxL : Nat} {ret : Option FieldType} {stat : Bool} {na rt : Nat} {T : Nat → Option pv_I} (hj : (Nat.beq j 999 || Nat.beq j 998) = false) (hm : mt j = some (y, bc, maxL, ret, stat, na, rt, T)) (hw : Nat.ble (pv_wd As) maxL = true) (h : pv_go T rt (pv_call mt d) P (0, lv_args 0 As, [], S)) : pv_call mt (d + 1) j As S P := by
  show (bif Nat.beq j 999 then pv_cp As S P else bif Nat.beq j 998 then pv_mn As S P else match mt j with
      | some (_, _, maxL, _, _, _, rt, T) => pv_wd As ≤ maxL ∧ pv_go T rt (pv_call mt d) P (0, lv_args 0 As, [], S)
      | none => False)
  rw [Bool.or_eq_false_iff] at hj
  rw [hj.1, hj.2, hm]
  exact ⟨Nat.le_of_ble_eq_true hw, h⟩
/-- up to n steps, not beyond a pc of the list -/
def pv_wp (T : Nat → Option pv_I) (rt : Nat) (call : pv_C) (Q : pv_R) (cuts : List Nat) (C : pv_c → Prop) : Nat → pv_c → Prop
  | 0, c => C c
  | n + 1, (pc, ls, st, S) => bif cuts.any (Nat.beq pc) then C (pc, ls, st, S) else pv_st T rt call Q (pv_wp T rt call Q cuts C n) (pc, ls, st, S)
theorem pv_wp_go {T : Nat → Option pv_I} {rt : Nat} {call : pv_C} (hc : pv_cm call) {Q : pv_R} {cuts : List Nat} : ∀ (n : Nat) (c : pv_c), pv_wp T rt call Q cuts (pv_go T rt call Q) n c → pv_go T rt call Q c := by
  intro n
  induction n with
  | zero => intro c h; exact h
  | succ n ih =>
    intro c h
    obtain ⟨pc, ls, st, S⟩ := c
    have h : (bif cuts.any (Nat.beq pc) then pv_go T rt call Q (pc, ls, st, S) else pv_st T rt call Q (pv_wp T rt call Q cuts (pv_go T rt call Q) n) (pc, ls, st, S)) := h
    cases hb : cuts.any (Nat.beq pc) with
    | true => rw [hb] at h; exact h
    | false => rw [hb] at h; exact pv_go_fold hc (pv_st_mono hc (fun _ _ h => h) ih h)
/-- from a cut point on: one step, then up to n more -/
theorem pv_run {mt : Nat → Option pv_M} {d : Nat} {T : Nat → Option pv_I} {rt : Nat} {Q : pv_R} (cuts : List Nat) (n : Nat) {c : pv_c} (h : pv_st T rt (pv_call mt d) Q (pv_wp T rt (pv_call mt d) Q cuts (pv_go T rt (pv_call mt d) Q) n) c) : pv_go T rt (pv_call mt d) Q c :=
  pv_go_fold (pv_call_cm mt d) (pv_st_mono (pv_call_cm mt d) (fun _ _ h => h) (pv_wp_go (pv_call_cm mt d) n) h)
end
section
/-! the tables' check, by program: what pv_ck accepts, pv_oi says -/
def pv_sorted (ps : List (Int × Int)) : Bool := (ps.zip (ps.drop 1)).all (fun (a, next) => a.1 < next.1)
def pv_ck (FL : List (Nat × Nat × Nat × Nat)) (ML : List (Nat × Nat × Nat)) (CL : List (Nat × Nat × Value)) (cl : List vw_C) (tyf : Nat → Nat → FieldType) (ma : Nat → Option (Bool × Nat × Nat)) (own nL pc len a1 a2 : Nat) (v : Value) (ins : Instr) : Bool := match ins with
  | .iconst n => decide (v = .int (Int32.ofInt n)) && len == 1
  | .bipush n => decide (v = .int (Int8.ofInt n).toInt32) && len == 2
  | .sipush n => decide (v = .int (Int16.ofInt n).toInt32) && len == 3
  | .lconst n => decide (v = .long (Int64.ofNat n.val)) && len == 1
  | .ldc i => (match v with | .int x => decide ((own, i, Value.int x) ∈ CL) | _ => false) && len == 2
  | .ldc2_w i => (match v with | .long x => decide ((own, i, Value.long x) ∈ CL) | _ => false) && len == 3
  | .iload i => i == a1 && len == 2
  | .iload_n i => i.val == a1 && len == 1
  | .lload i => i == a1 && len == 2
  | .lload_n i => i.val == a1 && len == 1
  | .aload i => i == a1 && len == 2
  | .aload_n i => i.val == a1 && len == 1
  | .istore i => (i == a1 && len == 2) && decide (a1 < nL)
  | .istore_n i => (i.val == a1 && len == 1) && decide (a1 < nL)
  | .lstore i => (i == a1 && len == 2) && decide (a1 + 1 < nL)
  | .lstore_n i => (i.val == a1 && len == 1) && decide (a1 + 1 < nL)
  | .iinc i n => ((i == a1 && len == 3) && decide (a1 < nL)) && decide (v = .int (Int32.ofInt n))
  | .goto off => decide ((pc : Int) + off = (a1 : Int)) && len == 3
  | .ifCond _ off => decide ((pc : Int) + off = (a1 : Int)) && len == 3
  | .if_icmp _ off => decide ((pc : Int) + off = (a1 : Int)) && len == 3
  | .lookupswitch d ps => (pv_sorted ps.toList && decide (0 ≤ (pc : Int) + d)) && ps.toList.all (fun q => decide ((Int32.ofInt q.1).toInt = q.1) && decide (0 ≤ (pc : Int) + q.2))
  | .tableswitch d lo hi offs => (decide (hi + 1 = lo + (offs.size : Int)) && decide (0 ≤ (pc : Int) + d)) && (pv_tb lo 0 offs.toList).all (fun q => decide ((Int32.ofInt q.1).toInt = q.1) && decide (0 ≤ (pc : Int) + q.2))
  | .getfield i => len == 3 && decide ((own, i, a1, a2) ∈ FL)
  | .putfield i => (len == 3 && decide ((own, i, a1, a2) ∈ FL)) && ((match cl[a1]? with | some q => !(q.2.1 a2).2.2.2 | none => true) && pv_kd (tyf a1 a2) v)
  | .invokevirtual i => (len == 3 && decide ((own, i, a1) ∈ ML)) && (match ma a1, v with | some (st, na, ci), .ref c => (!st && a2 == na) && ci == c | _, _ => false)
  | .invokestatic i => (len == 3 && decide ((own, i, a1) ∈ ML)) && ((a1 == 999 && a2 == 5) || ((a1 == 998 && a2 == 2) || ((!(a1 == 999) && !(a1 == 998)) && (match ma a1 with | some (st, na, _) => st && a2 == na | _ => false))))
  | _ => len == 1
/-- what the link tables must say -/
def pv_okL (cn : Nat → String) (FL : List (Nat × Nat × Nat × Nat)) (ML : List (Nat × Nat × Nat)) (CL : List (Nat × Nat × Value)) (cl : List vw_C) (Ts NW : List Cond) (mt : Nat → Option pv_M) (ma : Nat → Option (Bool × Nat × Nat)) : Prop :=
  (∀ q ∈ FL, pv_of cl Ts NW (cn q.1) q.2.1 q.2.2.1 q.2.2.2) ∧
  (∀ q ∈ ML, (q.2.2 = 999 → Cond.methodLink (cn q.1) q.2.1 arraycopyName ∈ Ts ∧ Cond.native arraycopyName ∈ Ts ∧ Cond.static arraycopyName ∈ Ts ∧ Cond.initialized "java/lang/System" ∈ Ts) ∧ (q.2.2 = 998 → Cond.methodLink (cn q.1) q.2.1 Lib.Math.min.name ∈ Ts ∧ Cond.static Lib.Math.min.name ∈ Ts ∧ Cond.initialized "java/lang/Math" ∈ Ts ∧ Cond.code Lib.Math.min.name Lib.Math.min.code 2 (some .int) ∈ Ts) ∧ ∀ x, mt q.2.2 = some x → pv_ml Ts NW (cn q.1) q.2.1 x.1) ∧
  (∀ q ∈ CL, (∀ x, q.2.2 = .int x → Cond.constant (cn q.1) q.2.1 x ∈ Ts) ∧ (∀ x, q.2.2 = .long x → Cond.constantLong (cn q.1) q.2.1 x ∈ Ts)) ∧
  (∀ j st na ci, ma j = some (st, na, ci) → ∃ x, mt j = some x ∧ (x.2.2.2.2.1 = st ∧ x.2.2.2.2.2.1 = na) ∧ (st = false → ∃ T N, cl[ci]? = some (x.1.cls, T, N)))
set_option maxHeartbeats 4000000 in
theorem pv_ck_ok {cn : Nat → String} {FL : List (Nat × Nat × Nat × Nat)} {ML : List (Nat × Nat × Nat)} {CL : List (Nat × Nat × Value)} {cl : List vw_C} {tyf : Nat → Nat → FieldType} {Ts NW : List Cond} {mt : Nat → Option pv_M} {ma : Nat → Option (Bool × Nat × Nat)} (hL : pv_okL cn FL ML CL cl Ts NW mt ma) {own nL pc len a1 a2 : Nat} {v : Value} {ins : Instr} (h : pv_ck FL ML CL cl tyf ma own nL pc len a1 a2 v ins = true) : pv_oi cl tyf Ts NW mt (cn own) nL pc len a1 a2 v ins := by
  obtain ⟨hF, hM, hC, hma⟩ := hL
  cases ins
  case ldc i =>
    simp only [pv_ck, Bool.and_eq_true] at h
    obtain ⟨h1, h2⟩ := h
    split at h1
    · rename_i x
      exact ⟨⟨x, rfl, (hC _ (of_decide_eq_true h1)).1 x rfl⟩, by simpa using h2⟩
    · cases h1
  case ldc2_w i =>
    simp only [pv_ck, Bool.and_eq_true] at h
    obtain ⟨h1, h2⟩ := h
    split at h1
    · rename_i x
      exact ⟨⟨x, rfl, (hC _ (of_decide_eq_true h1)).2 x rfl⟩, by simpa using h2⟩
    · cases h1
  case lookupswitch d ps =>
    simp only [pv_ck, Bool.and_eq_true, List.all_eq_true, decide_eq_true_eq] at h
    exact ⟨⟨h.1.1, h.1.2⟩, fun q hq => h.2 q hq⟩
  case tableswitch d lo hi offs =>
    simp only [pv_ck, Bool.and_eq_true, List.all_eq_true, decide_eq_true_eq] at h
    exact ⟨⟨h.1.1, h.1.2⟩, fun q hq => h.2 q hq⟩
  case getfield i =>
    simp only [pv_ck, Bool.and_eq_true, decide_eq_true_eq, beq_iff_eq] at h
    exact ⟨h.1, hF _ h.2⟩
  case putfield i =>
    simp only [pv_ck, Bool.and_eq_true, decide_eq_true_eq, beq_iff_eq] at h
    obtain ⟨⟨h1, h2⟩, h3, h4⟩ := h
    refine ⟨⟨h1, hF _ h2⟩, fun C T N hc => ?_, h4⟩
    rw [hc] at h3
    simpa using h3
  case invokevirtual i =>
    simp only [pv_ck, Bool.and_eq_true, decide_eq_true_eq, beq_iff_eq] at h
    obtain ⟨⟨h1, h2⟩, h3⟩ := h
    split at h3
    · rename_i st na ci c hm
      simp only [Bool.and_eq_true, Bool.not_eq_true', beq_iff_eq] at h3
      obtain ⟨⟨h4, h5⟩, h6⟩ := h3
      obtain ⟨x, hx, ⟨e1, e2⟩, hcl⟩ := hma _ _ _ _ hm
      obtain ⟨T, N, hc⟩ := hcl h4
      subst h6
      exact ⟨h1, x, hx, ⟨e1.trans h4, h5.trans e2.symm⟩, ⟨ci, T, N, rfl, hc⟩, (hM _ h2).2.2 x hx⟩
    · cases h3
  case invokestatic i =>
    simp only [pv_ck, Bool.and_eq_true, decide_eq_true_eq, beq_iff_eq, Bool.or_eq_true] at h
    obtain ⟨⟨h1, h2⟩, h3⟩ := h
    rcases h3 with ⟨h4, h5⟩ | ⟨h4, h5⟩ | ⟨h4, h5⟩
    · exact ⟨h1, Or.inl ⟨h4, h5, (hM _ h2).1 h4⟩⟩
    · exact ⟨h1, Or.inr (Or.inl ⟨h4, h5, (hM _ h2).2.1 h4⟩)⟩
    · split at h5
      · rename_i st na ci hm
        simp only [Bool.and_eq_true, beq_iff_eq] at h5
        obtain ⟨x, hx, ⟨e1, e2⟩, -⟩ := hma _ _ _ _ hm
        exact ⟨h1, Or.inr (Or.inr ⟨by simpa using h4, x, hx, ⟨e1.trans h5.1, h5.2.trans e2.symm⟩, (hM _ h2).2.2 x hx⟩)⟩
      · cases h5
  all_goals (simp only [pv_ck, Bool.and_eq_true, decide_eq_true_eq, beq_iff_eq] at h; exact h)
/-- a method's table, checked to its end -/
def pv_ckT (FL : List (Nat × Nat × Nat × Nat)) (ML : List (Nat × Nat × Nat)) (CL : List (Nat × Nat × Value)) (cl : List vw_C) (tyf : Nat → Nat → FieldType) (ma : Nat → Option (Bool × Nat × Nat)) (own nL : Nat) (cc : ByteArray) (T : Nat → Option pv_I) (pc : Nat) : Bool := match T pc with
  | some (ins, len, nx, a1, a2, v) => decide (decode cc pc = .ok (ins, len)) && (nx == pc + len && pv_ck FL ML CL cl tyf ma own nL pc len a1 a2 v ins)
  | none => true
theorem pv_ckT_ok {cn : Nat → String} {FL : List (Nat × Nat × Nat × Nat)} {ML : List (Nat × Nat × Nat)} {CL : List (Nat × Nat × Value)} {cl : List vw_C} {tyf : Nat → Nat → FieldType} {Ts NW : List Cond} {mt : Nat → Option pv_M} {ma : Nat → Option (Bool × Nat × Nat)} (hL : pv_okL cn FL ML CL cl Ts NW mt ma) {own nL N : Nat} {cc : ByteArray} {T : Nat → Option pv_I} (hN : ∀ pc, N ≤ pc → T pc = none) (h : (List.range N).all (pv_ckT FL ML CL cl tyf ma own nL cc T) = true) :
    ∀ (pc : Nat) (ins : Instr) (len nx a1 a2 : Nat) (v : Value), T pc = some (ins, len, nx, a1, a2, v) → decode cc pc = .ok (ins, len) ∧ nx = pc + len ∧ pv_oi cl tyf Ts NW mt (cn own) nL pc len a1 a2 v ins := by
  intro pc ins len nx a1 a2 v hT
  have hlt : pc < N := by
    rcases Nat.lt_or_ge pc N with q | q
    · exact q
    · rw [hN pc q] at hT; cases hT
  have h1 := List.all_eq_true.mp h pc (List.mem_range.mpr hlt)
  unfold pv_ckT at h1
  rw [hT] at h1
  simp only [Bool.and_eq_true, decide_eq_true_eq, beq_iff_eq] at h1
  exact ⟨h1.1, h1.2.1, pv_ck_ok hL h1.2.2⟩
theorem pv_blt_none {N : Nat} {α : Type} (f : Nat → Option α) : ∀ pc, N ≤ pc → (bif Nat.blt pc N then f pc else none) = none := by
  intro pc h
  have : Nat.blt pc N = false := by
    cases hb : Nat.blt pc N with
    | true => exact absurd (Nat.blt_eq.mp hb) (Nat.not_lt.mpr h)
    | false => rfl
  rw [this]; rfl
end
section
/-! the link tables' check, by program -/
theorem pv_okF {cn : Nat → String} {FL : List (Nat × Nat × Nat × Nat)} {cl : List vw_C} {Ts Wf NW : List Cond} {hn : String} (hin : ∀ w ∈ Wf, w ∈ Ts) (h : FL.all (fun q => match cl[q.2.2.1]? with
    | some r => decide (q.2.2.2 < r.2.2) && (decide (Cond.fieldLink (cn q.1) q.2.1 r.1 (r.2.1 q.2.2.2).2.1 (r.2.1 q.2.2.2).2.2.1 ∈ Wf) || decide (Cond.fieldLinkNest (cn q.1) q.2.1 r.1 (r.2.1 q.2.2.2).2.1 (r.2.1 q.2.2.2).2.2.1 hn ∈ NW))
    | none => false) = true) : ∀ q ∈ FL, pv_of cl Ts NW (cn q.1) q.2.1 q.2.2.1 q.2.2.2 := by
  intro q hq
  have h1 := List.all_eq_true.mp h q hq
  cases hc : cl[q.2.2.1]? with
  | none => rw [hc] at h1; cases h1
  | some r =>
    rw [hc] at h1
    obtain ⟨C, T, N⟩ := r
    simp only [Bool.and_eq_true, Bool.or_eq_true, decide_eq_true_eq] at h1
    refine ⟨C, T, N, hc, h1.1, ?_⟩
    rcases h1.2 with h2 | h2
    · exact Or.inl (hin _ h2)
    · exact Or.inr ⟨hn, h2⟩
theorem pv_okK {cn : Nat → String} {ML : List (Nat × Nat × Nat)} {Ts Wk Wa NW : List Cond} {mt : Nat → Option pv_M} {hn : String} (hin : ∀ w ∈ Wk, w ∈ Ts) (hia : ∀ w ∈ Wa, w ∈ Ts) (h : ML.all (fun q => (!(q.2.2 == 999) || (decide (Cond.methodLink (cn q.1) q.2.1 arraycopyName ∈ Wk) && (decide (Cond.native arraycopyName ∈ Wa) && (decide (Cond.static arraycopyName ∈ Wa) && decide (Cond.initialized "java/lang/System" ∈ Wa))))) && ((!(q.2.2 == 998) || (decide (Cond.methodLink (cn q.1) q.2.1 Lib.Math.min.name ∈ Wk) && (decide (Cond.static Lib.Math.min.name ∈ Wa) && (decide (Cond.initialized "java/lang/Math" ∈ Wa) && decide (Cond.code Lib.Math.min.name Lib.Math.min.code 2 (some .int) ∈ Wa))))) && (match mt q.2.2 with
    | some x => decide (Cond.methodLink (cn q.1) q.2.1 x.1 ∈ Wk) || decide (Cond.methodLinkNest (cn q.1) q.2.1 x.1 hn ∈ NW)
    | none => true))) = true) : ∀ q ∈ ML, (q.2.2 = 999 → Cond.methodLink (cn q.1) q.2.1 arraycopyName ∈ Ts ∧ Cond.native arraycopyName ∈ Ts ∧ Cond.static arraycopyName ∈ Ts ∧ Cond.initialized "java/lang/System" ∈ Ts) ∧ (q.2.2 = 998 → Cond.methodLink (cn q.1) q.2.1 Lib.Math.min.name ∈ Ts ∧ Cond.static Lib.Math.min.name ∈ Ts ∧ Cond.initialized "java/lang/Math" ∈ Ts ∧ Cond.code Lib.Math.min.name Lib.Math.min.code 2 (some .int) ∈ Ts) ∧ ∀ x, mt q.2.2 = some x → pv_ml Ts NW (cn q.1) q.2.1 x.1 := by
  intro q hq
  have h1 := List.all_eq_true.mp h q hq
  rw [Bool.and_eq_true, Bool.and_eq_true] at h1
  obtain ⟨h1, h8, h2⟩ := h1
  refine ⟨fun h9 => ?_, fun h9 => ?_, fun x hx => ?_⟩
  · rw [h9] at h1
    simp only [beq_self_eq_true, Bool.not_true, Bool.false_or, Bool.and_eq_true, decide_eq_true_eq] at h1
    exact ⟨hin _ h1.1, hia _ h1.2.1, hia _ h1.2.2.1, hia _ h1.2.2.2⟩
  · rw [h9] at h8
    simp only [beq_self_eq_true, Bool.not_true, Bool.false_or, Bool.and_eq_true, decide_eq_true_eq] at h8
    exact ⟨hin _ h8.1, hia _ h8.2.1, hia _ h8.2.2.1, hia _ h8.2.2.2⟩
  · rw [hx] at h2
    simp only [Bool.or_eq_true, decide_eq_true_eq] at h2
    rcases h2 with h2 | h2
    · exact Or.inl (hin _ h2)
    · exact Or.inr ⟨hn, h2⟩
theorem pv_okV {cn : Nat → String} {CL : List (Nat × Nat × Value)} {Ts Wv : List Cond} (hin : ∀ w ∈ Wv, w ∈ Ts) (h : CL.all (fun q => match q.2.2 with
    | .int x => decide (Cond.constant (cn q.1) q.2.1 x ∈ Wv)
    | .long x => decide (Cond.constantLong (cn q.1) q.2.1 x ∈ Wv)
    | _ => true) = true) : ∀ q ∈ CL, (∀ x, q.2.2 = .int x → Cond.constant (cn q.1) q.2.1 x ∈ Ts) ∧ (∀ x, q.2.2 = .long x → Cond.constantLong (cn q.1) q.2.1 x ∈ Ts) := by
  intro q hq
  have h1 := List.all_eq_true.mp h q hq
  refine ⟨fun x hx => ?_, fun x hx => ?_⟩ <;> (rw [hx] at h1; exact hin _ (of_decide_eq_true h1))
theorem pv_at_none {α : Type} {l : List α} {n : Nat} (h : l.length ≤ n) : pv_at l n = none := by rw [pv_at_eq]; simp [h]
theorem pv_okA {cl : List vw_C} {mas : List (Bool × Nat × Nat)} {mt : Nat → Option pv_M} (h : (List.range mas.length).all (fun j => match pv_at mas j, mt j with
    | some r, some x => decide (x.2.2.2.2.1 = r.1 ∧ x.2.2.2.2.2.1 = r.2.1) && (r.1 || decide ((cl[r.2.2]?).map (fun z => z.1) = some x.1.cls))
    | _, _ => false) = true) : ∀ j st na ci, pv_at mas j = some (st, na, ci) → ∃ x, mt j = some x ∧ (x.2.2.2.2.1 = st ∧ x.2.2.2.2.2.1 = na) ∧ (st = false → ∃ T N, cl[ci]? = some (x.1.cls, T, N)) := by
  intro j st na ci hj
  have hlt : j < mas.length := by
    rcases Nat.lt_or_ge j mas.length with q | q
    · exact q
    · rw [pv_at_none q] at hj; cases hj
  have h1 := List.all_eq_true.mp h j (List.mem_range.mpr hlt)
  rw [hj] at h1
  cases hm : mt j with
  | none => rw [hm] at h1; cases h1
  | some x =>
    rw [hm] at h1
    simp only [Bool.and_eq_true, Bool.or_eq_true, decide_eq_true_eq] at h1
    refine ⟨x, rfl, h1.1, fun hst => ?_⟩
    rcases h1.2 with h2 | h2
    · rw [hst] at h2; cases h2
    · cases hc : cl[ci]? with
      | none => rw [hc] at h2; cases h2
      | some z =>
        rw [hc] at h2
        obtain ⟨C, T, N⟩ := z
        exact ⟨T, N, by rw [← Option.some.inj h2]⟩
end
section
-- ===== PART A: goes FIRST, ahead of the names: the tables' words, and 'selects' of the private methods out of them =====
/-- a private method of a class that the tables say can be made, by its rows of tables_1 -/
def lw_okq (q : MethodName × Nat) : Prop := (q.1.cls ≠ "java/lang/invoke/MethodHandle" ∧ q.1.cls ≠ "java/lang/invoke/VarHandle") ∧ Cond.instantiable q.1.cls q.2 ∈ tables_1 ∧ Cond.privateMethod q.1 ∈ tables_1 ∧ Cond.instanceMethod q.1 ∈ tables_1
theorem lw_p0 : lw_okq (⟨"AssignFlow$Walks", "walkUnit", "()V"⟩, 7) := ⟨⟨by decide +kernel, by decide +kernel⟩, List.mem_of_getElem? (i := 220) (by decide +kernel), List.mem_of_getElem? (i := 274) (by decide +kernel), List.mem_of_getElem? (i := 275) (by decide +kernel)⟩
theorem lw_p1 : lw_okq (⟨"AssignFlow$Places", "hasFinally", "(I)Z"⟩, 16) := ⟨⟨by decide +kernel, by decide +kernel⟩, List.mem_of_getElem? (i := 62) (by decide +kernel), List.mem_of_getElem? (i := 278) (by decide +kernel), List.mem_of_getElem? (i := 279) (by decide +kernel)⟩
theorem lw_p2 : lw_okq (⟨"AssignFlow$Places", "has", "(I)Z"⟩, 16) := ⟨⟨by decide +kernel, by decide +kernel⟩, List.mem_of_getElem? (i := 62) (by decide +kernel), List.mem_of_getElem? (i := 282) (by decide +kernel), List.mem_of_getElem? (i := 283) (by decide +kernel)⟩
theorem lw_p3 : lw_okq (⟨"AssignFlow$Walks", "walk", "(IIJ)J"⟩, 7) := ⟨⟨by decide +kernel, by decide +kernel⟩, List.mem_of_getElem? (i := 220) (by decide +kernel), List.mem_of_getElem? (i := 287) (by decide +kernel), List.mem_of_getElem? (i := 288) (by decide +kernel)⟩
theorem lw_p4 : lw_okq (⟨"AssignFlow$Walks", "flow", "(IJ)V"⟩, 7) := ⟨⟨by decide +kernel, by decide +kernel⟩, List.mem_of_getElem? (i := 220) (by decide +kernel), List.mem_of_getElem? (i := 292) (by decide +kernel), List.mem_of_getElem? (i := 293) (by decide +kernel)⟩
theorem lw_p5 : lw_okq (⟨"AssignFlow$Walks", "sweep", "(II)V"⟩, 7) := ⟨⟨by decide +kernel, by decide +kernel⟩, List.mem_of_getElem? (i := 220) (by decide +kernel), List.mem_of_getElem? (i := 297) (by decide +kernel), List.mem_of_getElem? (i := 298) (by decide +kernel)⟩
theorem lw_p6 : lw_okq (⟨"AssignFlow$Walks", "begin", "(I)V"⟩, 7) := ⟨⟨by decide +kernel, by decide +kernel⟩, List.mem_of_getElem? (i := 220) (by decide +kernel), List.mem_of_getElem? (i := 301) (by decide +kernel), List.mem_of_getElem? (i := 302) (by decide +kernel)⟩
theorem lw_p7 : lw_okq (⟨"AssignFlow$Walks", "leave", "(IJIZ)J"⟩, 7) := ⟨⟨by decide +kernel, by decide +kernel⟩, List.mem_of_getElem? (i := 220) (by decide +kernel), List.mem_of_getElem? (i := 305) (by decide +kernel), List.mem_of_getElem? (i := 306) (by decide +kernel)⟩
theorem lw_p8 : lw_okq (⟨"AssignFlow$Walks", "passOn", "(I)V"⟩, 7) := ⟨⟨by decide +kernel, by decide +kernel⟩, List.mem_of_getElem? (i := 220) (by decide +kernel), List.mem_of_getElem? (i := 322) (by decide +kernel), List.mem_of_getElem? (i := 323) (by decide +kernel)⟩
theorem lw_p9 : lw_okq (⟨"AssignFlow$Walks", "passInner", "(I)V"⟩, 7) := ⟨⟨by decide +kernel, by decide +kernel⟩, List.mem_of_getElem? (i := 220) (by decide +kernel), List.mem_of_getElem? (i := 326) (by decide +kernel), List.mem_of_getElem? (i := 327) (by decide +kernel)⟩
theorem lw_p10 : lw_okq (⟨"AssignFlow$Walks", "passAssigned", "(II)V"⟩, 7) := ⟨⟨by decide +kernel, by decide +kernel⟩, List.mem_of_getElem? (i := 220) (by decide +kernel), List.mem_of_getElem? (i := 330) (by decide +kernel), List.mem_of_getElem? (i := 331) (by decide +kernel)⟩
theorem lw_p11 : lw_okq (⟨"AssignFlow$Reader", "readUnit", "(I)Z"⟩, 10) := ⟨⟨by decide +kernel, by decide +kernel⟩, List.mem_of_getElem? (i := 152) (by decide +kernel), List.mem_of_getElem? (i := 379) (by decide +kernel), List.mem_of_getElem? (i := 380) (by decide +kernel)⟩
theorem lw_p12 : lw_okq (⟨"AssignFlow$Places", "clear", "()V"⟩, 16) := ⟨⟨by decide +kernel, by decide +kernel⟩, List.mem_of_getElem? (i := 62) (by decide +kernel), List.mem_of_getElem? (i := 386) (by decide +kernel), List.mem_of_getElem? (i := 387) (by decide +kernel)⟩
theorem lw_p13 : lw_okq (⟨"AssignFlow$Variables", "clear", "()V"⟩, 7) := ⟨⟨by decide +kernel, by decide +kernel⟩, List.mem_of_getElem? (i := 21) (by decide +kernel), List.mem_of_getElem? (i := 390) (by decide +kernel), List.mem_of_getElem? (i := 391) (by decide +kernel)⟩
theorem lw_p14 : lw_okq (⟨"AssignFlow$Reader", "sign", "()I"⟩, 10) := ⟨⟨by decide +kernel, by decide +kernel⟩, List.mem_of_getElem? (i := 152) (by decide +kernel), List.mem_of_getElem? (i := 394) (by decide +kernel), List.mem_of_getElem? (i := 395) (by decide +kernel)⟩
theorem lw_p15 : lw_okq (⟨"AssignFlow$Reader", "statement", "(I)Z"⟩, 10) := ⟨⟨by decide +kernel, by decide +kernel⟩, List.mem_of_getElem? (i := 152) (by decide +kernel), List.mem_of_getElem? (i := 398) (by decide +kernel), List.mem_of_getElem? (i := 399) (by decide +kernel)⟩
def lw_privs_1 : List (MethodName × Nat) := [(⟨"AssignFlow$Walks", "walkUnit", "()V"⟩, 7), (⟨"AssignFlow$Places", "hasFinally", "(I)Z"⟩, 16), (⟨"AssignFlow$Places", "has", "(I)Z"⟩, 16), (⟨"AssignFlow$Walks", "walk", "(IIJ)J"⟩, 7), (⟨"AssignFlow$Walks", "flow", "(IJ)V"⟩, 7), (⟨"AssignFlow$Walks", "sweep", "(II)V"⟩, 7), (⟨"AssignFlow$Walks", "begin", "(I)V"⟩, 7), (⟨"AssignFlow$Walks", "leave", "(IJIZ)J"⟩, 7), (⟨"AssignFlow$Walks", "passOn", "(I)V"⟩, 7), (⟨"AssignFlow$Walks", "passInner", "(I)V"⟩, 7), (⟨"AssignFlow$Walks", "passAssigned", "(II)V"⟩, 7), (⟨"AssignFlow$Reader", "readUnit", "(I)Z"⟩, 10), (⟨"AssignFlow$Places", "clear", "()V"⟩, 16), (⟨"AssignFlow$Variables", "clear", "()V"⟩, 7), (⟨"AssignFlow$Reader", "sign", "()I"⟩, 10), (⟨"AssignFlow$Reader", "statement", "(I)Z"⟩, 10)]
theorem lw_r1 : ∀ q ∈ lw_privs_1, lw_okq q := List.forall_mem_cons.mpr ⟨lw_p0, List.forall_mem_cons.mpr ⟨lw_p1, List.forall_mem_cons.mpr ⟨lw_p2, List.forall_mem_cons.mpr ⟨lw_p3, List.forall_mem_cons.mpr ⟨lw_p4, List.forall_mem_cons.mpr ⟨lw_p5, List.forall_mem_cons.mpr ⟨lw_p6, List.forall_mem_cons.mpr ⟨lw_p7, List.forall_mem_cons.mpr ⟨lw_p8, List.forall_mem_cons.mpr ⟨lw_p9, List.forall_mem_cons.mpr ⟨lw_p10, List.forall_mem_cons.mpr ⟨lw_p11, List.forall_mem_cons.mpr ⟨lw_p12, List.forall_mem_cons.mpr ⟨lw_p13, List.forall_mem_cons.mpr ⟨lw_p14, List.forall_mem_cons.mpr ⟨lw_p15, fun _ h => absurd h List.not_mem_nil⟩⟩⟩⟩⟩⟩⟩⟩⟩⟩⟩⟩⟩⟩⟩⟩
theorem lw_p16 : lw_okq (⟨"AssignFlow$Reader", "isRefused", "(II)Z"⟩, 10) := ⟨⟨by decide +kernel, by decide +kernel⟩, List.mem_of_getElem? (i := 152) (by decide +kernel), List.mem_of_getElem? (i := 402) (by decide +kernel), List.mem_of_getElem? (i := 403) (by decide +kernel)⟩
theorem lw_p17 : lw_okq (⟨"AssignFlow$Variables", "isFull", "()Z"⟩, 7) := ⟨⟨by decide +kernel, by decide +kernel⟩, List.mem_of_getElem? (i := 21) (by decide +kernel), List.mem_of_getElem? (i := 406) (by decide +kernel), List.mem_of_getElem? (i := 407) (by decide +kernel)⟩
theorem lw_p18 : lw_okq (⟨"AssignFlow$Reader", "depthOfLabel", "(II)I"⟩, 10) := ⟨⟨by decide +kernel, by decide +kernel⟩, List.mem_of_getElem? (i := 152) (by decide +kernel), List.mem_of_getElem? (i := 413) (by decide +kernel), List.mem_of_getElem? (i := 414) (by decide +kernel)⟩
theorem lw_p19 : lw_okq (⟨"AssignFlow$Reader", "fail", "()Z"⟩, 10) := ⟨⟨by decide +kernel, by decide +kernel⟩, List.mem_of_getElem? (i := 152) (by decide +kernel), List.mem_of_getElem? (i := 417) (by decide +kernel), List.mem_of_getElem? (i := 418) (by decide +kernel)⟩
theorem lw_p20 : lw_okq (⟨"AssignFlow$Reader", "append", "(II)Z"⟩, 10) := ⟨⟨by decide +kernel, by decide +kernel⟩, List.mem_of_getElem? (i := 152) (by decide +kernel), List.mem_of_getElem? (i := 427) (by decide +kernel), List.mem_of_getElem? (i := 428) (by decide +kernel)⟩
theorem lw_p21 : lw_okq (⟨"AssignFlow$Places", "append", "(IIII)Z"⟩, 16) := ⟨⟨by decide +kernel, by decide +kernel⟩, List.mem_of_getElem? (i := 62) (by decide +kernel), List.mem_of_getElem? (i := 431) (by decide +kernel), List.mem_of_getElem? (i := 432) (by decide +kernel)⟩
theorem lw_p22 : lw_okq (⟨"AssignFlow$Reader", "statementRest", "(III)Z"⟩, 10) := ⟨⟨by decide +kernel, by decide +kernel⟩, List.mem_of_getElem? (i := 152) (by decide +kernel), List.mem_of_getElem? (i := 435) (by decide +kernel), List.mem_of_getElem? (i := 436) (by decide +kernel)⟩
theorem lw_p23 : lw_okq (⟨"AssignFlow$Reader", "given", "(II)Z"⟩, 10) := ⟨⟨by decide +kernel, by decide +kernel⟩, List.mem_of_getElem? (i := 152) (by decide +kernel), List.mem_of_getElem? (i := 439) (by decide +kernel), List.mem_of_getElem? (i := 440) (by decide +kernel)⟩
theorem lw_p24 : lw_okq (⟨"AssignFlow$Variables", "find", "(II)I"⟩, 7) := ⟨⟨by decide +kernel, by decide +kernel⟩, List.mem_of_getElem? (i := 21) (by decide +kernel), List.mem_of_getElem? (i := 444) (by decide +kernel), List.mem_of_getElem? (i := 445) (by decide +kernel)⟩
theorem lw_p25 : lw_okq (⟨"AssignFlow$Variables", "give", "(IZI)I"⟩, 7) := ⟨⟨by decide +kernel, by decide +kernel⟩, List.mem_of_getElem? (i := 21) (by decide +kernel), List.mem_of_getElem? (i := 448) (by decide +kernel), List.mem_of_getElem? (i := 449) (by decide +kernel)⟩
theorem lw_p26 : lw_okq (⟨"AssignFlow$Reader", "expect", "(I)Z"⟩, 10) := ⟨⟨by decide +kernel, by decide +kernel⟩, List.mem_of_getElem? (i := 152) (by decide +kernel), List.mem_of_getElem? (i := 454) (by decide +kernel), List.mem_of_getElem? (i := 455) (by decide +kernel)⟩
theorem lw_p27 : lw_okq (⟨"AssignFlow$Reader", "block", "(I)Z"⟩, 10) := ⟨⟨by decide +kernel, by decide +kernel⟩, List.mem_of_getElem? (i := 152) (by decide +kernel), List.mem_of_getElem? (i := 458) (by decide +kernel), List.mem_of_getElem? (i := 459) (by decide +kernel)⟩
theorem lw_p28 : lw_okq (⟨"AssignFlow$Reader", "body", "(I)Z"⟩, 10) := ⟨⟨by decide +kernel, by decide +kernel⟩, List.mem_of_getElem? (i := 152) (by decide +kernel), List.mem_of_getElem? (i := 462) (by decide +kernel), List.mem_of_getElem? (i := 463) (by decide +kernel)⟩
theorem lw_p29 : lw_okq (⟨"AssignFlow$Reader", "condition", "()Z"⟩, 10) := ⟨⟨by decide +kernel, by decide +kernel⟩, List.mem_of_getElem? (i := 152) (by decide +kernel), List.mem_of_getElem? (i := 466) (by decide +kernel), List.mem_of_getElem? (i := 467) (by decide +kernel)⟩
theorem lw_p30 : lw_okq (⟨"AssignFlow$Reader", "expression", "(I)Z"⟩, 10) := ⟨⟨by decide +kernel, by decide +kernel⟩, List.mem_of_getElem? (i := 152) (by decide +kernel), List.mem_of_getElem? (i := 470) (by decide +kernel), List.mem_of_getElem? (i := 471) (by decide +kernel)⟩
theorem lw_p31 : lw_okq (⟨"AssignFlow$Reader", "signBehindNext", "()I"⟩, 10) := ⟨⟨by decide +kernel, by decide +kernel⟩, List.mem_of_getElem? (i := 152) (by decide +kernel), List.mem_of_getElem? (i := 474) (by decide +kernel), List.mem_of_getElem? (i := 475) (by decide +kernel)⟩
def lw_privs_2 : List (MethodName × Nat) := [(⟨"AssignFlow$Reader", "isRefused", "(II)Z"⟩, 10), (⟨"AssignFlow$Variables", "isFull", "()Z"⟩, 7), (⟨"AssignFlow$Reader", "depthOfLabel", "(II)I"⟩, 10), (⟨"AssignFlow$Reader", "fail", "()Z"⟩, 10), (⟨"AssignFlow$Reader", "append", "(II)Z"⟩, 10), (⟨"AssignFlow$Places", "append", "(IIII)Z"⟩, 16), (⟨"AssignFlow$Reader", "statementRest", "(III)Z"⟩, 10), (⟨"AssignFlow$Reader", "given", "(II)Z"⟩, 10), (⟨"AssignFlow$Variables", "find", "(II)I"⟩, 7), (⟨"AssignFlow$Variables", "give", "(IZI)I"⟩, 7), (⟨"AssignFlow$Reader", "expect", "(I)Z"⟩, 10), (⟨"AssignFlow$Reader", "block", "(I)Z"⟩, 10), (⟨"AssignFlow$Reader", "body", "(I)Z"⟩, 10), (⟨"AssignFlow$Reader", "condition", "()Z"⟩, 10), (⟨"AssignFlow$Reader", "expression", "(I)Z"⟩, 10), (⟨"AssignFlow$Reader", "signBehindNext", "()I"⟩, 10)]
theorem lw_r2 : ∀ q ∈ lw_privs_2, lw_okq q := List.forall_mem_cons.mpr ⟨lw_p16, List.forall_mem_cons.mpr ⟨lw_p17, List.forall_mem_cons.mpr ⟨lw_p18, List.forall_mem_cons.mpr ⟨lw_p19, List.forall_mem_cons.mpr ⟨lw_p20, List.forall_mem_cons.mpr ⟨lw_p21, List.forall_mem_cons.mpr ⟨lw_p22, List.forall_mem_cons.mpr ⟨lw_p23, List.forall_mem_cons.mpr ⟨lw_p24, List.forall_mem_cons.mpr ⟨lw_p25, List.forall_mem_cons.mpr ⟨lw_p26, List.forall_mem_cons.mpr ⟨lw_p27, List.forall_mem_cons.mpr ⟨lw_p28, List.forall_mem_cons.mpr ⟨lw_p29, List.forall_mem_cons.mpr ⟨lw_p30, List.forall_mem_cons.mpr ⟨lw_p31, fun _ h => absurd h List.not_mem_nil⟩⟩⟩⟩⟩⟩⟩⟩⟩⟩⟩⟩⟩⟩⟩⟩
theorem lw_p32 : lw_okq (⟨"AssignFlow$Reader", "conditional", "(I)Z"⟩, 10) := ⟨⟨by decide +kernel, by decide +kernel⟩, List.mem_of_getElem? (i := 152) (by decide +kernel), List.mem_of_getElem? (i := 478) (by decide +kernel), List.mem_of_getElem? (i := 479) (by decide +kernel)⟩
theorem lw_p33 : lw_okq (⟨"AssignFlow$Reader", "alternatives", "(I)Z"⟩, 10) := ⟨⟨by decide +kernel, by decide +kernel⟩, List.mem_of_getElem? (i := 152) (by decide +kernel), List.mem_of_getElem? (i := 482) (by decide +kernel), List.mem_of_getElem? (i := 483) (by decide +kernel)⟩
theorem lw_p34 : lw_okq (⟨"AssignFlow$Reader", "conjunction", "(I)Z"⟩, 10) := ⟨⟨by decide +kernel, by decide +kernel⟩, List.mem_of_getElem? (i := 152) (by decide +kernel), List.mem_of_getElem? (i := 486) (by decide +kernel), List.mem_of_getElem? (i := 487) (by decide +kernel)⟩
theorem lw_p35 : lw_okq (⟨"AssignFlow$Reader", "unary", "(I)Z"⟩, 10) := ⟨⟨by decide +kernel, by decide +kernel⟩, List.mem_of_getElem? (i := 152) (by decide +kernel), List.mem_of_getElem? (i := 490) (by decide +kernel), List.mem_of_getElem? (i := 491) (by decide +kernel)⟩
theorem lw_p36 : lw_okq (⟨"AssignFlow$Reader", "leaf", "(I)Z"⟩, 10) := ⟨⟨by decide +kernel, by decide +kernel⟩, List.mem_of_getElem? (i := 152) (by decide +kernel), List.mem_of_getElem? (i := 494) (by decide +kernel), List.mem_of_getElem? (i := 495) (by decide +kernel)⟩
theorem lw_p37 : lw_okq (⟨"AssignFlow$Places", "close", "(I)V"⟩, 16) := ⟨⟨by decide +kernel, by decide +kernel⟩, List.mem_of_getElem? (i := 62) (by decide +kernel), List.mem_of_getElem? (i := 498) (by decide +kernel), List.mem_of_getElem? (i := 499) (by decide +kernel)⟩
theorem lw_p38 : lw_okq (⟨"AssignFlow$Reader", "operator", "(II)Z"⟩, 10) := ⟨⟨by decide +kernel, by decide +kernel⟩, List.mem_of_getElem? (i := 152) (by decide +kernel), List.mem_of_getElem? (i := 502) (by decide +kernel), List.mem_of_getElem? (i := 503) (by decide +kernel)⟩
theorem lw_p39 : lw_okq (⟨"AssignFlow$Places", "wrapFrom", "(II)Z"⟩, 16) := ⟨⟨by decide +kernel, by decide +kernel⟩, List.mem_of_getElem? (i := 62) (by decide +kernel), List.mem_of_getElem? (i := 506) (by decide +kernel), List.mem_of_getElem? (i := 507) (by decide +kernel)⟩
theorem lw_p40 : lw_okq (⟨"AssignFlow$Reader", "items", "(II)Z"⟩, 10) := ⟨⟨by decide +kernel, by decide +kernel⟩, List.mem_of_getElem? (i := 152) (by decide +kernel), List.mem_of_getElem? (i := 514) (by decide +kernel), List.mem_of_getElem? (i := 515) (by decide +kernel)⟩
theorem lw_p41 : lw_okq (⟨"AssignFlow$Reader", "enter", "(IZ)V"⟩, 10) := ⟨⟨by decide +kernel, by decide +kernel⟩, List.mem_of_getElem? (i := 152) (by decide +kernel), List.mem_of_getElem? (i := 518) (by decide +kernel), List.mem_of_getElem? (i := 519) (by decide +kernel)⟩
theorem lw_p42 : lw_okq (⟨"AssignFlow$Reader", "skip", "(IZ)V"⟩, 10) := ⟨⟨by decide +kernel, by decide +kernel⟩, List.mem_of_getElem? (i := 152) (by decide +kernel), List.mem_of_getElem? (i := 522) (by decide +kernel), List.mem_of_getElem? (i := 523) (by decide +kernel)⟩
theorem lw_p43 : lw_okq (⟨"AssignFlow$Reader", "tryParts", "(II)Z"⟩, 10) := ⟨⟨by decide +kernel, by decide +kernel⟩, List.mem_of_getElem? (i := 152) (by decide +kernel), List.mem_of_getElem? (i := 526) (by decide +kernel), List.mem_of_getElem? (i := 527) (by decide +kernel)⟩
theorem lw_p44 : lw_okq (⟨"AssignFlow$Reader", "jump", "(III)Z"⟩, 10) := ⟨⟨by decide +kernel, by decide +kernel⟩, List.mem_of_getElem? (i := 152) (by decide +kernel), List.mem_of_getElem? (i := 530) (by decide +kernel), List.mem_of_getElem? (i := 531) (by decide +kernel)⟩
theorem lw_p45 : lw_okq (⟨"AssignFlow$Reader", "labelledTarget", "(III)I"⟩, 10) := ⟨⟨by decide +kernel, by decide +kernel⟩, List.mem_of_getElem? (i := 152) (by decide +kernel), List.mem_of_getElem? (i := 534) (by decide +kernel), List.mem_of_getElem? (i := 535) (by decide +kernel)⟩
theorem lw_p46 : lw_okq (⟨"AssignFlow$Reader", "nearestTarget", "(II)I"⟩, 10) := ⟨⟨by decide +kernel, by decide +kernel⟩, List.mem_of_getElem? (i := 152) (by decide +kernel), List.mem_of_getElem? (i := 541) (by decide +kernel), List.mem_of_getElem? (i := 542) (by decide +kernel)⟩
theorem lw_p47 : lw_okq (⟨"AssignFlow$Places", "link", "()V"⟩, 16) := ⟨⟨by decide +kernel, by decide +kernel⟩, List.mem_of_getElem? (i := 62) (by decide +kernel), List.mem_of_getElem? (i := 547) (by decide +kernel), List.mem_of_getElem? (i := 548) (by decide +kernel)⟩
def lw_privs_3 : List (MethodName × Nat) := [(⟨"AssignFlow$Reader", "conditional", "(I)Z"⟩, 10), (⟨"AssignFlow$Reader", "alternatives", "(I)Z"⟩, 10), (⟨"AssignFlow$Reader", "conjunction", "(I)Z"⟩, 10), (⟨"AssignFlow$Reader", "unary", "(I)Z"⟩, 10), (⟨"AssignFlow$Reader", "leaf", "(I)Z"⟩, 10), (⟨"AssignFlow$Places", "close", "(I)V"⟩, 16), (⟨"AssignFlow$Reader", "operator", "(II)Z"⟩, 10), (⟨"AssignFlow$Places", "wrapFrom", "(II)Z"⟩, 16), (⟨"AssignFlow$Reader", "items", "(II)Z"⟩, 10), (⟨"AssignFlow$Reader", "enter", "(IZ)V"⟩, 10), (⟨"AssignFlow$Reader", "skip", "(IZ)V"⟩, 10), (⟨"AssignFlow$Reader", "tryParts", "(II)Z"⟩, 10), (⟨"AssignFlow$Reader", "jump", "(III)Z"⟩, 10), (⟨"AssignFlow$Reader", "labelledTarget", "(III)I"⟩, 10), (⟨"AssignFlow$Reader", "nearestTarget", "(II)I"⟩, 10), (⟨"AssignFlow$Places", "link", "()V"⟩, 16)]
theorem lw_r3 : ∀ q ∈ lw_privs_3, lw_okq q := List.forall_mem_cons.mpr ⟨lw_p32, List.forall_mem_cons.mpr ⟨lw_p33, List.forall_mem_cons.mpr ⟨lw_p34, List.forall_mem_cons.mpr ⟨lw_p35, List.forall_mem_cons.mpr ⟨lw_p36, List.forall_mem_cons.mpr ⟨lw_p37, List.forall_mem_cons.mpr ⟨lw_p38, List.forall_mem_cons.mpr ⟨lw_p39, List.forall_mem_cons.mpr ⟨lw_p40, List.forall_mem_cons.mpr ⟨lw_p41, List.forall_mem_cons.mpr ⟨lw_p42, List.forall_mem_cons.mpr ⟨lw_p43, List.forall_mem_cons.mpr ⟨lw_p44, List.forall_mem_cons.mpr ⟨lw_p45, List.forall_mem_cons.mpr ⟨lw_p46, List.forall_mem_cons.mpr ⟨lw_p47, fun _ h => absurd h List.not_mem_nil⟩⟩⟩⟩⟩⟩⟩⟩⟩⟩⟩⟩⟩⟩⟩⟩
theorem lw_p48 : lw_okq (⟨"AssignFlow$Places", "linkToTry", "(II)V"⟩, 16) := ⟨⟨by decide +kernel, by decide +kernel⟩, List.mem_of_getElem? (i := 62) (by decide +kernel), List.mem_of_getElem? (i := 551) (by decide +kernel), List.mem_of_getElem? (i := 552) (by decide +kernel)⟩
theorem lw_p49 : lw_okq (⟨"AssignFlow$Places", "hasCatch", "(I)Z"⟩, 16) := ⟨⟨by decide +kernel, by decide +kernel⟩, List.mem_of_getElem? (i := 62) (by decide +kernel), List.mem_of_getElem? (i := 556) (by decide +kernel), List.mem_of_getElem? (i := 557) (by decide +kernel)⟩
theorem lw_p50 : lw_okq (⟨"AssignFlow$Ways", "link", "()V"⟩, 6) := ⟨⟨by decide +kernel, by decide +kernel⟩, List.mem_of_getElem? (i := 190) (by decide +kernel), List.mem_of_getElem? (i := 560) (by decide +kernel), List.mem_of_getElem? (i := 561) (by decide +kernel)⟩
theorem lw_p51 : lw_okq (⟨"AssignFlow$Ways", "linkBegin", "(I)V"⟩, 6) := ⟨⟨by decide +kernel, by decide +kernel⟩, List.mem_of_getElem? (i := 190) (by decide +kernel), List.mem_of_getElem? (i := 564) (by decide +kernel), List.mem_of_getElem? (i := 565) (by decide +kernel)⟩
theorem lw_p52 : lw_okq (⟨"AssignFlow$Ways", "nextRound", "(I)I"⟩, 6) := ⟨⟨by decide +kernel, by decide +kernel⟩, List.mem_of_getElem? (i := 190) (by decide +kernel), List.mem_of_getElem? (i := 568) (by decide +kernel), List.mem_of_getElem? (i := 569) (by decide +kernel)⟩
theorem lw_p53 : lw_okq (⟨"AssignFlow$Places", "child", "(II)I"⟩, 16) := ⟨⟨by decide +kernel, by decide +kernel⟩, List.mem_of_getElem? (i := 62) (by decide +kernel), List.mem_of_getElem? (i := 573) (by decide +kernel), List.mem_of_getElem? (i := 574) (by decide +kernel)⟩
theorem lw_p54 : lw_okq (⟨"AssignFlow$Ways", "partOfTry", "(II)I"⟩, 6) := ⟨⟨by decide +kernel, by decide +kernel⟩, List.mem_of_getElem? (i := 190) (by decide +kernel), List.mem_of_getElem? (i := 580) (by decide +kernel), List.mem_of_getElem? (i := 581) (by decide +kernel)⟩
theorem lw_p55 : lw_okq (⟨"AssignFlow$Places", "firstIn", "(II)I"⟩, 16) := ⟨⟨by decide +kernel, by decide +kernel⟩, List.mem_of_getElem? (i := 62) (by decide +kernel), List.mem_of_getElem? (i := 584) (by decide +kernel), List.mem_of_getElem? (i := 585) (by decide +kernel)⟩
theorem lw_p56 : lw_okq (⟨"AssignFlow$Ways", "endOfTry", "(I)I"⟩, 6) := ⟨⟨by decide +kernel, by decide +kernel⟩, List.mem_of_getElem? (i := 190) (by decide +kernel), List.mem_of_getElem? (i := 588) (by decide +kernel), List.mem_of_getElem? (i := 589) (by decide +kernel)⟩
theorem lw_p57 : lw_okq (⟨"AssignFlow$Ways", "linkTry", "(I)V"⟩, 6) := ⟨⟨by decide +kernel, by decide +kernel⟩, List.mem_of_getElem? (i := 190) (by decide +kernel), List.mem_of_getElem? (i := 596) (by decide +kernel), List.mem_of_getElem? (i := 597) (by decide +kernel)⟩
theorem lw_p58 : lw_okq (⟨"AssignFlow$Ways", "linkEnds", "(I)V"⟩, 6) := ⟨⟨by decide +kernel, by decide +kernel⟩, List.mem_of_getElem? (i := 190) (by decide +kernel), List.mem_of_getElem? (i := 601) (by decide +kernel), List.mem_of_getElem? (i := 602) (by decide +kernel)⟩
theorem lw_p59 : lw_okq (⟨"AssignFlow$Places", "next", "(I)I"⟩, 16) := ⟨⟨by decide +kernel, by decide +kernel⟩, List.mem_of_getElem? (i := 62) (by decide +kernel), List.mem_of_getElem? (i := 605) (by decide +kernel), List.mem_of_getElem? (i := 606) (by decide +kernel)⟩
theorem lw_p60 : lw_okq (⟨"AssignFlow$Ways", "sendBoth", "(II)V"⟩, 6) := ⟨⟨by decide +kernel, by decide +kernel⟩, List.mem_of_getElem? (i := 190) (by decide +kernel), List.mem_of_getElem? (i := 609) (by decide +kernel), List.mem_of_getElem? (i := 610) (by decide +kernel)⟩
theorem lw_p61 : lw_okq (⟨"AssignFlow$Ways", "send", "(III)V"⟩, 6) := ⟨⟨by decide +kernel, by decide +kernel⟩, List.mem_of_getElem? (i := 190) (by decide +kernel), List.mem_of_getElem? (i := 613) (by decide +kernel), List.mem_of_getElem? (i := 614) (by decide +kernel)⟩
theorem lw_p62 : lw_okq (⟨"AssignFlow$Ways", "linkIf", "(II)V"⟩, 6) := ⟨⟨by decide +kernel, by decide +kernel⟩, List.mem_of_getElem? (i := 190) (by decide +kernel), List.mem_of_getElem? (i := 617) (by decide +kernel), List.mem_of_getElem? (i := 618) (by decide +kernel)⟩
theorem lw_p63 : lw_okq (⟨"AssignFlow$Ways", "linkLoop", "(II)V"⟩, 6) := ⟨⟨by decide +kernel, by decide +kernel⟩, List.mem_of_getElem? (i := 190) (by decide +kernel), List.mem_of_getElem? (i := 621) (by decide +kernel), List.mem_of_getElem? (i := 622) (by decide +kernel)⟩
def lw_privs_4 : List (MethodName × Nat) := [(⟨"AssignFlow$Places", "linkToTry", "(II)V"⟩, 16), (⟨"AssignFlow$Places", "hasCatch", "(I)Z"⟩, 16), (⟨"AssignFlow$Ways", "link", "()V"⟩, 6), (⟨"AssignFlow$Ways", "linkBegin", "(I)V"⟩, 6), (⟨"AssignFlow$Ways", "nextRound", "(I)I"⟩, 6), (⟨"AssignFlow$Places", "child", "(II)I"⟩, 16), (⟨"AssignFlow$Ways", "partOfTry", "(II)I"⟩, 6), (⟨"AssignFlow$Places", "firstIn", "(II)I"⟩, 16), (⟨"AssignFlow$Ways", "endOfTry", "(I)I"⟩, 6), (⟨"AssignFlow$Ways", "linkTry", "(I)V"⟩, 6), (⟨"AssignFlow$Ways", "linkEnds", "(I)V"⟩, 6), (⟨"AssignFlow$Places", "next", "(I)I"⟩, 16), (⟨"AssignFlow$Ways", "sendBoth", "(II)V"⟩, 6), (⟨"AssignFlow$Ways", "send", "(III)V"⟩, 6), (⟨"AssignFlow$Ways", "linkIf", "(II)V"⟩, 6), (⟨"AssignFlow$Ways", "linkLoop", "(II)V"⟩, 6)]
theorem lw_r4 : ∀ q ∈ lw_privs_4, lw_okq q := List.forall_mem_cons.mpr ⟨lw_p48, List.forall_mem_cons.mpr ⟨lw_p49, List.forall_mem_cons.mpr ⟨lw_p50, List.forall_mem_cons.mpr ⟨lw_p51, List.forall_mem_cons.mpr ⟨lw_p52, List.forall_mem_cons.mpr ⟨lw_p53, List.forall_mem_cons.mpr ⟨lw_p54, List.forall_mem_cons.mpr ⟨lw_p55, List.forall_mem_cons.mpr ⟨lw_p56, List.forall_mem_cons.mpr ⟨lw_p57, List.forall_mem_cons.mpr ⟨lw_p58, List.forall_mem_cons.mpr ⟨lw_p59, List.forall_mem_cons.mpr ⟨lw_p60, List.forall_mem_cons.mpr ⟨lw_p61, List.forall_mem_cons.mpr ⟨lw_p62, List.forall_mem_cons.mpr ⟨lw_p63, fun _ h => absurd h List.not_mem_nil⟩⟩⟩⟩⟩⟩⟩⟩⟩⟩⟩⟩⟩⟩⟩⟩
theorem lw_p64 : lw_okq (⟨"AssignFlow$Ways", "linkTryEnd", "(III)V"⟩, 6) := ⟨⟨by decide +kernel, by decide +kernel⟩, List.mem_of_getElem? (i := 190) (by decide +kernel), List.mem_of_getElem? (i := 625) (by decide +kernel), List.mem_of_getElem? (i := 626) (by decide +kernel)⟩
theorem lw_p65 : lw_okq (⟨"AssignFlow$Ways", "linkExpression", "(III)V"⟩, 6) := ⟨⟨by decide +kernel, by decide +kernel⟩, List.mem_of_getElem? (i := 190) (by decide +kernel), List.mem_of_getElem? (i := 629) (by decide +kernel), List.mem_of_getElem? (i := 630) (by decide +kernel)⟩
theorem lw_p66 : lw_okq (⟨"AssignFlow$Judge", "judgeAll", "()V"⟩, 5) := ⟨⟨by decide +kernel, by decide +kernel⟩, List.mem_of_getElem? (i := 250) (by decide +kernel), List.mem_of_getElem? (i := 633) (by decide +kernel), List.mem_of_getElem? (i := 634) (by decide +kernel)⟩
theorem lw_p67 : lw_okq (⟨"AssignFlow$Judge", "kindAt", "(I)I"⟩, 5) := ⟨⟨by decide +kernel, by decide +kernel⟩, List.mem_of_getElem? (i := 250) (by decide +kernel), List.mem_of_getElem? (i := 637) (by decide +kernel), List.mem_of_getElem? (i := 638) (by decide +kernel)⟩
theorem lw_p68 : lw_okq (⟨"AssignFlow$Walks", "stateAt", "(II)J"⟩, 7) := ⟨⟨by decide +kernel, by decide +kernel⟩, List.mem_of_getElem? (i := 220) (by decide +kernel), List.mem_of_getElem? (i := 643) (by decide +kernel), List.mem_of_getElem? (i := 644) (by decide +kernel)⟩
theorem lw_p69 : lw_okq (⟨"AssignFlow$Judge", "isUsedTooEarly", "(II)Z"⟩, 5) := ⟨⟨by decide +kernel, by decide +kernel⟩, List.mem_of_getElem? (i := 250) (by decide +kernel), List.mem_of_getElem? (i := 651) (by decide +kernel), List.mem_of_getElem? (i := 652) (by decide +kernel)⟩
theorem lw_p70 : lw_okq (⟨"AssignFlow$Variables", "has", "(I)Z"⟩, 7) := ⟨⟨by decide +kernel, by decide +kernel⟩, List.mem_of_getElem? (i := 21) (by decide +kernel), List.mem_of_getElem? (i := 658) (by decide +kernel), List.mem_of_getElem? (i := 659) (by decide +kernel)⟩
theorem lw_p71 : lw_okq (⟨"AssignFlow$Judge", "isAssignedTwice", "(II)Z"⟩, 5) := ⟨⟨by decide +kernel, by decide +kernel⟩, List.mem_of_getElem? (i := 250) (by decide +kernel), List.mem_of_getElem? (i := 662) (by decide +kernel), List.mem_of_getElem? (i := 663) (by decide +kernel)⟩
theorem lw_p72 : lw_okq (⟨"AssignFlow$Places", "thereAfter", "(I)I"⟩, 16) := ⟨⟨by decide +kernel, by decide +kernel⟩, List.mem_of_getElem? (i := 62) (by decide +kernel), List.mem_of_getElem? (i := 685) (by decide +kernel), List.mem_of_getElem? (i := 686) (by decide +kernel)⟩
theorem lw_p73 : lw_okq (⟨"AssignFlowModel", "clear", "()V"⟩, 62) := ⟨⟨by decide +kernel, by decide +kernel⟩, List.mem_of_getElem? (i := 706) (by decide +kernel), List.mem_of_getElem? (i := 713) (by decide +kernel), List.mem_of_getElem? (i := 714) (by decide +kernel)⟩
theorem lw_p74 : lw_okq (⟨"AssignFlowModel", "build", "()V"⟩, 62) := ⟨⟨by decide +kernel, by decide +kernel⟩, List.mem_of_getElem? (i := 706) (by decide +kernel), List.mem_of_getElem? (i := 717) (by decide +kernel), List.mem_of_getElem? (i := 718) (by decide +kernel)⟩
theorem lw_p75 : lw_okq (⟨"AssignFlowModel", "order", "()V"⟩, 62) := ⟨⟨by decide +kernel, by decide +kernel⟩, List.mem_of_getElem? (i := 706) (by decide +kernel), List.mem_of_getElem? (i := 721) (by decide +kernel), List.mem_of_getElem? (i := 722) (by decide +kernel)⟩
theorem lw_p76 : lw_okq (⟨"AssignFlowModel", "chain", "(IIII)V"⟩, 62) := ⟨⟨by decide +kernel, by decide +kernel⟩, List.mem_of_getElem? (i := 706) (by decide +kernel), List.mem_of_getElem? (i := 725) (by decide +kernel), List.mem_of_getElem? (i := 726) (by decide +kernel)⟩
theorem lw_p77 : lw_okq (⟨"AssignFlowModel", "go", "(II)V"⟩, 62) := ⟨⟨by decide +kernel, by decide +kernel⟩, List.mem_of_getElem? (i := 706) (by decide +kernel), List.mem_of_getElem? (i := 732) (by decide +kernel), List.mem_of_getElem? (i := 733) (by decide +kernel)⟩
theorem lw_p78 : lw_okq (⟨"AssignFlowModel", "edge", "(III)V"⟩, 62) := ⟨⟨by decide +kernel, by decide +kernel⟩, List.mem_of_getElem? (i := 706) (by decide +kernel), List.mem_of_getElem? (i := 736) (by decide +kernel), List.mem_of_getElem? (i := 737) (by decide +kernel)⟩
theorem lw_p79 : lw_okq (⟨"AssignFlowModel", "buildStmt", "(I)V"⟩, 62) := ⟨⟨by decide +kernel, by decide +kernel⟩, List.mem_of_getElem? (i := 706) (by decide +kernel), List.mem_of_getElem? (i := 740) (by decide +kernel), List.mem_of_getElem? (i := 741) (by decide +kernel)⟩
def lw_privs_5 : List (MethodName × Nat) := [(⟨"AssignFlow$Ways", "linkTryEnd", "(III)V"⟩, 6), (⟨"AssignFlow$Ways", "linkExpression", "(III)V"⟩, 6), (⟨"AssignFlow$Judge", "judgeAll", "()V"⟩, 5), (⟨"AssignFlow$Judge", "kindAt", "(I)I"⟩, 5), (⟨"AssignFlow$Walks", "stateAt", "(II)J"⟩, 7), (⟨"AssignFlow$Judge", "isUsedTooEarly", "(II)Z"⟩, 5), (⟨"AssignFlow$Variables", "has", "(I)Z"⟩, 7), (⟨"AssignFlow$Judge", "isAssignedTwice", "(II)Z"⟩, 5), (⟨"AssignFlow$Places", "thereAfter", "(I)I"⟩, 16), (⟨"AssignFlowModel", "clear", "()V"⟩, 62), (⟨"AssignFlowModel", "build", "()V"⟩, 62), (⟨"AssignFlowModel", "order", "()V"⟩, 62), (⟨"AssignFlowModel", "chain", "(IIII)V"⟩, 62), (⟨"AssignFlowModel", "go", "(II)V"⟩, 62), (⟨"AssignFlowModel", "edge", "(III)V"⟩, 62), (⟨"AssignFlowModel", "buildStmt", "(I)V"⟩, 62)]
theorem lw_r5 : ∀ q ∈ lw_privs_5, lw_okq q := List.forall_mem_cons.mpr ⟨lw_p64, List.forall_mem_cons.mpr ⟨lw_p65, List.forall_mem_cons.mpr ⟨lw_p66, List.forall_mem_cons.mpr ⟨lw_p67, List.forall_mem_cons.mpr ⟨lw_p68, List.forall_mem_cons.mpr ⟨lw_p69, List.forall_mem_cons.mpr ⟨lw_p70, List.forall_mem_cons.mpr ⟨lw_p71, List.forall_mem_cons.mpr ⟨lw_p72, List.forall_mem_cons.mpr ⟨lw_p73, List.forall_mem_cons.mpr ⟨lw_p74, List.forall_mem_cons.mpr ⟨lw_p75, List.forall_mem_cons.mpr ⟨lw_p76, List.forall_mem_cons.mpr ⟨lw_p77, List.forall_mem_cons.mpr ⟨lw_p78, List.forall_mem_cons.mpr ⟨lw_p79, fun _ h => absurd h List.not_mem_nil⟩⟩⟩⟩⟩⟩⟩⟩⟩⟩⟩⟩⟩⟩⟩⟩
theorem lw_p80 : lw_okq (⟨"AssignFlowModel", "child", "(IIZ)I"⟩, 62) := ⟨⟨by decide +kernel, by decide +kernel⟩, List.mem_of_getElem? (i := 706) (by decide +kernel), List.mem_of_getElem? (i := 744) (by decide +kernel), List.mem_of_getElem? (i := 745) (by decide +kernel)⟩
theorem lw_p81 : lw_okq (⟨"AssignFlowModel", "ends", "(III)V"⟩, 62) := ⟨⟨by decide +kernel, by decide +kernel⟩, List.mem_of_getElem? (i := 706) (by decide +kernel), List.mem_of_getElem? (i := 748) (by decide +kernel), List.mem_of_getElem? (i := 749) (by decide +kernel)⟩
theorem lw_p82 : lw_okq (⟨"AssignFlowModel", "buildCases", "(III)V"⟩, 62) := ⟨⟨by decide +kernel, by decide +kernel⟩, List.mem_of_getElem? (i := 706) (by decide +kernel), List.mem_of_getElem? (i := 752) (by decide +kernel), List.mem_of_getElem? (i := 753) (by decide +kernel)⟩
theorem lw_p83 : lw_okq (⟨"AssignFlowModel", "way", "(II)I"⟩, 62) := ⟨⟨by decide +kernel, by decide +kernel⟩, List.mem_of_getElem? (i := 706) (by decide +kernel), List.mem_of_getElem? (i := 756) (by decide +kernel), List.mem_of_getElem? (i := 757) (by decide +kernel)⟩
theorem lw_p84 : lw_okq (⟨"AssignFlowModel", "leave", "(II)I"⟩, 62) := ⟨⟨by decide +kernel, by decide +kernel⟩, List.mem_of_getElem? (i := 706) (by decide +kernel), List.mem_of_getElem? (i := 760) (by decide +kernel), List.mem_of_getElem? (i := 761) (by decide +kernel)⟩
theorem lw_p85 : lw_okq (⟨"AssignFlowModel", "buildE", "(I)V"⟩, 62) := ⟨⟨by decide +kernel, by decide +kernel⟩, List.mem_of_getElem? (i := 706) (by decide +kernel), List.mem_of_getElem? (i := 764) (by decide +kernel), List.mem_of_getElem? (i := 765) (by decide +kernel)⟩
theorem lw_p86 : lw_okq (⟨"AssignFlowModel", "isTried", "(I)Z"⟩, 62) := ⟨⟨by decide +kernel, by decide +kernel⟩, List.mem_of_getElem? (i := 706) (by decide +kernel), List.mem_of_getElem? (i := 768) (by decide +kernel), List.mem_of_getElem? (i := 769) (by decide +kernel)⟩
theorem lw_p87 : lw_okq (⟨"AssignFlowModel", "solve", "()V"⟩, 62) := ⟨⟨by decide +kernel, by decide +kernel⟩, List.mem_of_getElem? (i := 706) (by decide +kernel), List.mem_of_getElem? (i := 772) (by decide +kernel), List.mem_of_getElem? (i := 773) (by decide +kernel)⟩
theorem lw_p88 : lw_okq (⟨"AssignFlowModel", "come", "([BIII)V"⟩, 62) := ⟨⟨by decide +kernel, by decide +kernel⟩, List.mem_of_getElem? (i := 706) (by decide +kernel), List.mem_of_getElem? (i := 776) (by decide +kernel), List.mem_of_getElem? (i := 777) (by decide +kernel)⟩
theorem lw_p89 : lw_okq (⟨"AssignFlowModel", "walk", "(I[BII)V"⟩, 62) := ⟨⟨by decide +kernel, by decide +kernel⟩, List.mem_of_getElem? (i := 706) (by decide +kernel), List.mem_of_getElem? (i := 780) (by decide +kernel), List.mem_of_getElem? (i := 781) (by decide +kernel)⟩
theorem lw_p90 : lw_okq (⟨"AssignFlowModel", "isWithin", "(II)Z"⟩, 62) := ⟨⟨by decide +kernel, by decide +kernel⟩, List.mem_of_getElem? (i := 706) (by decide +kernel), List.mem_of_getElem? (i := 784) (by decide +kernel), List.mem_of_getElem? (i := 785) (by decide +kernel)⟩
theorem lw_p91 : lw_okq (⟨"AssignFlowModel", "parse", "(I)V"⟩, 62) := ⟨⟨by decide +kernel, by decide +kernel⟩, List.mem_of_getElem? (i := 706) (by decide +kernel), List.mem_of_getElem? (i := 992) (by decide +kernel), List.mem_of_getElem? (i := 993) (by decide +kernel)⟩
theorem lw_p92 : lw_okq (⟨"AssignFlowModel", "isRight", "()Z"⟩, 62) := ⟨⟨by decide +kernel, by decide +kernel⟩, List.mem_of_getElem? (i := 706) (by decide +kernel), List.mem_of_getElem? (i := 996) (by decide +kernel), List.mem_of_getElem? (i := 997) (by decide +kernel)⟩
theorem lw_p93 : lw_okq (⟨"AssignFlowModel", "step", "()V"⟩, 62) := ⟨⟨by decide +kernel, by decide +kernel⟩, List.mem_of_getElem? (i := 706) (by decide +kernel), List.mem_of_getElem? (i := 1000) (by decide +kernel), List.mem_of_getElem? (i := 1001) (by decide +kernel)⟩
theorem lw_p94 : lw_okq (⟨"AssignFlowModel", "readList", "(I)Z"⟩, 62) := ⟨⟨by decide +kernel, by decide +kernel⟩, List.mem_of_getElem? (i := 706) (by decide +kernel), List.mem_of_getElem? (i := 1004) (by decide +kernel), List.mem_of_getElem? (i := 1005) (by decide +kernel)⟩
theorem lw_p95 : lw_okq (⟨"AssignFlowModel", "here", "()I"⟩, 62) := ⟨⟨by decide +kernel, by decide +kernel⟩, List.mem_of_getElem? (i := 706) (by decide +kernel), List.mem_of_getElem? (i := 1008) (by decide +kernel), List.mem_of_getElem? (i := 1009) (by decide +kernel)⟩
def lw_privs_6 : List (MethodName × Nat) := [(⟨"AssignFlowModel", "child", "(IIZ)I"⟩, 62), (⟨"AssignFlowModel", "ends", "(III)V"⟩, 62), (⟨"AssignFlowModel", "buildCases", "(III)V"⟩, 62), (⟨"AssignFlowModel", "way", "(II)I"⟩, 62), (⟨"AssignFlowModel", "leave", "(II)I"⟩, 62), (⟨"AssignFlowModel", "buildE", "(I)V"⟩, 62), (⟨"AssignFlowModel", "isTried", "(I)Z"⟩, 62), (⟨"AssignFlowModel", "solve", "()V"⟩, 62), (⟨"AssignFlowModel", "come", "([BIII)V"⟩, 62), (⟨"AssignFlowModel", "walk", "(I[BII)V"⟩, 62), (⟨"AssignFlowModel", "isWithin", "(II)Z"⟩, 62), (⟨"AssignFlowModel", "parse", "(I)V"⟩, 62), (⟨"AssignFlowModel", "isRight", "()Z"⟩, 62), (⟨"AssignFlowModel", "step", "()V"⟩, 62), (⟨"AssignFlowModel", "readList", "(I)Z"⟩, 62), (⟨"AssignFlowModel", "here", "()I"⟩, 62)]
theorem lw_r6 : ∀ q ∈ lw_privs_6, lw_okq q := List.forall_mem_cons.mpr ⟨lw_p80, List.forall_mem_cons.mpr ⟨lw_p81, List.forall_mem_cons.mpr ⟨lw_p82, List.forall_mem_cons.mpr ⟨lw_p83, List.forall_mem_cons.mpr ⟨lw_p84, List.forall_mem_cons.mpr ⟨lw_p85, List.forall_mem_cons.mpr ⟨lw_p86, List.forall_mem_cons.mpr ⟨lw_p87, List.forall_mem_cons.mpr ⟨lw_p88, List.forall_mem_cons.mpr ⟨lw_p89, List.forall_mem_cons.mpr ⟨lw_p90, List.forall_mem_cons.mpr ⟨lw_p91, List.forall_mem_cons.mpr ⟨lw_p92, List.forall_mem_cons.mpr ⟨lw_p93, List.forall_mem_cons.mpr ⟨lw_p94, List.forall_mem_cons.mpr ⟨lw_p95, fun _ h => absurd h List.not_mem_nil⟩⟩⟩⟩⟩⟩⟩⟩⟩⟩⟩⟩⟩⟩⟩⟩
theorem lw_p96 : lw_okq (⟨"AssignFlowModel", "pass", "()V"⟩, 62) := ⟨⟨by decide +kernel, by decide +kernel⟩, List.mem_of_getElem? (i := 706) (by decide +kernel), List.mem_of_getElem? (i := 1012) (by decide +kernel), List.mem_of_getElem? (i := 1013) (by decide +kernel)⟩
theorem lw_p97 : lw_okq (⟨"AssignFlowModel", "close", "(I)V"⟩, 62) := ⟨⟨by decide +kernel, by decide +kernel⟩, List.mem_of_getElem? (i := 706) (by decide +kernel), List.mem_of_getElem? (i := 1016) (by decide +kernel), List.mem_of_getElem? (i := 1017) (by decide +kernel)⟩
theorem lw_p98 : lw_okq (⟨"AssignFlowModel", "readStmt", "(ZI)V"⟩, 62) := ⟨⟨by decide +kernel, by decide +kernel⟩, List.mem_of_getElem? (i := 706) (by decide +kernel), List.mem_of_getElem? (i := 1020) (by decide +kernel), List.mem_of_getElem? (i := 1021) (by decide +kernel)⟩
theorem lw_p99 : lw_okq (⟨"AssignFlowModel", "failHere", "()V"⟩, 62) := ⟨⟨by decide +kernel, by decide +kernel⟩, List.mem_of_getElem? (i := 706) (by decide +kernel), List.mem_of_getElem? (i := 1030) (by decide +kernel), List.mem_of_getElem? (i := 1031) (by decide +kernel)⟩
theorem lw_p100 : lw_okq (⟨"AssignFlowModel", "fail", "(I)V"⟩, 62) := ⟨⟨by decide +kernel, by decide +kernel⟩, List.mem_of_getElem? (i := 706) (by decide +kernel), List.mem_of_getElem? (i := 1034) (by decide +kernel), List.mem_of_getElem? (i := 1035) (by decide +kernel)⟩
theorem lw_p101 : lw_okq (⟨"AssignFlowModel", "node", "(IIZ)I"⟩, 62) := ⟨⟨by decide +kernel, by decide +kernel⟩, List.mem_of_getElem? (i := 706) (by decide +kernel), List.mem_of_getElem? (i := 1038) (by decide +kernel), List.mem_of_getElem? (i := 1039) (by decide +kernel)⟩
theorem lw_p102 : lw_okq (⟨"AssignFlowModel", "thereNow", "()I"⟩, 62) := ⟨⟨by decide +kernel, by decide +kernel⟩, List.mem_of_getElem? (i := 706) (by decide +kernel), List.mem_of_getElem? (i := 1042) (by decide +kernel), List.mem_of_getElem? (i := 1043) (by decide +kernel)⟩
theorem lw_p103 : lw_okq (⟨"AssignFlowModel", "readE", "(I)I"⟩, 62) := ⟨⟨by decide +kernel, by decide +kernel⟩, List.mem_of_getElem? (i := 706) (by decide +kernel), List.mem_of_getElem? (i := 1046) (by decide +kernel), List.mem_of_getElem? (i := 1047) (by decide +kernel)⟩
theorem lw_p104 : lw_okq (⟨"AssignFlowModel", "nest", "()V"⟩, 62) := ⟨⟨by decide +kernel, by decide +kernel⟩, List.mem_of_getElem? (i := 706) (by decide +kernel), List.mem_of_getElem? (i := 1050) (by decide +kernel), List.mem_of_getElem? (i := 1051) (by decide +kernel)⟩
theorem lw_p105 : lw_okq (⟨"AssignFlowModel", "readName", "(IZ)Z"⟩, 62) := ⟨⟨by decide +kernel, by decide +kernel⟩, List.mem_of_getElem? (i := 706) (by decide +kernel), List.mem_of_getElem? (i := 1054) (by decide +kernel), List.mem_of_getElem? (i := 1055) (by decide +kernel)⟩
theorem lw_p106 : lw_okq (⟨"AssignFlowModel", "push", "(II)V"⟩, 62) := ⟨⟨by decide +kernel, by decide +kernel⟩, List.mem_of_getElem? (i := 706) (by decide +kernel), List.mem_of_getElem? (i := 1058) (by decide +kernel), List.mem_of_getElem? (i := 1059) (by decide +kernel)⟩
theorem lw_p107 : lw_okq (⟨"AssignFlowModel", "readOperator", "(I)Z"⟩, 62) := ⟨⟨by decide +kernel, by decide +kernel⟩, List.mem_of_getElem? (i := 706) (by decide +kernel), List.mem_of_getElem? (i := 1062) (by decide +kernel), List.mem_of_getElem? (i := 1063) (by decide +kernel)⟩
theorem lw_p108 : lw_okq (⟨"AssignFlowModel", "reduceWhile", "(ZZZ)V"⟩, 62) := ⟨⟨by decide +kernel, by decide +kernel⟩, List.mem_of_getElem? (i := 706) (by decide +kernel), List.mem_of_getElem? (i := 1066) (by decide +kernel), List.mem_of_getElem? (i := 1067) (by decide +kernel)⟩
theorem lw_p109 : lw_okq (⟨"AssignFlowModel", "top", "()I"⟩, 62) := ⟨⟨by decide +kernel, by decide +kernel⟩, List.mem_of_getElem? (i := 706) (by decide +kernel), List.mem_of_getElem? (i := 1070) (by decide +kernel), List.mem_of_getElem? (i := 1071) (by decide +kernel)⟩
theorem lw_p110 : lw_okq (⟨"AssignFlowModel", "reduce", "()V"⟩, 62) := ⟨⟨by decide +kernel, by decide +kernel⟩, List.mem_of_getElem? (i := 706) (by decide +kernel), List.mem_of_getElem? (i := 1074) (by decide +kernel), List.mem_of_getElem? (i := 1075) (by decide +kernel)⟩
theorem lw_p111 : lw_okq (⟨"AssignFlowModel", "infix", "(I)I"⟩, 62) := ⟨⟨by decide +kernel, by decide +kernel⟩, List.mem_of_getElem? (i := 706) (by decide +kernel), List.mem_of_getElem? (i := 1078) (by decide +kernel), List.mem_of_getElem? (i := 1079) (by decide +kernel)⟩
def lw_privs_7 : List (MethodName × Nat) := [(⟨"AssignFlowModel", "pass", "()V"⟩, 62), (⟨"AssignFlowModel", "close", "(I)V"⟩, 62), (⟨"AssignFlowModel", "readStmt", "(ZI)V"⟩, 62), (⟨"AssignFlowModel", "failHere", "()V"⟩, 62), (⟨"AssignFlowModel", "fail", "(I)V"⟩, 62), (⟨"AssignFlowModel", "node", "(IIZ)I"⟩, 62), (⟨"AssignFlowModel", "thereNow", "()I"⟩, 62), (⟨"AssignFlowModel", "readE", "(I)I"⟩, 62), (⟨"AssignFlowModel", "nest", "()V"⟩, 62), (⟨"AssignFlowModel", "readName", "(IZ)Z"⟩, 62), (⟨"AssignFlowModel", "push", "(II)V"⟩, 62), (⟨"AssignFlowModel", "readOperator", "(I)Z"⟩, 62), (⟨"AssignFlowModel", "reduceWhile", "(ZZZ)V"⟩, 62), (⟨"AssignFlowModel", "top", "()I"⟩, 62), (⟨"AssignFlowModel", "reduce", "()V"⟩, 62), (⟨"AssignFlowModel", "infix", "(I)I"⟩, 62)]
theorem lw_r7 : ∀ q ∈ lw_privs_7, lw_okq q := List.forall_mem_cons.mpr ⟨lw_p96, List.forall_mem_cons.mpr ⟨lw_p97, List.forall_mem_cons.mpr ⟨lw_p98, List.forall_mem_cons.mpr ⟨lw_p99, List.forall_mem_cons.mpr ⟨lw_p100, List.forall_mem_cons.mpr ⟨lw_p101, List.forall_mem_cons.mpr ⟨lw_p102, List.forall_mem_cons.mpr ⟨lw_p103, List.forall_mem_cons.mpr ⟨lw_p104, List.forall_mem_cons.mpr ⟨lw_p105, List.forall_mem_cons.mpr ⟨lw_p106, List.forall_mem_cons.mpr ⟨lw_p107, List.forall_mem_cons.mpr ⟨lw_p108, List.forall_mem_cons.mpr ⟨lw_p109, List.forall_mem_cons.mpr ⟨lw_p110, List.forall_mem_cons.mpr ⟨lw_p111, fun _ h => absurd h List.not_mem_nil⟩⟩⟩⟩⟩⟩⟩⟩⟩⟩⟩⟩⟩⟩⟩⟩
theorem lw_p112 : lw_okq (⟨"AssignFlowModel", "waits", "(I)Z"⟩, 62) := ⟨⟨by decide +kernel, by decide +kernel⟩, List.mem_of_getElem? (i := 706) (by decide +kernel), List.mem_of_getElem? (i := 1082) (by decide +kernel), List.mem_of_getElem? (i := 1083) (by decide +kernel)⟩
theorem lw_p113 : lw_okq (⟨"AssignFlowModel", "take", "(I)V"⟩, 62) := ⟨⟨by decide +kernel, by decide +kernel⟩, List.mem_of_getElem? (i := 706) (by decide +kernel), List.mem_of_getElem? (i := 1086) (by decide +kernel), List.mem_of_getElem? (i := 1087) (by decide +kernel)⟩
theorem lw_p114 : lw_okq (⟨"AssignFlowModel", "readGiven", "(II)V"⟩, 62) := ⟨⟨by decide +kernel, by decide +kernel⟩, List.mem_of_getElem? (i := 706) (by decide +kernel), List.mem_of_getElem? (i := 1090) (by decide +kernel), List.mem_of_getElem? (i := 1091) (by decide +kernel)⟩
theorem lw_p115 : lw_okq (⟨"AssignFlowModel", "readJump", "(II)V"⟩, 62) := ⟨⟨by decide +kernel, by decide +kernel⟩, List.mem_of_getElem? (i := 706) (by decide +kernel), List.mem_of_getElem? (i := 1094) (by decide +kernel), List.mem_of_getElem? (i := 1095) (by decide +kernel)⟩
theorem lw_p116 : lw_okq (⟨"AssignFlowModel", "readLabel", "(II)V"⟩, 62) := ⟨⟨by decide +kernel, by decide +kernel⟩, List.mem_of_getElem? (i := 706) (by decide +kernel), List.mem_of_getElem? (i := 1101) (by decide +kernel), List.mem_of_getElem? (i := 1102) (by decide +kernel)⟩
theorem lw_p117 : lw_okq (⟨"AssignFlowModel", "begin", "(I)V"⟩, 62) := ⟨⟨by decide +kernel, by decide +kernel⟩, List.mem_of_getElem? (i := 706) (by decide +kernel), List.mem_of_getElem? (i := 1105) (by decide +kernel), List.mem_of_getElem? (i := 1106) (by decide +kernel)⟩
theorem lw_p118 : lw_okq (⟨"AssignFlowModel", "finish", "()V"⟩, 62) := ⟨⟨by decide +kernel, by decide +kernel⟩, List.mem_of_getElem? (i := 706) (by decide +kernel), List.mem_of_getElem? (i := 1109) (by decide +kernel), List.mem_of_getElem? (i := 1110) (by decide +kernel)⟩
theorem lw_p119 : lw_okq (⟨"AssignFlowModel", "stepIf", "(II)V"⟩, 62) := ⟨⟨by decide +kernel, by decide +kernel⟩, List.mem_of_getElem? (i := 706) (by decide +kernel), List.mem_of_getElem? (i := 1113) (by decide +kernel), List.mem_of_getElem? (i := 1114) (by decide +kernel)⟩
theorem lw_p120 : lw_okq (⟨"AssignFlowModel", "readPart", "(I)V"⟩, 62) := ⟨⟨by decide +kernel, by decide +kernel⟩, List.mem_of_getElem? (i := 706) (by decide +kernel), List.mem_of_getElem? (i := 1117) (by decide +kernel), List.mem_of_getElem? (i := 1118) (by decide +kernel)⟩
theorem lw_p121 : lw_okq (⟨"AssignFlowModel", "readBody", "()V"⟩, 62) := ⟨⟨by decide +kernel, by decide +kernel⟩, List.mem_of_getElem? (i := 706) (by decide +kernel), List.mem_of_getElem? (i := 1121) (by decide +kernel), List.mem_of_getElem? (i := 1122) (by decide +kernel)⟩
theorem lw_p122 : lw_okq (⟨"AssignFlowModel", "stepCases", "(II)V"⟩, 62) := ⟨⟨by decide +kernel, by decide +kernel⟩, List.mem_of_getElem? (i := 706) (by decide +kernel), List.mem_of_getElem? (i := 1125) (by decide +kernel), List.mem_of_getElem? (i := 1126) (by decide +kernel)⟩
theorem lw_p123 : lw_okq (⟨"AssignFlowModel", "stepTry", "(II)V"⟩, 62) := ⟨⟨by decide +kernel, by decide +kernel⟩, List.mem_of_getElem? (i := 706) (by decide +kernel), List.mem_of_getElem? (i := 1129) (by decide +kernel), List.mem_of_getElem? (i := 1130) (by decide +kernel)⟩
theorem lw_p124 : lw_okq (⟨"AssignFlowModel", "isPlace", "(I)Z"⟩, 62) := ⟨⟨by decide +kernel, by decide +kernel⟩, List.mem_of_getElem? (i := 706) (by decide +kernel), List.mem_of_getElem? (i := 1141) (by decide +kernel), List.mem_of_getElem? (i := 1142) (by decide +kernel)⟩
theorem lw_p125 : lw_okq (⟨"AssignFlowModel", "isReached", "(II)Z"⟩, 62) := ⟨⟨by decide +kernel, by decide +kernel⟩, List.mem_of_getElem? (i := 706) (by decide +kernel), List.mem_of_getElem? (i := 1149) (by decide +kernel), List.mem_of_getElem? (i := 1150) (by decide +kernel)⟩
theorem lw_p126 : lw_okq (⟨"AssignFlowModel", "states", "(III)I"⟩, 62) := ⟨⟨by decide +kernel, by decide +kernel⟩, List.mem_of_getElem? (i := 706) (by decide +kernel), List.mem_of_getElem? (i := 1153) (by decide +kernel), List.mem_of_getElem? (i := 1154) (by decide +kernel)⟩
theorem lw_p127 : lw_okq (⟨"AssignFlowModel", "errorAt", "(I)I"⟩, 62) := ⟨⟨by decide +kernel, by decide +kernel⟩, List.mem_of_getElem? (i := 706) (by decide +kernel), List.mem_of_getElem? (i := 1161) (by decide +kernel), List.mem_of_getElem? (i := 1162) (by decide +kernel)⟩
def lw_privs_8 : List (MethodName × Nat) := [(⟨"AssignFlowModel", "waits", "(I)Z"⟩, 62), (⟨"AssignFlowModel", "take", "(I)V"⟩, 62), (⟨"AssignFlowModel", "readGiven", "(II)V"⟩, 62), (⟨"AssignFlowModel", "readJump", "(II)V"⟩, 62), (⟨"AssignFlowModel", "readLabel", "(II)V"⟩, 62), (⟨"AssignFlowModel", "begin", "(I)V"⟩, 62), (⟨"AssignFlowModel", "finish", "()V"⟩, 62), (⟨"AssignFlowModel", "stepIf", "(II)V"⟩, 62), (⟨"AssignFlowModel", "readPart", "(I)V"⟩, 62), (⟨"AssignFlowModel", "readBody", "()V"⟩, 62), (⟨"AssignFlowModel", "stepCases", "(II)V"⟩, 62), (⟨"AssignFlowModel", "stepTry", "(II)V"⟩, 62), (⟨"AssignFlowModel", "isPlace", "(I)Z"⟩, 62), (⟨"AssignFlowModel", "isReached", "(II)Z"⟩, 62), (⟨"AssignFlowModel", "states", "(III)I"⟩, 62), (⟨"AssignFlowModel", "errorAt", "(I)I"⟩, 62)]
theorem lw_r8 : ∀ q ∈ lw_privs_8, lw_okq q := List.forall_mem_cons.mpr ⟨lw_p112, List.forall_mem_cons.mpr ⟨lw_p113, List.forall_mem_cons.mpr ⟨lw_p114, List.forall_mem_cons.mpr ⟨lw_p115, List.forall_mem_cons.mpr ⟨lw_p116, List.forall_mem_cons.mpr ⟨lw_p117, List.forall_mem_cons.mpr ⟨lw_p118, List.forall_mem_cons.mpr ⟨lw_p119, List.forall_mem_cons.mpr ⟨lw_p120, List.forall_mem_cons.mpr ⟨lw_p121, List.forall_mem_cons.mpr ⟨lw_p122, List.forall_mem_cons.mpr ⟨lw_p123, List.forall_mem_cons.mpr ⟨lw_p124, List.forall_mem_cons.mpr ⟨lw_p125, List.forall_mem_cons.mpr ⟨lw_p126, List.forall_mem_cons.mpr ⟨lw_p127, fun _ h => absurd h List.not_mem_nil⟩⟩⟩⟩⟩⟩⟩⟩⟩⟩⟩⟩⟩⟩⟩⟩
theorem lw_p128 : lw_okq (⟨"AssignFlowModel", "isTwice", "(I)Z"⟩, 62) := ⟨⟨by decide +kernel, by decide +kernel⟩, List.mem_of_getElem? (i := 706) (by decide +kernel), List.mem_of_getElem? (i := 1165) (by decide +kernel), List.mem_of_getElem? (i := 1166) (by decide +kernel)⟩
def lw_privs_9 : List (MethodName × Nat) := [(⟨"AssignFlowModel", "isTwice", "(I)Z"⟩, 62)]
theorem lw_r9 : ∀ q ∈ lw_privs_9, lw_okq q := List.forall_mem_cons.mpr ⟨lw_p128, fun _ h => absurd h List.not_mem_nil⟩
def lw_privs : List (MethodName × Nat) := lw_privs_1 ++ (lw_privs_2 ++ (lw_privs_3 ++ (lw_privs_4 ++ (lw_privs_5 ++ (lw_privs_6 ++ (lw_privs_7 ++ (lw_privs_8 ++ (lw_privs_9))))))))
def lw_tbl : List Cond := k2_sels lw_privs ++ tables_1
theorem lw_privs_ok : ∀ q ∈ lw_privs, lw_okq q := by
  show ∀ q ∈ lw_privs_1 ++ (lw_privs_2 ++ (lw_privs_3 ++ (lw_privs_4 ++ (lw_privs_5 ++ (lw_privs_6 ++ (lw_privs_7 ++ (lw_privs_8 ++ (lw_privs_9)))))))), lw_okq q
  exact List.forall_mem_append.mpr ⟨lw_r1, List.forall_mem_append.mpr ⟨lw_r2, List.forall_mem_append.mpr ⟨lw_r3, List.forall_mem_append.mpr ⟨lw_r4, List.forall_mem_append.mpr ⟨lw_r5, List.forall_mem_append.mpr ⟨lw_r6, List.forall_mem_append.mpr ⟨lw_r7, List.forall_mem_append.mpr ⟨lw_r8, lw_r9⟩⟩⟩⟩⟩⟩⟩⟩
end
section
/-! printed by wip/whole/gen_tables.py: classes, fields, methods of the claim as the pure machine has them -/
def rq_F0 : u_T := fun k => match k with
  | 0 => ("AssignFlowModel", "row", "[B", true)
  | 1 => ("AssignFlowModel", "collected", "I", false)
  | 2 => ("AssignFlowModel", "nodes", "I", false)
  | 3 => ("AssignFlowModel", "sort", "[I", true)
  | 4 => ("AssignFlowModel", "first", "[I", true)
  | 5 => ("AssignFlowModel", "around", "[I", true)
  | 6 => ("AssignFlowModel", "part", "[I", true)
  | 7 => ("AssignFlowModel", "variable", "[I", true)
  | 8 => ("AssignFlowModel", "isStmt", "[Z", true)
  | 9 => ("AssignFlowModel", "thereBefore", "[I", true)
  | 10 => ("AssignFlowModel", "thereAfter", "[I", true)
  | 11 => ("AssignFlowModel", "label", "[I", true)
  | 12 => ("AssignFlowModel", "target", "[I", true)
  | 13 => ("AssignFlowModel", "isMarked", "[Z", true)
  | 14 => ("AssignFlowModel", "hasOther", "[Z", true)
  | 15 => ("AssignFlowModel", "hasCatch", "[Z", true)
  | 16 => ("AssignFlowModel", "hasEnd", "[Z", true)
  | 17 => ("AssignFlowModel", "hasElse", "[Z", true)
  | 18 => ("AssignFlowModel", "thereAtEnd", "I", false)
  | 19 => ("AssignFlowModel", "variables", "I", false)
  | 20 => ("AssignFlowModel", "nameOf", "[I", true)
  | 21 => ("AssignFlowModel", "isFinal", "[Z", true)
  | 22 => ("AssignFlowModel", "givenAt", "[I", true)
  | 23 => ("AssignFlowModel", "named", "[I", true)
  | 24 => ("AssignFlowModel", "scope", "[I", true)
  | 25 => ("AssignFlowModel", "scopes", "I", false)
  | 26 => ("AssignFlowModel", "at", "I", false)
  | 27 => ("AssignFlowModel", "size", "I", false)
  | 28 => ("AssignFlowModel", "wrong", "I", false)
  | 29 => ("AssignFlowModel", "opSign", "[I", true)
  | 30 => ("AssignFlowModel", "opNode", "[I", true)
  | 31 => ("AssignFlowModel", "ops", "I", false)
  | 32 => ("AssignFlowModel", "done", "[I", true)
  | 33 => ("AssignFlowModel", "dones", "I", false)
  | 34 => ("AssignFlowModel", "nested", "I", false)
  | 35 => ("AssignFlowModel", "wantsMore", "Z", false)
  | 36 => ("AssignFlowModel", "beginsMore", "Z", false)
  | 37 => ("AssignFlowModel", "open", "[I", true)
  | 38 => ("AssignFlowModel", "state", "[I", true)
  | 39 => ("AssignFlowModel", "mark", "[I", true)
  | 40 => ("AssignFlowModel", "opened", "I", false)
  | 41 => ("AssignFlowModel", "isCase", "Z", false)
  | 42 => ("AssignFlowModel", "tailMarked", "[Z", true)
  | 43 => ("AssignFlowModel", "deep", "[I", true)
  | 44 => ("AssignFlowModel", "number", "[I", true)
  | 45 => ("AssignFlowModel", "byNumber", "[I", true)
  | 46 => ("AssignFlowModel", "edgeTo", "[I", true)
  | 47 => ("AssignFlowModel", "edgeDoes", "[I", true)
  | 48 => ("AssignFlowModel", "edgeNext", "[I", true)
  | 49 => ("AssignFlowModel", "edgeHead", "[I", true)
  | 50 => ("AssignFlowModel", "edges", "I", false)
  | 51 => ("AssignFlowModel", "start", "I", false)
  | 52 => ("AssignFlowModel", "wayOf", "[I", true)
  | 53 => ("AssignFlowModel", "wayCode", "[I", true)
  | 54 => ("AssignFlowModel", "wayOn", "[I", true)
  | 55 => ("AssignFlowModel", "ways", "I", false)
  | 56 => ("AssignFlowModel", "seen", "[B", true)
  | 57 => ("AssignFlowModel", "local", "[B", true)
  | 58 => ("AssignFlowModel", "ended", "[B", true)
  | 59 => ("AssignFlowModel", "pile", "[I", true)
  | 60 => ("AssignFlowModel", "piled", "I", false)
  | _ => ("AssignFlowModel", "faultPlace", "I", false)
def rq_t0 : Nat → FieldType := fun k => match k with
  | 0 => .array .byte
  | 1 => .int
  | 2 => .int
  | 3 => .array .int
  | 4 => .array .int
  | 5 => .array .int
  | 6 => .array .int
  | 7 => .array .int
  | 8 => .array .boolean
  | 9 => .array .int
  | 10 => .array .int
  | 11 => .array .int
  | 12 => .array .int
  | 13 => .array .boolean
  | 14 => .array .boolean
  | 15 => .array .boolean
  | 16 => .array .boolean
  | 17 => .array .boolean
  | 18 => .int
  | 19 => .int
  | 20 => .array .int
  | 21 => .array .boolean
  | 22 => .array .int
  | 23 => .array .int
  | 24 => .array .int
  | 25 => .int
  | 26 => .int
  | 27 => .int
  | 28 => .int
  | 29 => .array .int
  | 30 => .array .int
  | 31 => .int
  | 32 => .array .int
  | 33 => .int
  | 34 => .int
  | 35 => .boolean
  | 36 => .boolean
  | 37 => .array .int
  | 38 => .array .int
  | 39 => .array .int
  | 40 => .int
  | 41 => .boolean
  | 42 => .array .boolean
  | 43 => .array .int
  | 44 => .array .int
  | 45 => .array .int
  | 46 => .array .int
  | 47 => .array .int
  | 48 => .array .int
  | 49 => .array .int
  | 50 => .int
  | 51 => .int
  | 52 => .array .int
  | 53 => .array .int
  | 54 => .array .int
  | 55 => .int
  | 56 => .array .byte
  | 57 => .array .byte
  | 58 => .array .byte
  | 59 => .array .int
  | 60 => .int
  | _ => .int
theorem rq_n0 : ∀ a, a < 62 → ∀ b, b < 62 → a ≠ b → (rq_F0 a).2.1 ≠ (rq_F0 b).2.1 := by decide +kernel
theorem rq_ty0 : ∀ k, k < 62 → parseFieldDescriptor (rq_F0 k).2.2.1 = some (rq_t0 k) := by decide +kernel
theorem rq_dc0 : ∀ k, k < 62 → (rq_F0 k).1 = "AssignFlowModel" := by decide +kernel
abbrev rq_cl : List vw_C := [("AssignFlowModel", rq_F0, 62)]
def rq_ty (c : Nat) : Nat → FieldType := match c with
  | _ => rq_t0
def rq_cn (c : Nat) : String := match c with
  | _ => "AssignFlowModel"
abbrev rq_m_R_isIn : Nat := 0
abbrev rq_m_R_collect : Nat := 1
abbrev rq_m_R_forget : Nat := 2
abbrev rq_m_R_clear : Nat := 3
abbrev rq_m_R_pass : Nat := 4
abbrev rq_m_R_here : Nat := 5
abbrev rq_m_R_fail : Nat := 6
abbrev rq_m_R_failHere : Nat := 7
abbrev rq_m_R_isRight : Nat := 8
abbrev rq_m_R_take : Nat := 9
abbrev rq_m_R_isName : Nat := 10
abbrev rq_m_R_isLabel : Nat := 11
abbrev rq_m_R_thereNow : Nat := 12
abbrev rq_m_R_node : Nat := 13
abbrev rq_m_R_push : Nat := 14
abbrev rq_m_R_nest : Nat := 15
abbrev rq_m_R_top : Nat := 16
abbrev rq_m_R_reduce : Nat := 17
abbrev rq_m_R_reduceWhile : Nat := 18
abbrev rq_m_R_waits : Nat := 19
abbrev rq_m_R_infix : Nat := 20
abbrev rq_m_R_readE : Nat := 21
abbrev rq_m_R_readName : Nat := 22
abbrev rq_m_R_readOperator : Nat := 23
abbrev rq_m_R_close : Nat := 24
abbrev rq_m_R_begin : Nat := 25
abbrev rq_m_R_readStmt : Nat := 26
abbrev rq_m_R_readGiven : Nat := 27
abbrev rq_m_R_readLabel : Nat := 28
abbrev rq_m_R_isLoop : Nat := 29
abbrev rq_m_R_readJump : Nat := 30
abbrev rq_m_R_finish : Nat := 31
abbrev rq_m_R_readList : Nat := 32
abbrev rq_m_R_step : Nat := 33
abbrev rq_m_R_readPart : Nat := 34
abbrev rq_m_R_readBody : Nat := 35
abbrev rq_m_R_stepIf : Nat := 36
abbrev rq_m_R_stepCases : Nat := 37
abbrev rq_m_R_stepTry : Nat := 38
abbrev rq_m_R_parse : Nat := 39
abbrev rq_m_R_order : Nat := 40
abbrev rq_m_R_edge : Nat := 41
abbrev rq_m_R_go : Nat := 42
abbrev rq_m_R_point : Nat := 43
abbrev rq_m_R_child : Nat := 44
abbrev rq_m_R_chain : Nat := 45
abbrev rq_m_R_ends : Nat := 46
abbrev rq_m_R_way : Nat := 47
abbrev rq_m_R_leave : Nat := 48
abbrev rq_m_R_build : Nat := 49
abbrev rq_m_R_isTried : Nat := 50
abbrev rq_m_R_buildStmt : Nat := 51
abbrev rq_m_R_buildCases : Nat := 52
abbrev rq_m_R_buildE : Nat := 53
abbrev rq_m_R_come : Nat := 54
abbrev rq_m_R_isWithin : Nat := 55
abbrev rq_m_R_walk : Nat := 56
abbrev rq_m_R_solve : Nat := 57
abbrev rq_m_R_read : Nat := 58
abbrev rq_m_R_fault : Nat := 59
abbrev rq_m_R_isPlace : Nat := 60
abbrev rq_m_R_place : Nat := 61
abbrev rq_m_R_states : Nat := 62
abbrev rq_m_R_isReached : Nat := 63
abbrev rq_m_R_fact : Nat := 64
abbrev rq_m_R_isTwice : Nat := 65
abbrev rq_m_R_errorAt : Nat := 66
abbrev rq_m_R_error : Nat := 67
abbrev rq_m_R_variable : Nat := 68
abbrev rq_m_R_count : Nat := 69
end
section
def rq_U0 (pc : Nat) : Option pv_I := bif Nat.blt pc 7 then (bif Nat.blt pc 2 then (bif Nat.blt pc 1 then (bif Nat.beq pc 0 then some (.iload_n 0, 1, 1, 0, 0, .null) else none) else (bif Nat.beq pc 1 then some (.iload_n 1, 1, 2, 1, 0, .null) else none)) else (bif Nat.blt pc 5 then (bif Nat.beq pc 2 then some (.if_icmp .lt 12, 3, 5, 14, 0, .null) else none) else (bif Nat.blt pc 6 then (bif Nat.beq pc 5 then some (.iload_n 0, 1, 6, 0, 0, .null) else none) else (bif Nat.beq pc 6 then some (.iload_n 2, 1, 7, 2, 0, .null) else none)))) else (bif Nat.blt pc 11 then (bif Nat.blt pc 10 then (bif Nat.beq pc 7 then some (.if_icmp .gt 7, 3, 10, 14, 0, .null) else none) else (bif Nat.beq pc 10 then some (.iconst 1, 1, 11, 0, 0, .int 1) else none)) else (bif Nat.blt pc 14 then (bif Nat.beq pc 11 then some (.goto 4, 3, 14, 15, 0, .null) else none) else (bif Nat.blt pc 15 then (bif Nat.beq pc 14 then some (.iconst 0, 1, 15, 0, 0, .int 0) else none) else (bif Nat.beq pc 15 then some (.ireturn, 1, 16, 0, 0, .null) else none))))
def rq_T0 (pc : Nat) : Option pv_I := bif Nat.blt pc 16 then rq_U0 pc else none
def rq_U1 (pc : Nat) : Option pv_I := bif Nat.blt pc 41 then (bif Nat.blt pc 19 then (bif Nat.blt pc 10 then (bif Nat.blt pc 2 then (bif Nat.blt pc 1 then (bif Nat.beq pc 0 then some (.iload_n 3, 1, 1, 3, 0, .null) else none) else (bif Nat.beq pc 1 then some (.iconst 1, 1, 2, 0, 0, .int 1) else none)) else (bif Nat.blt pc 4 then (bif Nat.beq pc 2 then some (.bipush 8, 2, 4, 0, 0, .int 8) else none) else (bif Nat.blt pc 7 then (bif Nat.beq pc 4 then some (.invokestatic 152, 3, 7, 0, 3, .null) else none) else (bif Nat.beq pc 7 then some (.ifCond .ne 6, 3, 10, 13, 0, .null) else none)))) else (bif Nat.blt pc 14 then (bif Nat.blt pc 12 then (bif Nat.beq pc 10 then some (.bipush (-2), 2, 12, 0, 0, .int (-2)) else none) else (bif Nat.blt pc 13 then (bif Nat.beq pc 12 then some (.ireturn, 1, 13, 0, 0, .null) else none) else (bif Nat.beq pc 13 then some (.aload_n 0, 1, 14, 0, 0, .null) else none))) else (bif Nat.blt pc 17 then (bif Nat.beq pc 14 then some (.getfield 156, 3, 17, 0, 1, .null) else none) else (bif Nat.blt pc 18 then (bif Nat.beq pc 17 then some (.iload_n 3, 1, 18, 3, 0, .null) else none) else (bif Nat.beq pc 18 then some (.iadd, 1, 19, 0, 0, .null) else none))))) else (bif Nat.blt pc 29 then (bif Nat.blt pc 25 then (bif Nat.blt pc 22 then (bif Nat.beq pc 19 then some (.sipush 240, 3, 22, 0, 0, .int 240) else none) else (bif Nat.beq pc 22 then some (.if_icmp .le 6, 3, 25, 28, 0, .null) else none)) else (bif Nat.blt pc 27 then (bif Nat.beq pc 25 then some (.bipush (-3), 2, 27, 0, 0, .int (-3)) else none) else (bif Nat.blt pc 28 then (bif Nat.beq pc 27 then some (.ireturn, 1, 28, 0, 0, .null) else none) else (bif Nat.beq pc 28 then some (.iconst 0, 1, 29, 0, 0, .int 0) else none)))) else (bif Nat.blt pc 34 then (bif Nat.blt pc 31 then (bif Nat.beq pc 29 then some (.istore 4, 2, 31, 4, 0, .null) else none) else (bif Nat.blt pc 33 then (bif Nat.beq pc 31 then some (.iload 4, 2, 33, 4, 0, .null) else none) else (bif Nat.beq pc 33 then some (.iload_n 3, 1, 34, 3, 0, .null) else none))) else (bif Nat.blt pc 37 then (bif Nat.beq pc 34 then some (.if_icmp .ge 30, 3, 37, 64, 0, .null) else none) else (bif Nat.blt pc 38 then (bif Nat.beq pc 37 then some (.aload_n 0, 1, 38, 0, 0, .null) else none) else (bif Nat.beq pc 38 then some (.getfield 7, 3, 41, 0, 0, .null) else none)))))) else (bif Nat.blt pc 57 then (bif Nat.blt pc 49 then (bif Nat.blt pc 45 then (bif Nat.blt pc 42 then (bif Nat.beq pc 41 then some (.aload_n 0, 1, 42, 0, 0, .null) else none) else (bif Nat.beq pc 42 then some (.getfield 156, 3, 45, 0, 1, .null) else none)) else (bif Nat.blt pc 47 then (bif Nat.beq pc 45 then some (.iload 4, 2, 47, 4, 0, .null) else none) else (bif Nat.blt pc 48 then (bif Nat.beq pc 47 then some (.iadd, 1, 48, 0, 0, .null) else none) else (bif Nat.beq pc 48 then some (.lload_n 1, 1, 49, 1, 0, .null) else none)))) else (bif Nat.blt pc 54 then (bif Nat.blt pc 51 then (bif Nat.beq pc 49 then some (.bipush 8, 2, 51, 0, 0, .int 8) else none) else (bif Nat.blt pc 53 then (bif Nat.beq pc 51 then some (.iload 4, 2, 53, 4, 0, .null) else none) else (bif Nat.beq pc 53 then some (.imul, 1, 54, 0, 0, .null) else none))) else (bif Nat.blt pc 55 then (bif Nat.beq pc 54 then some (.lshr, 1, 55, 0, 0, .null) else none) else (bif Nat.blt pc 56 then (bif Nat.beq pc 55 then some (.l2i, 1, 56, 0, 0, .null) else none) else (bif Nat.beq pc 56 then some (.i2b, 1, 57, 0, 0, .null) else none))))) else (bif Nat.blt pc 69 then (bif Nat.blt pc 64 then (bif Nat.blt pc 58 then (bif Nat.beq pc 57 then some (.bastore, 1, 58, 0, 0, .null) else none) else (bif Nat.blt pc 61 then (bif Nat.beq pc 58 then some (.iinc 4 1, 3, 61, 4, 0, .int 1) else none) else (bif Nat.beq pc 61 then some (.goto (-30), 3, 64, 31, 0, .null) else none))) else (bif Nat.blt pc 65 then (bif Nat.beq pc 64 then some (.aload_n 0, 1, 65, 0, 0, .null) else none) else (bif Nat.blt pc 66 then (bif Nat.beq pc 65 then some (.dup, 1, 66, 0, 0, .null) else none) else (bif Nat.beq pc 66 then some (.getfield 156, 3, 69, 0, 1, .null) else none)))) else (bif Nat.blt pc 74 then (bif Nat.blt pc 70 then (bif Nat.beq pc 69 then some (.iload_n 3, 1, 70, 3, 0, .null) else none) else (bif Nat.blt pc 71 then (bif Nat.beq pc 70 then some (.iadd, 1, 71, 0, 0, .null) else none) else (bif Nat.beq pc 71 then some (.putfield 156, 3, 74, 0, 1, .null) else none))) else (bif Nat.blt pc 75 then (bif Nat.beq pc 74 then some (.aload_n 0, 1, 75, 0, 0, .null) else none) else (bif Nat.blt pc 78 then (bif Nat.beq pc 75 then some (.getfield 156, 3, 78, 0, 1, .null) else none) else (bif Nat.beq pc 78 then some (.ireturn, 1, 79, 0, 0, .null) else none))))))
def rq_T1 (pc : Nat) : Option pv_I := bif Nat.blt pc 79 then rq_U1 pc else none
def rq_U2 (pc : Nat) : Option pv_I := bif Nat.blt pc 6 then (bif Nat.blt pc 4 then (bif Nat.blt pc 1 then (bif Nat.beq pc 0 then some (.aload_n 0, 1, 1, 0, 0, .null) else none) else (bif Nat.beq pc 1 then some (.getfield 156, 3, 4, 0, 1, .null) else none)) else (bif Nat.blt pc 5 then (bif Nat.beq pc 4 then some (.istore_n 1, 1, 5, 1, 0, .null) else none) else (bif Nat.beq pc 5 then some (.aload_n 0, 1, 6, 0, 0, .null) else none))) else (bif Nat.blt pc 10 then (bif Nat.blt pc 7 then (bif Nat.beq pc 6 then some (.iconst 0, 1, 7, 0, 0, .int 0) else none) else (bif Nat.beq pc 7 then some (.putfield 156, 3, 10, 0, 1, .null) else none)) else (bif Nat.blt pc 11 then (bif Nat.beq pc 10 then some (.iload_n 1, 1, 11, 1, 0, .null) else none) else (bif Nat.beq pc 11 then some (.ireturn, 1, 12, 0, 0, .null) else none)))
def rq_T2 (pc : Nat) : Option pv_I := bif Nat.blt pc 12 then rq_U2 pc else none
def rq_U3 (pc : Nat) : Option pv_I := bif Nat.blt pc 20 then (bif Nat.blt pc 10 then (bif Nat.blt pc 5 then (bif Nat.blt pc 1 then (bif Nat.beq pc 0 then some (.aload_n 0, 1, 1, 0, 0, .null) else none) else (bif Nat.blt pc 2 then (bif Nat.beq pc 1 then some (.iconst 0, 1, 2, 0, 0, .int 0) else none) else (bif Nat.beq pc 2 then some (.putfield 159, 3, 5, 0, 2, .null) else none))) else (bif Nat.blt pc 6 then (bif Nat.beq pc 5 then some (.aload_n 0, 1, 6, 0, 0, .null) else none) else (bif Nat.blt pc 7 then (bif Nat.beq pc 6 then some (.iconst 0, 1, 7, 0, 0, .int 0) else none) else (bif Nat.beq pc 7 then some (.putfield 162, 3, 10, 0, 19, .null) else none)))) else (bif Nat.blt pc 15 then (bif Nat.blt pc 11 then (bif Nat.beq pc 10 then some (.aload_n 0, 1, 11, 0, 0, .null) else none) else (bif Nat.blt pc 12 then (bif Nat.beq pc 11 then some (.iconst 0, 1, 12, 0, 0, .int 0) else none) else (bif Nat.beq pc 12 then some (.putfield 165, 3, 15, 0, 25, .null) else none))) else (bif Nat.blt pc 16 then (bif Nat.beq pc 15 then some (.aload_n 0, 1, 16, 0, 0, .null) else none) else (bif Nat.blt pc 17 then (bif Nat.beq pc 16 then some (.iconst 0, 1, 17, 0, 0, .int 0) else none) else (bif Nat.beq pc 17 then some (.putfield 168, 3, 20, 0, 18, .null) else none))))) else (bif Nat.blt pc 29 then (bif Nat.blt pc 23 then (bif Nat.blt pc 21 then (bif Nat.beq pc 20 then some (.iconst 0, 1, 21, 0, 0, .int 0) else none) else (bif Nat.blt pc 22 then (bif Nat.beq pc 21 then some (.istore_n 1, 1, 22, 1, 0, .null) else none) else (bif Nat.beq pc 22 then some (.iload_n 1, 1, 23, 1, 0, .null) else none))) else (bif Nat.blt pc 25 then (bif Nat.beq pc 23 then some (.bipush 26, 2, 25, 0, 0, .int 26) else none) else (bif Nat.blt pc 28 then (bif Nat.beq pc 25 then some (.if_icmp .ge 16, 3, 28, 41, 0, .null) else none) else (bif Nat.beq pc 28 then some (.aload_n 0, 1, 29, 0, 0, .null) else none)))) else (bif Nat.blt pc 34 then (bif Nat.blt pc 32 then (bif Nat.beq pc 29 then some (.getfield 69, 3, 32, 0, 23, .null) else none) else (bif Nat.blt pc 33 then (bif Nat.beq pc 32 then some (.iload_n 1, 1, 33, 1, 0, .null) else none) else (bif Nat.beq pc 33 then some (.iconst (-1), 1, 34, 0, 0, .int (-1)) else none))) else (bif Nat.blt pc 38 then (bif Nat.blt pc 35 then (bif Nat.beq pc 34 then some (.iastore, 1, 35, 0, 0, .null) else none) else (bif Nat.beq pc 35 then some (.iinc 1 1, 3, 38, 1, 0, .int 1) else none)) else (bif Nat.blt pc 41 then (bif Nat.beq pc 38 then some (.goto (-16), 3, 41, 22, 0, .null) else none) else (bif Nat.beq pc 41 then some (.return_, 1, 42, 0, 0, .null) else none)))))
def rq_T3 (pc : Nat) : Option pv_I := bif Nat.blt pc 42 then rq_U3 pc else none
def rq_U4 (pc : Nat) : Option pv_I := bif Nat.blt pc 26 then (bif Nat.blt pc 12 then (bif Nat.blt pc 5 then (bif Nat.blt pc 1 then (bif Nat.beq pc 0 then some (.aload_n 0, 1, 1, 0, 0, .null) else none) else (bif Nat.blt pc 4 then (bif Nat.beq pc 1 then some (.getfield 171, 3, 4, 0, 26, .null) else none) else (bif Nat.beq pc 4 then some (.aload_n 0, 1, 5, 0, 0, .null) else none))) else (bif Nat.blt pc 8 then (bif Nat.beq pc 5 then some (.getfield 174, 3, 8, 0, 27, .null) else none) else (bif Nat.blt pc 11 then (bif Nat.beq pc 8 then some (.if_icmp .ge 44, 3, 11, 52, 0, .null) else none) else (bif Nat.beq pc 11 then some (.aload_n 0, 1, 12, 0, 0, .null) else none)))) else (bif Nat.blt pc 19 then (bif Nat.blt pc 15 then (bif Nat.beq pc 12 then some (.getfield 7, 3, 15, 0, 0, .null) else none) else (bif Nat.blt pc 16 then (bif Nat.beq pc 15 then some (.aload_n 0, 1, 16, 0, 0, .null) else none) else (bif Nat.beq pc 16 then some (.getfield 171, 3, 19, 0, 26, .null) else none))) else (bif Nat.blt pc 22 then (bif Nat.blt pc 20 then (bif Nat.beq pc 19 then some (.baload, 1, 20, 0, 0, .null) else none) else (bif Nat.beq pc 20 then some (.bipush 32, 2, 22, 0, 0, .int 32) else none)) else (bif Nat.blt pc 25 then (bif Nat.beq pc 22 then some (.if_icmp .eq 17, 3, 25, 39, 0, .null) else none) else (bif Nat.beq pc 25 then some (.aload_n 0, 1, 26, 0, 0, .null) else none))))) else (bif Nat.blt pc 40 then (bif Nat.blt pc 33 then (bif Nat.blt pc 29 then (bif Nat.beq pc 26 then some (.getfield 7, 3, 29, 0, 0, .null) else none) else (bif Nat.blt pc 30 then (bif Nat.beq pc 29 then some (.aload_n 0, 1, 30, 0, 0, .null) else none) else (bif Nat.beq pc 30 then some (.getfield 171, 3, 33, 0, 26, .null) else none))) else (bif Nat.blt pc 36 then (bif Nat.blt pc 34 then (bif Nat.beq pc 33 then some (.baload, 1, 34, 0, 0, .null) else none) else (bif Nat.beq pc 34 then some (.bipush 10, 2, 36, 0, 0, .int 10) else none)) else (bif Nat.blt pc 39 then (bif Nat.beq pc 36 then some (.if_icmp .ne 16, 3, 39, 52, 0, .null) else none) else (bif Nat.beq pc 39 then some (.aload_n 0, 1, 40, 0, 0, .null) else none)))) else (bif Nat.blt pc 45 then (bif Nat.blt pc 41 then (bif Nat.beq pc 40 then some (.dup, 1, 41, 0, 0, .null) else none) else (bif Nat.blt pc 44 then (bif Nat.beq pc 41 then some (.getfield 171, 3, 44, 0, 26, .null) else none) else (bif Nat.beq pc 44 then some (.iconst 1, 1, 45, 0, 0, .int 1) else none))) else (bif Nat.blt pc 49 then (bif Nat.blt pc 46 then (bif Nat.beq pc 45 then some (.iadd, 1, 46, 0, 0, .null) else none) else (bif Nat.beq pc 46 then some (.putfield 171, 3, 49, 0, 26, .null) else none)) else (bif Nat.blt pc 52 then (bif Nat.beq pc 49 then some (.goto (-49), 3, 52, 0, 0, .null) else none) else (bif Nat.beq pc 52 then some (.return_, 1, 53, 0, 0, .null) else none)))))
def rq_T4 (pc : Nat) : Option pv_I := bif Nat.blt pc 53 then rq_U4 pc else none
def rq_U5 (pc : Nat) : Option pv_I := bif Nat.blt pc 16 then (bif Nat.blt pc 8 then (bif Nat.blt pc 4 then (bif Nat.blt pc 1 then (bif Nat.beq pc 0 then some (.aload_n 0, 1, 1, 0, 0, .null) else none) else (bif Nat.beq pc 1 then some (.invokevirtual 177, 3, 4, 4, 0, .ref 0) else none)) else (bif Nat.blt pc 5 then (bif Nat.beq pc 4 then some (.aload_n 0, 1, 5, 0, 0, .null) else none) else (bif Nat.beq pc 5 then some (.getfield 171, 3, 8, 0, 26, .null) else none))) else (bif Nat.blt pc 12 then (bif Nat.blt pc 9 then (bif Nat.beq pc 8 then some (.aload_n 0, 1, 9, 0, 0, .null) else none) else (bif Nat.beq pc 9 then some (.getfield 174, 3, 12, 0, 27, .null) else none)) else (bif Nat.blt pc 15 then (bif Nat.beq pc 12 then some (.if_icmp .ge 19, 3, 15, 31, 0, .null) else none) else (bif Nat.beq pc 15 then some (.aload_n 0, 1, 16, 0, 0, .null) else none)))) else (bif Nat.blt pc 24 then (bif Nat.blt pc 20 then (bif Nat.blt pc 19 then (bif Nat.beq pc 16 then some (.getfield 7, 3, 19, 0, 0, .null) else none) else (bif Nat.beq pc 19 then some (.aload_n 0, 1, 20, 0, 0, .null) else none)) else (bif Nat.blt pc 23 then (bif Nat.beq pc 20 then some (.getfield 171, 3, 23, 0, 26, .null) else none) else (bif Nat.beq pc 23 then some (.baload, 1, 24, 0, 0, .null) else none))) else (bif Nat.blt pc 28 then (bif Nat.blt pc 27 then (bif Nat.beq pc 24 then some (.sipush 255, 3, 27, 0, 0, .int 255) else none) else (bif Nat.beq pc 27 then some (.iand, 1, 28, 0, 0, .null) else none)) else (bif Nat.blt pc 31 then (bif Nat.beq pc 28 then some (.goto 4, 3, 31, 32, 0, .null) else none) else (bif Nat.blt pc 32 then (bif Nat.beq pc 31 then some (.iconst (-1), 1, 32, 0, 0, .int (-1)) else none) else (bif Nat.beq pc 32 then some (.ireturn, 1, 33, 0, 0, .null) else none)))))
def rq_T5 (pc : Nat) : Option pv_I := bif Nat.blt pc 33 then rq_U5 pc else none
def rq_U6 (pc : Nat) : Option pv_I := bif Nat.blt pc 9 then (bif Nat.blt pc 2 then (bif Nat.blt pc 1 then (bif Nat.beq pc 0 then some (.aload_n 0, 1, 1, 0, 0, .null) else none) else (bif Nat.beq pc 1 then some (.aload_n 0, 1, 2, 0, 0, .null) else none)) else (bif Nat.blt pc 5 then (bif Nat.beq pc 2 then some (.getfield 180, 3, 5, 0, 28, .null) else none) else (bif Nat.blt pc 6 then (bif Nat.beq pc 5 then some (.iconst (-1), 1, 6, 0, 0, .int (-1)) else none) else (bif Nat.beq pc 6 then some (.if_icmp .ne 7, 3, 9, 13, 0, .null) else none)))) else (bif Nat.blt pc 14 then (bif Nat.blt pc 10 then (bif Nat.beq pc 9 then some (.iload_n 1, 1, 10, 1, 0, .null) else none) else (bif Nat.blt pc 13 then (bif Nat.beq pc 10 then some (.goto 7, 3, 13, 17, 0, .null) else none) else (bif Nat.beq pc 13 then some (.aload_n 0, 1, 14, 0, 0, .null) else none))) else (bif Nat.blt pc 17 then (bif Nat.beq pc 14 then some (.getfield 180, 3, 17, 0, 28, .null) else none) else (bif Nat.blt pc 20 then (bif Nat.beq pc 17 then some (.putfield 180, 3, 20, 0, 28, .null) else none) else (bif Nat.beq pc 20 then some (.return_, 1, 21, 0, 0, .null) else none))))
def rq_T6 (pc : Nat) : Option pv_I := bif Nat.blt pc 21 then rq_U6 pc else none
def rq_U7 (pc : Nat) : Option pv_I := bif Nat.blt pc 5 then (bif Nat.blt pc 1 then (bif Nat.beq pc 0 then some (.aload_n 0, 1, 1, 0, 0, .null) else none) else (bif Nat.blt pc 4 then (bif Nat.beq pc 1 then some (.invokevirtual 177, 3, 4, 4, 0, .ref 0) else none) else (bif Nat.beq pc 4 then some (.aload_n 0, 1, 5, 0, 0, .null) else none))) else (bif Nat.blt pc 9 then (bif Nat.blt pc 6 then (bif Nat.beq pc 5 then some (.aload_n 0, 1, 6, 0, 0, .null) else none) else (bif Nat.beq pc 6 then some (.getfield 171, 3, 9, 0, 26, .null) else none)) else (bif Nat.blt pc 12 then (bif Nat.beq pc 9 then some (.invokevirtual 183, 3, 12, 6, 1, .ref 0) else none) else (bif Nat.beq pc 12 then some (.return_, 1, 13, 0, 0, .null) else none)))
def rq_T7 (pc : Nat) : Option pv_I := bif Nat.blt pc 13 then rq_U7 pc else none
def rq_U8 (pc : Nat) : Option pv_I := bif Nat.blt pc 8 then (bif Nat.blt pc 4 then (bif Nat.blt pc 1 then (bif Nat.beq pc 0 then some (.aload_n 0, 1, 1, 0, 0, .null) else none) else (bif Nat.beq pc 1 then some (.getfield 180, 3, 4, 0, 28, .null) else none)) else (bif Nat.blt pc 5 then (bif Nat.beq pc 4 then some (.iconst (-1), 1, 5, 0, 0, .int (-1)) else none) else (bif Nat.beq pc 5 then some (.if_icmp .ne 7, 3, 8, 12, 0, .null) else none))) else (bif Nat.blt pc 12 then (bif Nat.blt pc 9 then (bif Nat.beq pc 8 then some (.iconst 1, 1, 9, 0, 0, .int 1) else none) else (bif Nat.beq pc 9 then some (.goto 4, 3, 12, 13, 0, .null) else none)) else (bif Nat.blt pc 13 then (bif Nat.beq pc 12 then some (.iconst 0, 1, 13, 0, 0, .int 0) else none) else (bif Nat.beq pc 13 then some (.ireturn, 1, 14, 0, 0, .null) else none)))
def rq_T8 (pc : Nat) : Option pv_I := bif Nat.blt pc 14 then rq_U8 pc else none
def rq_U9 (pc : Nat) : Option pv_I := bif Nat.blt pc 16 then (bif Nat.blt pc 8 then (bif Nat.blt pc 4 then (bif Nat.blt pc 1 then (bif Nat.beq pc 0 then some (.aload_n 0, 1, 1, 0, 0, .null) else none) else (bif Nat.beq pc 1 then some (.invokevirtual 187, 3, 4, 8, 0, .ref 0) else none)) else (bif Nat.blt pc 7 then (bif Nat.beq pc 4 then some (.ifCond .eq 28, 3, 7, 32, 0, .null) else none) else (bif Nat.beq pc 7 then some (.aload_n 0, 1, 8, 0, 0, .null) else none))) else (bif Nat.blt pc 12 then (bif Nat.blt pc 11 then (bif Nat.beq pc 8 then some (.invokevirtual 191, 3, 11, 5, 0, .ref 0) else none) else (bif Nat.beq pc 11 then some (.iload_n 1, 1, 12, 1, 0, .null) else none)) else (bif Nat.blt pc 15 then (bif Nat.beq pc 12 then some (.if_icmp .ne 16, 3, 15, 28, 0, .null) else none) else (bif Nat.beq pc 15 then some (.aload_n 0, 1, 16, 0, 0, .null) else none)))) else (bif Nat.blt pc 22 then (bif Nat.blt pc 20 then (bif Nat.blt pc 17 then (bif Nat.beq pc 16 then some (.dup, 1, 17, 0, 0, .null) else none) else (bif Nat.beq pc 17 then some (.getfield 171, 3, 20, 0, 26, .null) else none)) else (bif Nat.blt pc 21 then (bif Nat.beq pc 20 then some (.iconst 1, 1, 21, 0, 0, .int 1) else none) else (bif Nat.beq pc 21 then some (.iadd, 1, 22, 0, 0, .null) else none))) else (bif Nat.blt pc 28 then (bif Nat.blt pc 25 then (bif Nat.beq pc 22 then some (.putfield 171, 3, 25, 0, 26, .null) else none) else (bif Nat.beq pc 25 then some (.goto 7, 3, 28, 32, 0, .null) else none)) else (bif Nat.blt pc 29 then (bif Nat.beq pc 28 then some (.aload_n 0, 1, 29, 0, 0, .null) else none) else (bif Nat.blt pc 32 then (bif Nat.beq pc 29 then some (.invokevirtual 195, 3, 32, 7, 0, .ref 0) else none) else (bif Nat.beq pc 32 then some (.return_, 1, 33, 0, 0, .null) else none)))))
def rq_T9 (pc : Nat) : Option pv_I := bif Nat.blt pc 33 then rq_U9 pc else none
def rq_U10 (pc : Nat) : Option pv_I := bif Nat.blt pc 9 then (bif Nat.blt pc 3 then (bif Nat.blt pc 1 then (bif Nat.beq pc 0 then some (.iload_n 0, 1, 1, 0, 0, .null) else none) else (bif Nat.beq pc 1 then some (.bipush 97, 2, 3, 0, 0, .int 97) else none)) else (bif Nat.blt pc 6 then (bif Nat.beq pc 3 then some (.if_icmp .lt 13, 3, 6, 16, 0, .null) else none) else (bif Nat.blt pc 7 then (bif Nat.beq pc 6 then some (.iload_n 0, 1, 7, 0, 0, .null) else none) else (bif Nat.beq pc 7 then some (.bipush 122, 2, 9, 0, 0, .int 122) else none)))) else (bif Nat.blt pc 13 then (bif Nat.blt pc 12 then (bif Nat.beq pc 9 then some (.if_icmp .gt 7, 3, 12, 16, 0, .null) else none) else (bif Nat.beq pc 12 then some (.iconst 1, 1, 13, 0, 0, .int 1) else none)) else (bif Nat.blt pc 16 then (bif Nat.beq pc 13 then some (.goto 4, 3, 16, 17, 0, .null) else none) else (bif Nat.blt pc 17 then (bif Nat.beq pc 16 then some (.iconst 0, 1, 17, 0, 0, .int 0) else none) else (bif Nat.beq pc 17 then some (.ireturn, 1, 18, 0, 0, .null) else none))))
def rq_T10 (pc : Nat) : Option pv_I := bif Nat.blt pc 18 then rq_U10 pc else none
def rq_U11 (pc : Nat) : Option pv_I := bif Nat.blt pc 9 then (bif Nat.blt pc 3 then (bif Nat.blt pc 1 then (bif Nat.beq pc 0 then some (.iload_n 0, 1, 1, 0, 0, .null) else none) else (bif Nat.beq pc 1 then some (.bipush 50, 2, 3, 0, 0, .int 50) else none)) else (bif Nat.blt pc 6 then (bif Nat.beq pc 3 then some (.if_icmp .lt 13, 3, 6, 16, 0, .null) else none) else (bif Nat.blt pc 7 then (bif Nat.beq pc 6 then some (.iload_n 0, 1, 7, 0, 0, .null) else none) else (bif Nat.beq pc 7 then some (.bipush 57, 2, 9, 0, 0, .int 57) else none)))) else (bif Nat.blt pc 13 then (bif Nat.blt pc 12 then (bif Nat.beq pc 9 then some (.if_icmp .gt 7, 3, 12, 16, 0, .null) else none) else (bif Nat.beq pc 12 then some (.iconst 1, 1, 13, 0, 0, .int 1) else none)) else (bif Nat.blt pc 16 then (bif Nat.beq pc 13 then some (.goto 4, 3, 16, 17, 0, .null) else none) else (bif Nat.blt pc 17 then (bif Nat.beq pc 16 then some (.iconst 0, 1, 17, 0, 0, .int 0) else none) else (bif Nat.beq pc 17 then some (.ireturn, 1, 18, 0, 0, .null) else none))))
def rq_T11 (pc : Nat) : Option pv_I := bif Nat.blt pc 18 then rq_U11 pc else none
def rq_U12 (pc : Nat) : Option pv_I := bif Nat.blt pc 14 then (bif Nat.blt pc 5 then (bif Nat.blt pc 2 then (bif Nat.blt pc 1 then (bif Nat.beq pc 0 then some (.iconst 0, 1, 1, 0, 0, .int 0) else none) else (bif Nat.beq pc 1 then some (.istore_n 1, 1, 2, 1, 0, .null) else none)) else (bif Nat.blt pc 3 then (bif Nat.beq pc 2 then some (.iconst 0, 1, 3, 0, 0, .int 0) else none) else (bif Nat.blt pc 4 then (bif Nat.beq pc 3 then some (.istore_n 2, 1, 4, 2, 0, .null) else none) else (bif Nat.beq pc 4 then some (.iload_n 2, 1, 5, 2, 0, .null) else none)))) else (bif Nat.blt pc 9 then (bif Nat.blt pc 6 then (bif Nat.beq pc 5 then some (.aload_n 0, 1, 6, 0, 0, .null) else none) else (bif Nat.beq pc 6 then some (.getfield 165, 3, 9, 0, 25, .null) else none)) else (bif Nat.blt pc 12 then (bif Nat.beq pc 9 then some (.if_icmp .ge 20, 3, 12, 29, 0, .null) else none) else (bif Nat.blt pc 13 then (bif Nat.beq pc 12 then some (.iload_n 1, 1, 13, 1, 0, .null) else none) else (bif Nat.beq pc 13 then some (.iconst 1, 1, 14, 0, 0, .int 1) else none))))) else (bif Nat.blt pc 21 then (bif Nat.blt pc 18 then (bif Nat.blt pc 15 then (bif Nat.beq pc 14 then some (.aload_n 0, 1, 15, 0, 0, .null) else none) else (bif Nat.beq pc 15 then some (.getfield 72, 3, 18, 0, 24, .null) else none)) else (bif Nat.blt pc 19 then (bif Nat.beq pc 18 then some (.iload_n 2, 1, 19, 2, 0, .null) else none) else (bif Nat.blt pc 20 then (bif Nat.beq pc 19 then some (.iaload, 1, 20, 0, 0, .null) else none) else (bif Nat.beq pc 20 then some (.ishl, 1, 21, 0, 0, .null) else none)))) else (bif Nat.blt pc 26 then (bif Nat.blt pc 22 then (bif Nat.beq pc 21 then some (.ior, 1, 22, 0, 0, .null) else none) else (bif Nat.blt pc 23 then (bif Nat.beq pc 22 then some (.istore_n 1, 1, 23, 1, 0, .null) else none) else (bif Nat.beq pc 23 then some (.iinc 2 1, 3, 26, 2, 0, .int 1) else none))) else (bif Nat.blt pc 29 then (bif Nat.beq pc 26 then some (.goto (-22), 3, 29, 4, 0, .null) else none) else (bif Nat.blt pc 30 then (bif Nat.beq pc 29 then some (.iload_n 1, 1, 30, 1, 0, .null) else none) else (bif Nat.beq pc 30 then some (.ireturn, 1, 31, 0, 0, .null) else none)))))
def rq_T12 (pc : Nat) : Option pv_I := bif Nat.blt pc 31 then rq_U12 pc else none
def rq_U13 (pc : Nat) : Option pv_I := bif Nat.blt pc 75 then (bif Nat.blt pc 38 then (bif Nat.blt pc 20 then (bif Nat.blt pc 8 then (bif Nat.blt pc 4 then (bif Nat.blt pc 1 then (bif Nat.beq pc 0 then some (.aload_n 0, 1, 1, 0, 0, .null) else none) else (bif Nat.beq pc 1 then some (.getfield 159, 3, 4, 0, 2, .null) else none)) else (bif Nat.blt pc 6 then (bif Nat.beq pc 4 then some (.istore 4, 2, 6, 4, 0, .null) else none) else (bif Nat.blt pc 7 then (bif Nat.beq pc 6 then some (.aload_n 0, 1, 7, 0, 0, .null) else none) else (bif Nat.beq pc 7 then some (.dup, 1, 8, 0, 0, .null) else none)))) else (bif Nat.blt pc 13 then (bif Nat.blt pc 11 then (bif Nat.beq pc 8 then some (.getfield 159, 3, 11, 0, 2, .null) else none) else (bif Nat.blt pc 12 then (bif Nat.beq pc 11 then some (.iconst 1, 1, 12, 0, 0, .int 1) else none) else (bif Nat.beq pc 12 then some (.iadd, 1, 13, 0, 0, .null) else none))) else (bif Nat.blt pc 16 then (bif Nat.beq pc 13 then some (.putfield 159, 3, 16, 0, 2, .null) else none) else (bif Nat.blt pc 17 then (bif Nat.beq pc 16 then some (.aload_n 0, 1, 17, 0, 0, .null) else none) else (bif Nat.beq pc 17 then some (.getfield 13, 3, 20, 0, 3, .null) else none))))) else (bif Nat.blt pc 28 then (bif Nat.blt pc 23 then (bif Nat.blt pc 22 then (bif Nat.beq pc 20 then some (.iload 4, 2, 22, 4, 0, .null) else none) else (bif Nat.beq pc 22 then some (.iload_n 1, 1, 23, 1, 0, .null) else none)) else (bif Nat.blt pc 24 then (bif Nat.beq pc 23 then some (.iastore, 1, 24, 0, 0, .null) else none) else (bif Nat.blt pc 25 then (bif Nat.beq pc 24 then some (.aload_n 0, 1, 25, 0, 0, .null) else none) else (bif Nat.beq pc 25 then some (.getfield 17, 3, 28, 0, 4, .null) else none)))) else (bif Nat.blt pc 32 then (bif Nat.blt pc 30 then (bif Nat.beq pc 28 then some (.iload 4, 2, 30, 4, 0, .null) else none) else (bif Nat.blt pc 31 then (bif Nat.beq pc 30 then some (.iload_n 2, 1, 31, 2, 0, .null) else none) else (bif Nat.beq pc 31 then some (.iastore, 1, 32, 0, 0, .null) else none))) else (bif Nat.blt pc 33 then (bif Nat.beq pc 32 then some (.aload_n 0, 1, 33, 0, 0, .null) else none) else (bif Nat.blt pc 36 then (bif Nat.beq pc 33 then some (.getfield 20, 3, 36, 0, 5, .null) else none) else (bif Nat.beq pc 36 then some (.iload 4, 2, 38, 4, 0, .null) else none)))))) else (bif Nat.blt pc 55 then (bif Nat.blt pc 46 then (bif Nat.blt pc 40 then (bif Nat.blt pc 39 then (bif Nat.beq pc 38 then some (.iconst (-1), 1, 39, 0, 0, .int (-1)) else none) else (bif Nat.beq pc 39 then some (.iastore, 1, 40, 0, 0, .null) else none)) else (bif Nat.blt pc 41 then (bif Nat.beq pc 40 then some (.aload_n 0, 1, 41, 0, 0, .null) else none) else (bif Nat.blt pc 44 then (bif Nat.beq pc 41 then some (.getfield 23, 3, 44, 0, 6, .null) else none) else (bif Nat.beq pc 44 then some (.iload 4, 2, 46, 4, 0, .null) else none)))) else (bif Nat.blt pc 49 then (bif Nat.blt pc 47 then (bif Nat.beq pc 46 then some (.iconst 0, 1, 47, 0, 0, .int 0) else none) else (bif Nat.blt pc 48 then (bif Nat.beq pc 47 then some (.iastore, 1, 48, 0, 0, .null) else none) else (bif Nat.beq pc 48 then some (.aload_n 0, 1, 49, 0, 0, .null) else none))) else (bif Nat.blt pc 52 then (bif Nat.beq pc 49 then some (.getfield 26, 3, 52, 0, 7, .null) else none) else (bif Nat.blt pc 54 then (bif Nat.beq pc 52 then some (.iload 4, 2, 54, 4, 0, .null) else none) else (bif Nat.beq pc 54 then some (.iconst (-1), 1, 55, 0, 0, .int (-1)) else none))))) else (bif Nat.blt pc 64 then (bif Nat.blt pc 60 then (bif Nat.blt pc 56 then (bif Nat.beq pc 55 then some (.iastore, 1, 56, 0, 0, .null) else none) else (bif Nat.blt pc 57 then (bif Nat.beq pc 56 then some (.aload_n 0, 1, 57, 0, 0, .null) else none) else (bif Nat.beq pc 57 then some (.getfield 29, 3, 60, 0, 8, .null) else none))) else (bif Nat.blt pc 62 then (bif Nat.beq pc 60 then some (.iload 4, 2, 62, 4, 0, .null) else none) else (bif Nat.blt pc 63 then (bif Nat.beq pc 62 then some (.iload_n 3, 1, 63, 3, 0, .null) else none) else (bif Nat.beq pc 63 then some (.bastore, 1, 64, 0, 0, .null) else none)))) else (bif Nat.blt pc 70 then (bif Nat.blt pc 65 then (bif Nat.beq pc 64 then some (.aload_n 0, 1, 65, 0, 0, .null) else none) else (bif Nat.blt pc 68 then (bif Nat.beq pc 65 then some (.getfield 33, 3, 68, 0, 9, .null) else none) else (bif Nat.beq pc 68 then some (.iload 4, 2, 70, 4, 0, .null) else none))) else (bif Nat.blt pc 71 then (bif Nat.beq pc 70 then some (.aload_n 0, 1, 71, 0, 0, .null) else none) else (bif Nat.blt pc 74 then (bif Nat.beq pc 71 then some (.invokevirtual 198, 3, 74, 12, 0, .ref 0) else none) else (bif Nat.beq pc 74 then some (.iastore, 1, 75, 0, 0, .null) else none))))))) else (bif Nat.blt pc 112 then (bif Nat.blt pc 95 then (bif Nat.blt pc 85 then (bif Nat.blt pc 79 then (bif Nat.blt pc 76 then (bif Nat.beq pc 75 then some (.aload_n 0, 1, 76, 0, 0, .null) else none) else (bif Nat.beq pc 76 then some (.getfield 36, 3, 79, 0, 10, .null) else none)) else (bif Nat.blt pc 81 then (bif Nat.beq pc 79 then some (.iload 4, 2, 81, 4, 0, .null) else none) else (bif Nat.blt pc 82 then (bif Nat.beq pc 81 then some (.aload_n 0, 1, 82, 0, 0, .null) else none) else (bif Nat.beq pc 82 then some (.getfield 33, 3, 85, 0, 9, .null) else none)))) else (bif Nat.blt pc 89 then (bif Nat.blt pc 87 then (bif Nat.beq pc 85 then some (.iload 4, 2, 87, 4, 0, .null) else none) else (bif Nat.blt pc 88 then (bif Nat.beq pc 87 then some (.iaload, 1, 88, 0, 0, .null) else none) else (bif Nat.beq pc 88 then some (.iastore, 1, 89, 0, 0, .null) else none))) else (bif Nat.blt pc 90 then (bif Nat.beq pc 89 then some (.aload_n 0, 1, 90, 0, 0, .null) else none) else (bif Nat.blt pc 93 then (bif Nat.beq pc 90 then some (.getfield 39, 3, 93, 0, 11, .null) else none) else (bif Nat.beq pc 93 then some (.iload 4, 2, 95, 4, 0, .null) else none))))) else (bif Nat.blt pc 103 then (bif Nat.blt pc 97 then (bif Nat.blt pc 96 then (bif Nat.beq pc 95 then some (.iconst (-1), 1, 96, 0, 0, .int (-1)) else none) else (bif Nat.beq pc 96 then some (.iastore, 1, 97, 0, 0, .null) else none)) else (bif Nat.blt pc 98 then (bif Nat.beq pc 97 then some (.aload_n 0, 1, 98, 0, 0, .null) else none) else (bif Nat.blt pc 101 then (bif Nat.beq pc 98 then some (.getfield 42, 3, 101, 0, 12, .null) else none) else (bif Nat.beq pc 101 then some (.iload 4, 2, 103, 4, 0, .null) else none)))) else (bif Nat.blt pc 106 then (bif Nat.blt pc 104 then (bif Nat.beq pc 103 then some (.iconst (-1), 1, 104, 0, 0, .int (-1)) else none) else (bif Nat.blt pc 105 then (bif Nat.beq pc 104 then some (.iastore, 1, 105, 0, 0, .null) else none) else (bif Nat.beq pc 105 then some (.aload_n 0, 1, 106, 0, 0, .null) else none))) else (bif Nat.blt pc 109 then (bif Nat.beq pc 106 then some (.getfield 45, 3, 109, 0, 13, .null) else none) else (bif Nat.blt pc 111 then (bif Nat.beq pc 109 then some (.iload 4, 2, 111, 4, 0, .null) else none) else (bif Nat.beq pc 111 then some (.iconst 0, 1, 112, 0, 0, .int 0) else none)))))) else (bif Nat.blt pc 129 then (bif Nat.blt pc 120 then (bif Nat.blt pc 114 then (bif Nat.blt pc 113 then (bif Nat.beq pc 112 then some (.bastore, 1, 113, 0, 0, .null) else none) else (bif Nat.beq pc 113 then some (.aload_n 0, 1, 114, 0, 0, .null) else none)) else (bif Nat.blt pc 117 then (bif Nat.beq pc 114 then some (.getfield 48, 3, 117, 0, 14, .null) else none) else (bif Nat.blt pc 119 then (bif Nat.beq pc 117 then some (.iload 4, 2, 119, 4, 0, .null) else none) else (bif Nat.beq pc 119 then some (.iconst 0, 1, 120, 0, 0, .int 0) else none)))) else (bif Nat.blt pc 125 then (bif Nat.blt pc 121 then (bif Nat.beq pc 120 then some (.bastore, 1, 121, 0, 0, .null) else none) else (bif Nat.blt pc 122 then (bif Nat.beq pc 121 then some (.aload_n 0, 1, 122, 0, 0, .null) else none) else (bif Nat.beq pc 122 then some (.getfield 51, 3, 125, 0, 15, .null) else none))) else (bif Nat.blt pc 127 then (bif Nat.beq pc 125 then some (.iload 4, 2, 127, 4, 0, .null) else none) else (bif Nat.blt pc 128 then (bif Nat.beq pc 127 then some (.iconst 0, 1, 128, 0, 0, .int 0) else none) else (bif Nat.beq pc 128 then some (.bastore, 1, 129, 0, 0, .null) else none))))) else (bif Nat.blt pc 138 then (bif Nat.blt pc 135 then (bif Nat.blt pc 130 then (bif Nat.beq pc 129 then some (.aload_n 0, 1, 130, 0, 0, .null) else none) else (bif Nat.blt pc 133 then (bif Nat.beq pc 130 then some (.getfield 54, 3, 133, 0, 16, .null) else none) else (bif Nat.beq pc 133 then some (.iload 4, 2, 135, 4, 0, .null) else none))) else (bif Nat.blt pc 136 then (bif Nat.beq pc 135 then some (.iconst 0, 1, 136, 0, 0, .int 0) else none) else (bif Nat.blt pc 137 then (bif Nat.beq pc 136 then some (.bastore, 1, 137, 0, 0, .null) else none) else (bif Nat.beq pc 137 then some (.aload_n 0, 1, 138, 0, 0, .null) else none)))) else (bif Nat.blt pc 144 then (bif Nat.blt pc 141 then (bif Nat.beq pc 138 then some (.getfield 57, 3, 141, 0, 17, .null) else none) else (bif Nat.blt pc 143 then (bif Nat.beq pc 141 then some (.iload 4, 2, 143, 4, 0, .null) else none) else (bif Nat.beq pc 143 then some (.iconst 0, 1, 144, 0, 0, .int 0) else none))) else (bif Nat.blt pc 145 then (bif Nat.beq pc 144 then some (.bastore, 1, 145, 0, 0, .null) else none) else (bif Nat.blt pc 147 then (bif Nat.beq pc 145 then some (.iload 4, 2, 147, 4, 0, .null) else none) else (bif Nat.beq pc 147 then some (.ireturn, 1, 148, 0, 0, .null) else none)))))))
def rq_T13 (pc : Nat) : Option pv_I := bif Nat.blt pc 148 then rq_U13 pc else none
def rq_U14 (pc : Nat) : Option pv_I := bif Nat.blt pc 15 then (bif Nat.blt pc 8 then (bif Nat.blt pc 4 then (bif Nat.blt pc 1 then (bif Nat.beq pc 0 then some (.aload_n 0, 1, 1, 0, 0, .null) else none) else (bif Nat.beq pc 1 then some (.getfield 75, 3, 4, 0, 29, .null) else none)) else (bif Nat.blt pc 5 then (bif Nat.beq pc 4 then some (.aload_n 0, 1, 5, 0, 0, .null) else none) else (bif Nat.beq pc 5 then some (.getfield 201, 3, 8, 0, 31, .null) else none))) else (bif Nat.blt pc 10 then (bif Nat.blt pc 9 then (bif Nat.beq pc 8 then some (.iload_n 1, 1, 9, 1, 0, .null) else none) else (bif Nat.beq pc 9 then some (.iastore, 1, 10, 0, 0, .null) else none)) else (bif Nat.blt pc 11 then (bif Nat.beq pc 10 then some (.aload_n 0, 1, 11, 0, 0, .null) else none) else (bif Nat.blt pc 14 then (bif Nat.beq pc 11 then some (.getfield 78, 3, 14, 0, 30, .null) else none) else (bif Nat.beq pc 14 then some (.aload_n 0, 1, 15, 0, 0, .null) else none))))) else (bif Nat.blt pc 22 then (bif Nat.blt pc 19 then (bif Nat.blt pc 18 then (bif Nat.beq pc 15 then some (.getfield 201, 3, 18, 0, 31, .null) else none) else (bif Nat.beq pc 18 then some (.iload_n 2, 1, 19, 2, 0, .null) else none)) else (bif Nat.blt pc 20 then (bif Nat.beq pc 19 then some (.iastore, 1, 20, 0, 0, .null) else none) else (bif Nat.blt pc 21 then (bif Nat.beq pc 20 then some (.aload_n 0, 1, 21, 0, 0, .null) else none) else (bif Nat.beq pc 21 then some (.dup, 1, 22, 0, 0, .null) else none)))) else (bif Nat.blt pc 26 then (bif Nat.blt pc 25 then (bif Nat.beq pc 22 then some (.getfield 201, 3, 25, 0, 31, .null) else none) else (bif Nat.beq pc 25 then some (.iconst 1, 1, 26, 0, 0, .int 1) else none)) else (bif Nat.blt pc 27 then (bif Nat.beq pc 26 then some (.iadd, 1, 27, 0, 0, .null) else none) else (bif Nat.blt pc 30 then (bif Nat.beq pc 27 then some (.putfield 201, 3, 30, 0, 31, .null) else none) else (bif Nat.beq pc 30 then some (.return_, 1, 31, 0, 0, .null) else none)))))
def rq_T14 (pc : Nat) : Option pv_I := bif Nat.blt pc 31 then rq_U14 pc else none
def rq_U15 (pc : Nat) : Option pv_I := bif Nat.blt pc 13 then (bif Nat.blt pc 6 then (bif Nat.blt pc 1 then (bif Nat.beq pc 0 then some (.aload_n 0, 1, 1, 0, 0, .null) else none) else (bif Nat.blt pc 4 then (bif Nat.beq pc 1 then some (.getfield 204, 3, 4, 0, 34, .null) else none) else (bif Nat.beq pc 4 then some (.bipush 30, 2, 6, 0, 0, .int 30) else none))) else (bif Nat.blt pc 9 then (bif Nat.beq pc 6 then some (.if_icmp .lt 7, 3, 9, 13, 0, .null) else none) else (bif Nat.blt pc 10 then (bif Nat.beq pc 9 then some (.aload_n 0, 1, 10, 0, 0, .null) else none) else (bif Nat.beq pc 10 then some (.invokevirtual 195, 3, 13, 7, 0, .ref 0) else none)))) else (bif Nat.blt pc 18 then (bif Nat.blt pc 14 then (bif Nat.beq pc 13 then some (.aload_n 0, 1, 14, 0, 0, .null) else none) else (bif Nat.blt pc 15 then (bif Nat.beq pc 14 then some (.dup, 1, 15, 0, 0, .null) else none) else (bif Nat.beq pc 15 then some (.getfield 204, 3, 18, 0, 34, .null) else none))) else (bif Nat.blt pc 20 then (bif Nat.blt pc 19 then (bif Nat.beq pc 18 then some (.iconst 1, 1, 19, 0, 0, .int 1) else none) else (bif Nat.beq pc 19 then some (.iadd, 1, 20, 0, 0, .null) else none)) else (bif Nat.blt pc 23 then (bif Nat.beq pc 20 then some (.putfield 204, 3, 23, 0, 34, .null) else none) else (bif Nat.beq pc 23 then some (.return_, 1, 24, 0, 0, .null) else none))))
def rq_T15 (pc : Nat) : Option pv_I := bif Nat.blt pc 24 then rq_U15 pc else none
def rq_U16 (pc : Nat) : Option pv_I := bif Nat.blt pc 12 then (bif Nat.blt pc 7 then (bif Nat.blt pc 1 then (bif Nat.beq pc 0 then some (.aload_n 0, 1, 1, 0, 0, .null) else none) else (bif Nat.blt pc 4 then (bif Nat.beq pc 1 then some (.getfield 201, 3, 4, 0, 31, .null) else none) else (bif Nat.beq pc 4 then some (.ifCond .le 17, 3, 7, 21, 0, .null) else none))) else (bif Nat.blt pc 8 then (bif Nat.beq pc 7 then some (.aload_n 0, 1, 8, 0, 0, .null) else none) else (bif Nat.blt pc 11 then (bif Nat.beq pc 8 then some (.getfield 75, 3, 11, 0, 29, .null) else none) else (bif Nat.beq pc 11 then some (.aload_n 0, 1, 12, 0, 0, .null) else none)))) else (bif Nat.blt pc 17 then (bif Nat.blt pc 15 then (bif Nat.beq pc 12 then some (.getfield 201, 3, 15, 0, 31, .null) else none) else (bif Nat.blt pc 16 then (bif Nat.beq pc 15 then some (.iconst 1, 1, 16, 0, 0, .int 1) else none) else (bif Nat.beq pc 16 then some (.isub, 1, 17, 0, 0, .null) else none))) else (bif Nat.blt pc 21 then (bif Nat.blt pc 18 then (bif Nat.beq pc 17 then some (.iaload, 1, 18, 0, 0, .null) else none) else (bif Nat.beq pc 18 then some (.goto 4, 3, 21, 22, 0, .null) else none)) else (bif Nat.blt pc 22 then (bif Nat.beq pc 21 then some (.iconst (-1), 1, 22, 0, 0, .int (-1)) else none) else (bif Nat.beq pc 22 then some (.ireturn, 1, 23, 0, 0, .null) else none))))
def rq_T16 (pc : Nat) : Option pv_I := bif Nat.blt pc 23 then rq_U16 pc else none
def rq_U17 (pc : Nat) : Option pv_I := bif Nat.blt pc 62 then (bif Nat.blt pc 30 then (bif Nat.blt pc 15 then (bif Nat.blt pc 6 then (bif Nat.blt pc 2 then (bif Nat.blt pc 1 then (bif Nat.beq pc 0 then some (.aload_n 0, 1, 1, 0, 0, .null) else none) else (bif Nat.beq pc 1 then some (.dup, 1, 2, 0, 0, .null) else none)) else (bif Nat.blt pc 5 then (bif Nat.beq pc 2 then some (.getfield 201, 3, 5, 0, 31, .null) else none) else (bif Nat.beq pc 5 then some (.iconst 1, 1, 6, 0, 0, .int 1) else none))) else (bif Nat.blt pc 10 then (bif Nat.blt pc 7 then (bif Nat.beq pc 6 then some (.isub, 1, 7, 0, 0, .null) else none) else (bif Nat.beq pc 7 then some (.putfield 201, 3, 10, 0, 31, .null) else none)) else (bif Nat.blt pc 11 then (bif Nat.beq pc 10 then some (.aload_n 0, 1, 11, 0, 0, .null) else none) else (bif Nat.blt pc 14 then (bif Nat.beq pc 11 then some (.getfield 78, 3, 14, 0, 30, .null) else none) else (bif Nat.beq pc 14 then some (.aload_n 0, 1, 15, 0, 0, .null) else none))))) else (bif Nat.blt pc 21 then (bif Nat.blt pc 19 then (bif Nat.blt pc 18 then (bif Nat.beq pc 15 then some (.getfield 201, 3, 18, 0, 31, .null) else none) else (bif Nat.beq pc 18 then some (.iaload, 1, 19, 0, 0, .null) else none)) else (bif Nat.blt pc 20 then (bif Nat.beq pc 19 then some (.istore_n 1, 1, 20, 1, 0, .null) else none) else (bif Nat.beq pc 20 then some (.aload_n 0, 1, 21, 0, 0, .null) else none))) else (bif Nat.blt pc 25 then (bif Nat.blt pc 24 then (bif Nat.beq pc 21 then some (.getfield 75, 3, 24, 0, 29, .null) else none) else (bif Nat.beq pc 24 then some (.aload_n 0, 1, 25, 0, 0, .null) else none)) else (bif Nat.blt pc 28 then (bif Nat.beq pc 25 then some (.getfield 201, 3, 28, 0, 31, .null) else none) else (bif Nat.blt pc 29 then (bif Nat.beq pc 28 then some (.iaload, 1, 29, 0, 0, .null) else none) else (bif Nat.beq pc 29 then some (.istore_n 2, 1, 30, 2, 0, .null) else none)))))) else (bif Nat.blt pc 45 then (bif Nat.blt pc 36 then (bif Nat.blt pc 32 then (bif Nat.blt pc 31 then (bif Nat.beq pc 30 then some (.aload_n 0, 1, 31, 0, 0, .null) else none) else (bif Nat.beq pc 31 then some (.dup, 1, 32, 0, 0, .null) else none)) else (bif Nat.blt pc 35 then (bif Nat.beq pc 32 then some (.getfield 207, 3, 35, 0, 33, .null) else none) else (bif Nat.beq pc 35 then some (.iconst 1, 1, 36, 0, 0, .int 1) else none))) else (bif Nat.blt pc 40 then (bif Nat.blt pc 37 then (bif Nat.beq pc 36 then some (.isub, 1, 37, 0, 0, .null) else none) else (bif Nat.beq pc 37 then some (.putfield 207, 3, 40, 0, 33, .null) else none)) else (bif Nat.blt pc 41 then (bif Nat.beq pc 40 then some (.aload_n 0, 1, 41, 0, 0, .null) else none) else (bif Nat.blt pc 44 then (bif Nat.beq pc 41 then some (.getfield 20, 3, 44, 0, 5, .null) else none) else (bif Nat.beq pc 44 then some (.aload_n 0, 1, 45, 0, 0, .null) else none))))) else (bif Nat.blt pc 54 then (bif Nat.blt pc 49 then (bif Nat.blt pc 48 then (bif Nat.beq pc 45 then some (.getfield 81, 3, 48, 0, 32, .null) else none) else (bif Nat.beq pc 48 then some (.aload_n 0, 1, 49, 0, 0, .null) else none)) else (bif Nat.blt pc 52 then (bif Nat.beq pc 49 then some (.getfield 207, 3, 52, 0, 33, .null) else none) else (bif Nat.blt pc 53 then (bif Nat.beq pc 52 then some (.iaload, 1, 53, 0, 0, .null) else none) else (bif Nat.beq pc 53 then some (.iload_n 1, 1, 54, 1, 0, .null) else none)))) else (bif Nat.blt pc 56 then (bif Nat.blt pc 55 then (bif Nat.beq pc 54 then some (.iastore, 1, 55, 0, 0, .null) else none) else (bif Nat.beq pc 55 then some (.iload_n 2, 1, 56, 2, 0, .null) else none)) else (bif Nat.blt pc 58 then (bif Nat.beq pc 56 then some (.bipush 38, 2, 58, 0, 0, .int 38) else none) else (bif Nat.blt pc 61 then (bif Nat.beq pc 58 then some (.if_icmp .eq 9, 3, 61, 67, 0, .null) else none) else (bif Nat.beq pc 61 then some (.iload_n 2, 1, 62, 2, 0, .null) else none))))))) else (bif Nat.blt pc 95 then (bif Nat.blt pc 78 then (bif Nat.blt pc 69 then (bif Nat.blt pc 67 then (bif Nat.blt pc 64 then (bif Nat.beq pc 62 then some (.bipush 124, 2, 64, 0, 0, .int 124) else none) else (bif Nat.beq pc 64 then some (.if_icmp .ne 31, 3, 67, 95, 0, .null) else none)) else (bif Nat.blt pc 68 then (bif Nat.beq pc 67 then some (.aload_n 0, 1, 68, 0, 0, .null) else none) else (bif Nat.beq pc 68 then some (.dup, 1, 69, 0, 0, .null) else none))) else (bif Nat.blt pc 73 then (bif Nat.blt pc 72 then (bif Nat.beq pc 69 then some (.getfield 207, 3, 72, 0, 33, .null) else none) else (bif Nat.beq pc 72 then some (.iconst 1, 1, 73, 0, 0, .int 1) else none)) else (bif Nat.blt pc 74 then (bif Nat.beq pc 73 then some (.isub, 1, 74, 0, 0, .null) else none) else (bif Nat.blt pc 77 then (bif Nat.beq pc 74 then some (.putfield 207, 3, 77, 0, 33, .null) else none) else (bif Nat.beq pc 77 then some (.aload_n 0, 1, 78, 0, 0, .null) else none))))) else (bif Nat.blt pc 86 then (bif Nat.blt pc 82 then (bif Nat.blt pc 81 then (bif Nat.beq pc 78 then some (.getfield 20, 3, 81, 0, 5, .null) else none) else (bif Nat.beq pc 81 then some (.aload_n 0, 1, 82, 0, 0, .null) else none)) else (bif Nat.blt pc 85 then (bif Nat.beq pc 82 then some (.getfield 81, 3, 85, 0, 32, .null) else none) else (bif Nat.beq pc 85 then some (.aload_n 0, 1, 86, 0, 0, .null) else none))) else (bif Nat.blt pc 90 then (bif Nat.blt pc 89 then (bif Nat.beq pc 86 then some (.getfield 207, 3, 89, 0, 33, .null) else none) else (bif Nat.beq pc 89 then some (.iaload, 1, 90, 0, 0, .null) else none)) else (bif Nat.blt pc 91 then (bif Nat.beq pc 90 then some (.iload_n 1, 1, 91, 1, 0, .null) else none) else (bif Nat.blt pc 92 then (bif Nat.beq pc 91 then some (.iastore, 1, 92, 0, 0, .null) else none) else (bif Nat.beq pc 92 then some (.goto 13, 3, 95, 105, 0, .null) else none)))))) else (bif Nat.blt pc 110 then (bif Nat.blt pc 101 then (bif Nat.blt pc 97 then (bif Nat.blt pc 96 then (bif Nat.beq pc 95 then some (.aload_n 0, 1, 96, 0, 0, .null) else none) else (bif Nat.beq pc 96 then some (.dup, 1, 97, 0, 0, .null) else none)) else (bif Nat.blt pc 100 then (bif Nat.beq pc 97 then some (.getfield 204, 3, 100, 0, 34, .null) else none) else (bif Nat.beq pc 100 then some (.iconst 1, 1, 101, 0, 0, .int 1) else none))) else (bif Nat.blt pc 105 then (bif Nat.blt pc 102 then (bif Nat.beq pc 101 then some (.isub, 1, 102, 0, 0, .null) else none) else (bif Nat.beq pc 102 then some (.putfield 204, 3, 105, 0, 34, .null) else none)) else (bif Nat.blt pc 106 then (bif Nat.beq pc 105 then some (.aload_n 0, 1, 106, 0, 0, .null) else none) else (bif Nat.blt pc 109 then (bif Nat.beq pc 106 then some (.getfield 81, 3, 109, 0, 32, .null) else none) else (bif Nat.beq pc 109 then some (.aload_n 0, 1, 110, 0, 0, .null) else none))))) else (bif Nat.blt pc 117 then (bif Nat.blt pc 114 then (bif Nat.blt pc 113 then (bif Nat.beq pc 110 then some (.getfield 207, 3, 113, 0, 33, .null) else none) else (bif Nat.beq pc 113 then some (.iload_n 1, 1, 114, 1, 0, .null) else none)) else (bif Nat.blt pc 115 then (bif Nat.beq pc 114 then some (.iastore, 1, 115, 0, 0, .null) else none) else (bif Nat.blt pc 116 then (bif Nat.beq pc 115 then some (.aload_n 0, 1, 116, 0, 0, .null) else none) else (bif Nat.beq pc 116 then some (.dup, 1, 117, 0, 0, .null) else none)))) else (bif Nat.blt pc 121 then (bif Nat.blt pc 120 then (bif Nat.beq pc 117 then some (.getfield 207, 3, 120, 0, 33, .null) else none) else (bif Nat.beq pc 120 then some (.iconst 1, 1, 121, 0, 0, .int 1) else none)) else (bif Nat.blt pc 122 then (bif Nat.beq pc 121 then some (.iadd, 1, 122, 0, 0, .null) else none) else (bif Nat.blt pc 125 then (bif Nat.beq pc 122 then some (.putfield 207, 3, 125, 0, 33, .null) else none) else (bif Nat.beq pc 125 then some (.return_, 1, 126, 0, 0, .null) else none)))))))
def rq_T17 (pc : Nat) : Option pv_I := bif Nat.blt pc 126 then rq_U17 pc else none
def rq_U18 (pc : Nat) : Option pv_I := bif Nat.blt pc 36 then (bif Nat.blt pc 16 then (bif Nat.blt pc 8 then (bif Nat.blt pc 3 then (bif Nat.blt pc 1 then (bif Nat.beq pc 0 then some (.iconst 1, 1, 1, 0, 0, .int 1) else none) else (bif Nat.beq pc 1 then some (.istore 4, 2, 3, 4, 0, .null) else none)) else (bif Nat.blt pc 5 then (bif Nat.beq pc 3 then some (.iload 4, 2, 5, 4, 0, .null) else none) else (bif Nat.beq pc 5 then some (.ifCond .eq 68, 3, 8, 73, 0, .null) else none))) else (bif Nat.blt pc 12 then (bif Nat.blt pc 9 then (bif Nat.beq pc 8 then some (.aload_n 0, 1, 9, 0, 0, .null) else none) else (bif Nat.beq pc 9 then some (.invokevirtual 210, 3, 12, 16, 0, .ref 0) else none)) else (bif Nat.blt pc 14 then (bif Nat.beq pc 12 then some (.istore 5, 2, 14, 5, 0, .null) else none) else (bif Nat.beq pc 14 then some (.iload 5, 2, 16, 5, 0, .null) else none)))) else (bif Nat.blt pc 25 then (bif Nat.blt pc 21 then (bif Nat.blt pc 18 then (bif Nat.beq pc 16 then some (.bipush 38, 2, 18, 0, 0, .int 38) else none) else (bif Nat.beq pc 18 then some (.if_icmp .ne 7, 3, 21, 25, 0, .null) else none)) else (bif Nat.blt pc 22 then (bif Nat.beq pc 21 then some (.iload_n 1, 1, 22, 1, 0, .null) else none) else (bif Nat.beq pc 22 then some (.ifCond .ne 32, 3, 25, 54, 0, .null) else none))) else (bif Nat.blt pc 29 then (bif Nat.blt pc 27 then (bif Nat.beq pc 25 then some (.iload 5, 2, 27, 5, 0, .null) else none) else (bif Nat.beq pc 27 then some (.bipush 124, 2, 29, 0, 0, .int 124) else none)) else (bif Nat.blt pc 32 then (bif Nat.beq pc 29 then some (.if_icmp .ne 7, 3, 32, 36, 0, .null) else none) else (bif Nat.blt pc 33 then (bif Nat.beq pc 32 then some (.iload_n 2, 1, 33, 2, 0, .null) else none) else (bif Nat.beq pc 33 then some (.ifCond .ne 21, 3, 36, 54, 0, .null) else none)))))) else (bif Nat.blt pc 55 then (bif Nat.blt pc 45 then (bif Nat.blt pc 40 then (bif Nat.blt pc 38 then (bif Nat.beq pc 36 then some (.iload 5, 2, 38, 5, 0, .null) else none) else (bif Nat.beq pc 38 then some (.bipush 61, 2, 40, 0, 0, .int 61) else none)) else (bif Nat.blt pc 43 then (bif Nat.beq pc 40 then some (.if_icmp .eq 10, 3, 43, 50, 0, .null) else none) else (bif Nat.beq pc 43 then some (.iload 5, 2, 45, 5, 0, .null) else none))) else (bif Nat.blt pc 50 then (bif Nat.blt pc 47 then (bif Nat.beq pc 45 then some (.bipush 58, 2, 47, 0, 0, .int 58) else none) else (bif Nat.beq pc 47 then some (.if_icmp .ne 11, 3, 50, 58, 0, .null) else none)) else (bif Nat.blt pc 51 then (bif Nat.beq pc 50 then some (.iload_n 3, 1, 51, 3, 0, .null) else none) else (bif Nat.blt pc 54 then (bif Nat.beq pc 51 then some (.ifCond .eq 7, 3, 54, 58, 0, .null) else none) else (bif Nat.beq pc 54 then some (.iconst 1, 1, 55, 0, 0, .int 1) else none))))) else (bif Nat.blt pc 63 then (bif Nat.blt pc 59 then (bif Nat.blt pc 58 then (bif Nat.beq pc 55 then some (.goto 4, 3, 58, 59, 0, .null) else none) else (bif Nat.beq pc 58 then some (.iconst 0, 1, 59, 0, 0, .int 0) else none)) else (bif Nat.blt pc 61 then (bif Nat.beq pc 59 then some (.istore 4, 2, 61, 4, 0, .null) else none) else (bif Nat.beq pc 61 then some (.iload 4, 2, 63, 4, 0, .null) else none))) else (bif Nat.blt pc 67 then (bif Nat.blt pc 66 then (bif Nat.beq pc 63 then some (.ifCond .eq 7, 3, 66, 70, 0, .null) else none) else (bif Nat.beq pc 66 then some (.aload_n 0, 1, 67, 0, 0, .null) else none)) else (bif Nat.blt pc 70 then (bif Nat.beq pc 67 then some (.invokevirtual 213, 3, 70, 17, 0, .ref 0) else none) else (bif Nat.blt pc 73 then (bif Nat.beq pc 70 then some (.goto (-67), 3, 73, 3, 0, .null) else none) else (bif Nat.beq pc 73 then some (.return_, 1, 74, 0, 0, .null) else none))))))
def rq_T18 (pc : Nat) : Option pv_I := bif Nat.blt pc 74 then rq_U18 pc else none
def rq_U19 (pc : Nat) : Option pv_I := bif Nat.blt pc 24 then (bif Nat.blt pc 12 then (bif Nat.blt pc 6 then (bif Nat.blt pc 4 then (bif Nat.blt pc 1 then (bif Nat.beq pc 0 then some (.aload_n 0, 1, 1, 0, 0, .null) else none) else (bif Nat.beq pc 1 then some (.getfield 201, 3, 4, 0, 31, .null) else none)) else (bif Nat.blt pc 5 then (bif Nat.beq pc 4 then some (.iconst 1, 1, 5, 0, 0, .int 1) else none) else (bif Nat.beq pc 5 then some (.isub, 1, 6, 0, 0, .null) else none))) else (bif Nat.blt pc 8 then (bif Nat.blt pc 7 then (bif Nat.beq pc 6 then some (.istore_n 2, 1, 7, 2, 0, .null) else none) else (bif Nat.beq pc 7 then some (.iload_n 2, 1, 8, 2, 0, .null) else none)) else (bif Nat.blt pc 11 then (bif Nat.beq pc 8 then some (.ifCond .lt 45, 3, 11, 53, 0, .null) else none) else (bif Nat.beq pc 11 then some (.aload_n 0, 1, 12, 0, 0, .null) else none)))) else (bif Nat.blt pc 18 then (bif Nat.blt pc 16 then (bif Nat.blt pc 15 then (bif Nat.beq pc 12 then some (.getfield 75, 3, 15, 0, 29, .null) else none) else (bif Nat.beq pc 15 then some (.iload_n 2, 1, 16, 2, 0, .null) else none)) else (bif Nat.blt pc 17 then (bif Nat.beq pc 16 then some (.iaload, 1, 17, 0, 0, .null) else none) else (bif Nat.beq pc 17 then some (.iload_n 1, 1, 18, 1, 0, .null) else none))) else (bif Nat.blt pc 22 then (bif Nat.blt pc 21 then (bif Nat.beq pc 18 then some (.if_icmp .ne 5, 3, 21, 23, 0, .null) else none) else (bif Nat.beq pc 21 then some (.iconst 1, 1, 22, 0, 0, .int 1) else none)) else (bif Nat.blt pc 23 then (bif Nat.beq pc 22 then some (.ireturn, 1, 23, 0, 0, .null) else none) else (bif Nat.beq pc 23 then some (.aload_n 0, 1, 24, 0, 0, .null) else none))))) else (bif Nat.blt pc 39 then (bif Nat.blt pc 31 then (bif Nat.blt pc 28 then (bif Nat.blt pc 27 then (bif Nat.beq pc 24 then some (.getfield 75, 3, 27, 0, 29, .null) else none) else (bif Nat.beq pc 27 then some (.iload_n 2, 1, 28, 2, 0, .null) else none)) else (bif Nat.blt pc 29 then (bif Nat.beq pc 28 then some (.iaload, 1, 29, 0, 0, .null) else none) else (bif Nat.beq pc 29 then some (.bipush 40, 2, 31, 0, 0, .int 40) else none))) else (bif Nat.blt pc 35 then (bif Nat.blt pc 34 then (bif Nat.beq pc 31 then some (.if_icmp .eq 14, 3, 34, 45, 0, .null) else none) else (bif Nat.beq pc 34 then some (.aload_n 0, 1, 35, 0, 0, .null) else none)) else (bif Nat.blt pc 38 then (bif Nat.beq pc 35 then some (.getfield 75, 3, 38, 0, 29, .null) else none) else (bif Nat.beq pc 38 then some (.iload_n 2, 1, 39, 2, 0, .null) else none)))) else (bif Nat.blt pc 46 then (bif Nat.blt pc 42 then (bif Nat.blt pc 40 then (bif Nat.beq pc 39 then some (.iaload, 1, 40, 0, 0, .null) else none) else (bif Nat.beq pc 40 then some (.bipush 63, 2, 42, 0, 0, .int 63) else none)) else (bif Nat.blt pc 45 then (bif Nat.beq pc 42 then some (.if_icmp .ne 5, 3, 45, 47, 0, .null) else none) else (bif Nat.beq pc 45 then some (.iconst 0, 1, 46, 0, 0, .int 0) else none))) else (bif Nat.blt pc 50 then (bif Nat.blt pc 47 then (bif Nat.beq pc 46 then some (.ireturn, 1, 47, 0, 0, .null) else none) else (bif Nat.beq pc 47 then some (.iinc 2 (-1), 3, 50, 2, 0, .int (-1)) else none)) else (bif Nat.blt pc 53 then (bif Nat.beq pc 50 then some (.goto (-43), 3, 53, 7, 0, .null) else none) else (bif Nat.blt pc 54 then (bif Nat.beq pc 53 then some (.iconst 0, 1, 54, 0, 0, .int 0) else none) else (bif Nat.beq pc 54 then some (.ireturn, 1, 55, 0, 0, .null) else none))))))
def rq_T19 (pc : Nat) : Option pv_I := bif Nat.blt pc 55 then rq_U19 pc else none
def rq_U20 (pc : Nat) : Option pv_I := bif Nat.blt pc 19 then (bif Nat.blt pc 10 then (bif Nat.blt pc 3 then (bif Nat.blt pc 1 then (bif Nat.beq pc 0 then some (.aload_n 0, 1, 1, 0, 0, .null) else none) else (bif Nat.blt pc 2 then (bif Nat.beq pc 1 then some (.iload_n 1, 1, 2, 1, 0, .null) else none) else (bif Nat.beq pc 2 then some (.aload_n 0, 1, 3, 0, 0, .null) else none))) else (bif Nat.blt pc 6 then (bif Nat.beq pc 3 then some (.getfield 17, 3, 6, 0, 4, .null) else none) else (bif Nat.blt pc 7 then (bif Nat.beq pc 6 then some (.aload_n 0, 1, 7, 0, 0, .null) else none) else (bif Nat.beq pc 7 then some (.getfield 81, 3, 10, 0, 32, .null) else none)))) else (bif Nat.blt pc 15 then (bif Nat.blt pc 11 then (bif Nat.beq pc 10 then some (.aload_n 0, 1, 11, 0, 0, .null) else none) else (bif Nat.blt pc 14 then (bif Nat.beq pc 11 then some (.getfield 207, 3, 14, 0, 33, .null) else none) else (bif Nat.beq pc 14 then some (.iconst 1, 1, 15, 0, 0, .int 1) else none))) else (bif Nat.blt pc 17 then (bif Nat.blt pc 16 then (bif Nat.beq pc 15 then some (.isub, 1, 16, 0, 0, .null) else none) else (bif Nat.beq pc 16 then some (.iaload, 1, 17, 0, 0, .null) else none)) else (bif Nat.blt pc 18 then (bif Nat.beq pc 17 then some (.iaload, 1, 18, 0, 0, .null) else none) else (bif Nat.beq pc 18 then some (.iconst 0, 1, 19, 0, 0, .int 0) else none))))) else (bif Nat.blt pc 30 then (bif Nat.blt pc 24 then (bif Nat.blt pc 22 then (bif Nat.beq pc 19 then some (.invokevirtual 216, 3, 22, 13, 3, .ref 0) else none) else (bif Nat.blt pc 23 then (bif Nat.beq pc 22 then some (.istore_n 2, 1, 23, 2, 0, .null) else none) else (bif Nat.beq pc 23 then some (.aload_n 0, 1, 24, 0, 0, .null) else none))) else (bif Nat.blt pc 26 then (bif Nat.blt pc 25 then (bif Nat.beq pc 24 then some (.iload_n 1, 1, 25, 1, 0, .null) else none) else (bif Nat.beq pc 25 then some (.iload_n 2, 1, 26, 2, 0, .null) else none)) else (bif Nat.blt pc 29 then (bif Nat.beq pc 26 then some (.invokevirtual 220, 3, 29, 14, 2, .ref 0) else none) else (bif Nat.beq pc 29 then some (.aload_n 0, 1, 30, 0, 0, .null) else none)))) else (bif Nat.blt pc 35 then (bif Nat.blt pc 31 then (bif Nat.beq pc 30 then some (.dup, 1, 31, 0, 0, .null) else none) else (bif Nat.blt pc 34 then (bif Nat.beq pc 31 then some (.getfield 171, 3, 34, 0, 26, .null) else none) else (bif Nat.beq pc 34 then some (.iconst 1, 1, 35, 0, 0, .int 1) else none))) else (bif Nat.blt pc 39 then (bif Nat.blt pc 36 then (bif Nat.beq pc 35 then some (.iadd, 1, 36, 0, 0, .null) else none) else (bif Nat.beq pc 36 then some (.putfield 171, 3, 39, 0, 26, .null) else none)) else (bif Nat.blt pc 40 then (bif Nat.beq pc 39 then some (.iload_n 2, 1, 40, 2, 0, .null) else none) else (bif Nat.beq pc 40 then some (.ireturn, 1, 41, 0, 0, .null) else none)))))
def rq_T20 (pc : Nat) : Option pv_I := bif Nat.blt pc 41 then rq_U20 pc else none
def rq_U21 (pc : Nat) : Option pv_I := bif Nat.blt pc 161 then (bif Nat.blt pc 80 then (bif Nat.blt pc 35 then (bif Nat.blt pc 16 then (bif Nat.blt pc 7 then (bif Nat.blt pc 2 then (bif Nat.blt pc 1 then (bif Nat.beq pc 0 then some (.aload_n 0, 1, 1, 0, 0, .null) else none) else (bif Nat.beq pc 1 then some (.iconst 0, 1, 2, 0, 0, .int 0) else none)) else (bif Nat.blt pc 5 then (bif Nat.beq pc 2 then some (.putfield 201, 3, 5, 0, 31, .null) else none) else (bif Nat.blt pc 6 then (bif Nat.beq pc 5 then some (.aload_n 0, 1, 6, 0, 0, .null) else none) else (bif Nat.beq pc 6 then some (.iconst 0, 1, 7, 0, 0, .int 0) else none)))) else (bif Nat.blt pc 11 then (bif Nat.blt pc 10 then (bif Nat.beq pc 7 then some (.putfield 207, 3, 10, 0, 33, .null) else none) else (bif Nat.beq pc 10 then some (.aload_n 0, 1, 11, 0, 0, .null) else none)) else (bif Nat.blt pc 12 then (bif Nat.beq pc 11 then some (.iconst 0, 1, 12, 0, 0, .int 0) else none) else (bif Nat.blt pc 15 then (bif Nat.beq pc 12 then some (.putfield 204, 3, 15, 0, 34, .null) else none) else (bif Nat.beq pc 15 then some (.aload_n 0, 1, 16, 0, 0, .null) else none))))) else (bif Nat.blt pc 23 then (bif Nat.blt pc 20 then (bif Nat.blt pc 19 then (bif Nat.beq pc 16 then some (.invokevirtual 224, 3, 19, 15, 0, .ref 0) else none) else (bif Nat.beq pc 19 then some (.iconst 1, 1, 20, 0, 0, .int 1) else none)) else (bif Nat.blt pc 21 then (bif Nat.beq pc 20 then some (.istore_n 2, 1, 21, 2, 0, .null) else none) else (bif Nat.blt pc 22 then (bif Nat.beq pc 21 then some (.iconst 1, 1, 22, 0, 0, .int 1) else none) else (bif Nat.beq pc 22 then some (.istore_n 3, 1, 23, 3, 0, .null) else none)))) else (bif Nat.blt pc 28 then (bif Nat.blt pc 24 then (bif Nat.beq pc 23 then some (.iconst 1, 1, 24, 0, 0, .int 1) else none) else (bif Nat.blt pc 26 then (bif Nat.beq pc 24 then some (.istore 4, 2, 26, 4, 0, .null) else none) else (bif Nat.beq pc 26 then some (.iload 4, 2, 28, 4, 0, .null) else none))) else (bif Nat.blt pc 31 then (bif Nat.beq pc 28 then some (.ifCond .eq 261, 3, 31, 289, 0, .null) else none) else (bif Nat.blt pc 32 then (bif Nat.beq pc 31 then some (.aload_n 0, 1, 32, 0, 0, .null) else none) else (bif Nat.beq pc 32 then some (.invokevirtual 187, 3, 35, 8, 0, .ref 0) else none)))))) else (bif Nat.blt pc 59 then (bif Nat.blt pc 45 then (bif Nat.blt pc 39 then (bif Nat.blt pc 38 then (bif Nat.beq pc 35 then some (.ifCond .eq 254, 3, 38, 289, 0, .null) else none) else (bif Nat.beq pc 38 then some (.aload_n 0, 1, 39, 0, 0, .null) else none)) else (bif Nat.blt pc 42 then (bif Nat.beq pc 39 then some (.invokevirtual 191, 3, 42, 5, 0, .ref 0) else none) else (bif Nat.blt pc 44 then (bif Nat.beq pc 42 then some (.istore 5, 2, 44, 5, 0, .null) else none) else (bif Nat.beq pc 44 then some (.iload_n 2, 1, 45, 2, 0, .null) else none)))) else (bif Nat.blt pc 53 then (bif Nat.blt pc 48 then (bif Nat.beq pc 45 then some (.ifCond .eq 183, 3, 48, 228, 0, .null) else none) else (bif Nat.blt pc 50 then (bif Nat.beq pc 48 then some (.iload 5, 2, 50, 5, 0, .null) else none) else (bif Nat.beq pc 50 then some (.invokestatic 227, 3, 53, 10, 1, .null) else none))) else (bif Nat.blt pc 56 then (bif Nat.beq pc 53 then some (.ifCond .eq 16, 3, 56, 69, 0, .null) else none) else (bif Nat.blt pc 57 then (bif Nat.beq pc 56 then some (.aload_n 0, 1, 57, 0, 0, .null) else none) else (bif Nat.beq pc 57 then some (.iload 5, 2, 59, 5, 0, .null) else none))))) else (bif Nat.blt pc 66 then (bif Nat.blt pc 63 then (bif Nat.blt pc 60 then (bif Nat.beq pc 59 then some (.iload_n 3, 1, 60, 3, 0, .null) else none) else (bif Nat.beq pc 60 then some (.invokevirtual 231, 3, 63, 22, 2, .ref 0) else none)) else (bif Nat.blt pc 64 then (bif Nat.beq pc 63 then some (.istore_n 2, 1, 64, 2, 0, .null) else none) else (bif Nat.blt pc 65 then (bif Nat.beq pc 64 then some (.iload_n 2, 1, 65, 2, 0, .null) else none) else (bif Nat.beq pc 65 then some (.istore_n 3, 1, 66, 3, 0, .null) else none)))) else (bif Nat.blt pc 73 then (bif Nat.blt pc 69 then (bif Nat.beq pc 66 then some (.goto 193, 3, 69, 259, 0, .null) else none) else (bif Nat.blt pc 71 then (bif Nat.beq pc 69 then some (.iload 5, 2, 71, 5, 0, .null) else none) else (bif Nat.beq pc 71 then some (.bipush 48, 2, 73, 0, 0, .int 48) else none))) else (bif Nat.blt pc 76 then (bif Nat.beq pc 73 then some (.if_icmp .eq 17, 3, 76, 90, 0, .null) else none) else (bif Nat.blt pc 78 then (bif Nat.beq pc 76 then some (.iload 5, 2, 78, 5, 0, .null) else none) else (bif Nat.beq pc 78 then some (.bipush 49, 2, 80, 0, 0, .int 49) else none))))))) else (bif Nat.blt pc 121 then (bif Nat.blt pc 102 then (bif Nat.blt pc 91 then (bif Nat.blt pc 85 then (bif Nat.blt pc 83 then (bif Nat.beq pc 80 then some (.if_icmp .eq 10, 3, 83, 90, 0, .null) else none) else (bif Nat.beq pc 83 then some (.iload 5, 2, 85, 5, 0, .null) else none)) else (bif Nat.blt pc 87 then (bif Nat.beq pc 85 then some (.bipush 35, 2, 87, 0, 0, .int 35) else none) else (bif Nat.blt pc 90 then (bif Nat.beq pc 87 then some (.if_icmp .ne 48, 3, 90, 135, 0, .null) else none) else (bif Nat.beq pc 90 then some (.aload_n 0, 1, 91, 0, 0, .null) else none)))) else (bif Nat.blt pc 98 then (bif Nat.blt pc 94 then (bif Nat.beq pc 91 then some (.getfield 81, 3, 94, 0, 32, .null) else none) else (bif Nat.blt pc 95 then (bif Nat.beq pc 94 then some (.aload_n 0, 1, 95, 0, 0, .null) else none) else (bif Nat.beq pc 95 then some (.getfield 207, 3, 98, 0, 33, .null) else none))) else (bif Nat.blt pc 99 then (bif Nat.beq pc 98 then some (.aload_n 0, 1, 99, 0, 0, .null) else none) else (bif Nat.blt pc 101 then (bif Nat.beq pc 99 then some (.iload 5, 2, 101, 5, 0, .null) else none) else (bif Nat.beq pc 101 then some (.aload_n 0, 1, 102, 0, 0, .null) else none))))) else (bif Nat.blt pc 111 then (bif Nat.blt pc 106 then (bif Nat.blt pc 105 then (bif Nat.beq pc 102 then some (.getfield 171, 3, 105, 0, 26, .null) else none) else (bif Nat.beq pc 105 then some (.iconst 0, 1, 106, 0, 0, .int 0) else none)) else (bif Nat.blt pc 109 then (bif Nat.beq pc 106 then some (.invokevirtual 216, 3, 109, 13, 3, .ref 0) else none) else (bif Nat.blt pc 110 then (bif Nat.beq pc 109 then some (.iastore, 1, 110, 0, 0, .null) else none) else (bif Nat.beq pc 110 then some (.aload_n 0, 1, 111, 0, 0, .null) else none)))) else (bif Nat.blt pc 116 then (bif Nat.blt pc 112 then (bif Nat.beq pc 111 then some (.dup, 1, 112, 0, 0, .null) else none) else (bif Nat.blt pc 115 then (bif Nat.beq pc 112 then some (.getfield 207, 3, 115, 0, 33, .null) else none) else (bif Nat.beq pc 115 then some (.iconst 1, 1, 116, 0, 0, .int 1) else none))) else (bif Nat.blt pc 117 then (bif Nat.beq pc 116 then some (.iadd, 1, 117, 0, 0, .null) else none) else (bif Nat.blt pc 120 then (bif Nat.beq pc 117 then some (.putfield 207, 3, 120, 0, 33, .null) else none) else (bif Nat.beq pc 120 then some (.aload_n 0, 1, 121, 0, 0, .null) else none)))))) else (bif Nat.blt pc 142 then (bif Nat.blt pc 130 then (bif Nat.blt pc 125 then (bif Nat.blt pc 122 then (bif Nat.beq pc 121 then some (.dup, 1, 122, 0, 0, .null) else none) else (bif Nat.beq pc 122 then some (.getfield 171, 3, 125, 0, 26, .null) else none)) else (bif Nat.blt pc 126 then (bif Nat.beq pc 125 then some (.iconst 1, 1, 126, 0, 0, .int 1) else none) else (bif Nat.blt pc 127 then (bif Nat.beq pc 126 then some (.iadd, 1, 127, 0, 0, .null) else none) else (bif Nat.beq pc 127 then some (.putfield 171, 3, 130, 0, 26, .null) else none)))) else (bif Nat.blt pc 135 then (bif Nat.blt pc 131 then (bif Nat.beq pc 130 then some (.iconst 0, 1, 131, 0, 0, .int 0) else none) else (bif Nat.blt pc 132 then (bif Nat.beq pc 131 then some (.istore_n 2, 1, 132, 2, 0, .null) else none) else (bif Nat.beq pc 132 then some (.goto 127, 3, 135, 259, 0, .null) else none))) else (bif Nat.blt pc 137 then (bif Nat.beq pc 135 then some (.iload 5, 2, 137, 5, 0, .null) else none) else (bif Nat.blt pc 139 then (bif Nat.beq pc 137 then some (.bipush 33, 2, 139, 0, 0, .int 33) else none) else (bif Nat.beq pc 139 then some (.if_icmp .ne 44, 3, 142, 183, 0, .null) else none))))) else (bif Nat.blt pc 149 then (bif Nat.blt pc 145 then (bif Nat.blt pc 143 then (bif Nat.beq pc 142 then some (.aload_n 0, 1, 143, 0, 0, .null) else none) else (bif Nat.beq pc 143 then some (.bipush 33, 2, 145, 0, 0, .int 33) else none)) else (bif Nat.blt pc 146 then (bif Nat.beq pc 145 then some (.aload_n 0, 1, 146, 0, 0, .null) else none) else (bif Nat.blt pc 148 then (bif Nat.beq pc 146 then some (.bipush 33, 2, 148, 0, 0, .int 33) else none) else (bif Nat.beq pc 148 then some (.aload_n 0, 1, 149, 0, 0, .null) else none)))) else (bif Nat.blt pc 156 then (bif Nat.blt pc 152 then (bif Nat.beq pc 149 then some (.getfield 171, 3, 152, 0, 26, .null) else none) else (bif Nat.blt pc 153 then (bif Nat.beq pc 152 then some (.iconst 0, 1, 153, 0, 0, .int 0) else none) else (bif Nat.beq pc 153 then some (.invokevirtual 216, 3, 156, 13, 3, .ref 0) else none))) else (bif Nat.blt pc 159 then (bif Nat.beq pc 156 then some (.invokevirtual 220, 3, 159, 14, 2, .ref 0) else none) else (bif Nat.blt pc 160 then (bif Nat.beq pc 159 then some (.aload_n 0, 1, 160, 0, 0, .null) else none) else (bif Nat.beq pc 160 then some (.dup, 1, 161, 0, 0, .null) else none)))))))) else (bif Nat.blt pc 245 then (bif Nat.blt pc 202 then (bif Nat.blt pc 180 then (bif Nat.blt pc 170 then (bif Nat.blt pc 165 then (bif Nat.blt pc 164 then (bif Nat.beq pc 161 then some (.getfield 171, 3, 164, 0, 26, .null) else none) else (bif Nat.beq pc 164 then some (.iconst 1, 1, 165, 0, 0, .int 1) else none)) else (bif Nat.blt pc 166 then (bif Nat.beq pc 165 then some (.iadd, 1, 166, 0, 0, .null) else none) else (bif Nat.blt pc 169 then (bif Nat.beq pc 166 then some (.putfield 171, 3, 169, 0, 26, .null) else none) else (bif Nat.beq pc 169 then some (.iconst 0, 1, 170, 0, 0, .int 0) else none)))) else (bif Nat.blt pc 175 then (bif Nat.blt pc 171 then (bif Nat.beq pc 170 then some (.istore_n 3, 1, 171, 3, 0, .null) else none) else (bif Nat.blt pc 172 then (bif Nat.beq pc 171 then some (.aload_n 0, 1, 172, 0, 0, .null) else none) else (bif Nat.beq pc 172 then some (.invokevirtual 191, 3, 175, 5, 0, .ref 0) else none))) else (bif Nat.blt pc 176 then (bif Nat.beq pc 175 then some (.pop, 1, 176, 0, 0, .null) else none) else (bif Nat.blt pc 177 then (bif Nat.beq pc 176 then some (.aload_n 0, 1, 177, 0, 0, .null) else none) else (bif Nat.beq pc 177 then some (.invokevirtual 224, 3, 180, 15, 0, .ref 0) else none))))) else (bif Nat.blt pc 191 then (bif Nat.blt pc 185 then (bif Nat.blt pc 183 then (bif Nat.beq pc 180 then some (.goto 79, 3, 183, 259, 0, .null) else none) else (bif Nat.beq pc 183 then some (.iload 5, 2, 185, 5, 0, .null) else none)) else (bif Nat.blt pc 187 then (bif Nat.beq pc 185 then some (.bipush 40, 2, 187, 0, 0, .int 40) else none) else (bif Nat.blt pc 190 then (bif Nat.beq pc 187 then some (.if_icmp .ne 34, 3, 190, 221, 0, .null) else none) else (bif Nat.beq pc 190 then some (.aload_n 0, 1, 191, 0, 0, .null) else none)))) else (bif Nat.blt pc 197 then (bif Nat.blt pc 193 then (bif Nat.beq pc 191 then some (.bipush 40, 2, 193, 0, 0, .int 40) else none) else (bif Nat.blt pc 194 then (bif Nat.beq pc 193 then some (.iconst (-1), 1, 194, 0, 0, .int (-1)) else none) else (bif Nat.beq pc 194 then some (.invokevirtual 220, 3, 197, 14, 2, .ref 0) else none))) else (bif Nat.blt pc 198 then (bif Nat.beq pc 197 then some (.aload_n 0, 1, 198, 0, 0, .null) else none) else (bif Nat.blt pc 199 then (bif Nat.beq pc 198 then some (.dup, 1, 199, 0, 0, .null) else none) else (bif Nat.beq pc 199 then some (.getfield 171, 3, 202, 0, 26, .null) else none)))))) else (bif Nat.blt pc 221 then (bif Nat.blt pc 209 then (bif Nat.blt pc 204 then (bif Nat.blt pc 203 then (bif Nat.beq pc 202 then some (.iconst 1, 1, 203, 0, 0, .int 1) else none) else (bif Nat.beq pc 203 then some (.iadd, 1, 204, 0, 0, .null) else none)) else (bif Nat.blt pc 207 then (bif Nat.beq pc 204 then some (.putfield 171, 3, 207, 0, 26, .null) else none) else (bif Nat.blt pc 208 then (bif Nat.beq pc 207 then some (.iconst 1, 1, 208, 0, 0, .int 1) else none) else (bif Nat.beq pc 208 then some (.istore_n 3, 1, 209, 3, 0, .null) else none)))) else (bif Nat.blt pc 214 then (bif Nat.blt pc 210 then (bif Nat.beq pc 209 then some (.aload_n 0, 1, 210, 0, 0, .null) else none) else (bif Nat.blt pc 213 then (bif Nat.beq pc 210 then some (.invokevirtual 191, 3, 213, 5, 0, .ref 0) else none) else (bif Nat.beq pc 213 then some (.pop, 1, 214, 0, 0, .null) else none))) else (bif Nat.blt pc 215 then (bif Nat.beq pc 214 then some (.aload_n 0, 1, 215, 0, 0, .null) else none) else (bif Nat.blt pc 218 then (bif Nat.beq pc 215 then some (.invokevirtual 224, 3, 218, 15, 0, .ref 0) else none) else (bif Nat.beq pc 218 then some (.goto 41, 3, 221, 259, 0, .null) else none))))) else (bif Nat.blt pc 231 then (bif Nat.blt pc 225 then (bif Nat.blt pc 222 then (bif Nat.beq pc 221 then some (.aload_n 0, 1, 222, 0, 0, .null) else none) else (bif Nat.beq pc 222 then some (.invokevirtual 195, 3, 225, 7, 0, .ref 0) else none)) else (bif Nat.blt pc 228 then (bif Nat.beq pc 225 then some (.goto 34, 3, 228, 259, 0, .null) else none) else (bif Nat.blt pc 229 then (bif Nat.beq pc 228 then some (.aload_n 0, 1, 229, 0, 0, .null) else none) else (bif Nat.beq pc 229 then some (.iload 5, 2, 231, 5, 0, .null) else none)))) else (bif Nat.blt pc 238 then (bif Nat.blt pc 234 then (bif Nat.beq pc 231 then some (.invokevirtual 235, 3, 234, 23, 1, .ref 0) else none) else (bif Nat.blt pc 236 then (bif Nat.beq pc 234 then some (.istore 4, 2, 236, 4, 0, .null) else none) else (bif Nat.beq pc 236 then some (.iload 4, 2, 238, 4, 0, .null) else none))) else (bif Nat.blt pc 241 then (bif Nat.beq pc 238 then some (.ifCond .eq 14, 3, 241, 252, 0, .null) else none) else (bif Nat.blt pc 242 then (bif Nat.beq pc 241 then some (.aload_n 0, 1, 242, 0, 0, .null) else none) else (bif Nat.beq pc 242 then some (.getfield 238, 3, 245, 0, 35, .null) else none))))))) else (bif Nat.blt pc 290 then (bif Nat.blt pc 266 then (bif Nat.blt pc 254 then (bif Nat.blt pc 249 then (bif Nat.blt pc 248 then (bif Nat.beq pc 245 then some (.ifCond .eq 7, 3, 248, 252, 0, .null) else none) else (bif Nat.beq pc 248 then some (.iconst 1, 1, 249, 0, 0, .int 1) else none)) else (bif Nat.blt pc 252 then (bif Nat.beq pc 249 then some (.goto 4, 3, 252, 253, 0, .null) else none) else (bif Nat.blt pc 253 then (bif Nat.beq pc 252 then some (.iconst 0, 1, 253, 0, 0, .int 0) else none) else (bif Nat.beq pc 253 then some (.istore_n 2, 1, 254, 2, 0, .null) else none)))) else (bif Nat.blt pc 259 then (bif Nat.blt pc 255 then (bif Nat.beq pc 254 then some (.aload_n 0, 1, 255, 0, 0, .null) else none) else (bif Nat.blt pc 258 then (bif Nat.beq pc 255 then some (.getfield 242, 3, 258, 0, 36, .null) else none) else (bif Nat.beq pc 258 then some (.istore_n 3, 1, 259, 3, 0, .null) else none))) else (bif Nat.blt pc 260 then (bif Nat.beq pc 259 then some (.aload_n 0, 1, 260, 0, 0, .null) else none) else (bif Nat.blt pc 263 then (bif Nat.beq pc 260 then some (.invokevirtual 187, 3, 263, 8, 0, .ref 0) else none) else (bif Nat.beq pc 263 then some (.ifCond .eq 23, 3, 266, 286, 0, .null) else none))))) else (bif Nat.blt pc 276 then (bif Nat.blt pc 270 then (bif Nat.blt pc 267 then (bif Nat.beq pc 266 then some (.iload_n 2, 1, 267, 2, 0, .null) else none) else (bif Nat.beq pc 267 then some (.ifCond .ne 19, 3, 270, 286, 0, .null) else none)) else (bif Nat.blt pc 271 then (bif Nat.beq pc 270 then some (.aload_n 0, 1, 271, 0, 0, .null) else none) else (bif Nat.blt pc 274 then (bif Nat.beq pc 271 then some (.invokevirtual 210, 3, 274, 16, 0, .ref 0) else none) else (bif Nat.beq pc 274 then some (.bipush 33, 2, 276, 0, 0, .int 33) else none)))) else (bif Nat.blt pc 283 then (bif Nat.blt pc 279 then (bif Nat.beq pc 276 then some (.if_icmp .ne 10, 3, 279, 286, 0, .null) else none) else (bif Nat.blt pc 280 then (bif Nat.beq pc 279 then some (.aload_n 0, 1, 280, 0, 0, .null) else none) else (bif Nat.beq pc 280 then some (.invokevirtual 213, 3, 283, 17, 0, .ref 0) else none))) else (bif Nat.blt pc 286 then (bif Nat.beq pc 283 then some (.goto (-24), 3, 286, 259, 0, .null) else none) else (bif Nat.blt pc 289 then (bif Nat.beq pc 286 then some (.goto (-260), 3, 289, 26, 0, .null) else none) else (bif Nat.beq pc 289 then some (.aload_n 0, 1, 290, 0, 0, .null) else none)))))) else (bif Nat.blt pc 309 then (bif Nat.blt pc 299 then (bif Nat.blt pc 296 then (bif Nat.blt pc 293 then (bif Nat.beq pc 290 then some (.invokevirtual 187, 3, 293, 8, 0, .ref 0) else none) else (bif Nat.beq pc 293 then some (.ifCond .ne 5, 3, 296, 298, 0, .null) else none)) else (bif Nat.blt pc 297 then (bif Nat.beq pc 296 then some (.iconst (-1), 1, 297, 0, 0, .int (-1)) else none) else (bif Nat.blt pc 298 then (bif Nat.beq pc 297 then some (.ireturn, 1, 298, 0, 0, .null) else none) else (bif Nat.beq pc 298 then some (.aload_n 0, 1, 299, 0, 0, .null) else none)))) else (bif Nat.blt pc 302 then (bif Nat.blt pc 300 then (bif Nat.beq pc 299 then some (.iconst 1, 1, 300, 0, 0, .int 1) else none) else (bif Nat.blt pc 301 then (bif Nat.beq pc 300 then some (.iconst 1, 1, 301, 0, 0, .int 1) else none) else (bif Nat.beq pc 301 then some (.iconst 1, 1, 302, 0, 0, .int 1) else none))) else (bif Nat.blt pc 305 then (bif Nat.beq pc 302 then some (.invokevirtual 245, 3, 305, 18, 3, .ref 0) else none) else (bif Nat.blt pc 306 then (bif Nat.beq pc 305 then some (.aload_n 0, 1, 306, 0, 0, .null) else none) else (bif Nat.beq pc 306 then some (.getfield 20, 3, 309, 0, 5, .null) else none))))) else (bif Nat.blt pc 316 then (bif Nat.blt pc 313 then (bif Nat.blt pc 310 then (bif Nat.beq pc 309 then some (.aload_n 0, 1, 310, 0, 0, .null) else none) else (bif Nat.beq pc 310 then some (.getfield 81, 3, 313, 0, 32, .null) else none)) else (bif Nat.blt pc 314 then (bif Nat.beq pc 313 then some (.iconst 0, 1, 314, 0, 0, .int 0) else none) else (bif Nat.blt pc 315 then (bif Nat.beq pc 314 then some (.iaload, 1, 315, 0, 0, .null) else none) else (bif Nat.beq pc 315 then some (.iload_n 1, 1, 316, 1, 0, .null) else none)))) else (bif Nat.blt pc 321 then (bif Nat.blt pc 317 then (bif Nat.beq pc 316 then some (.iastore, 1, 317, 0, 0, .null) else none) else (bif Nat.blt pc 318 then (bif Nat.beq pc 317 then some (.aload_n 0, 1, 318, 0, 0, .null) else none) else (bif Nat.beq pc 318 then some (.getfield 81, 3, 321, 0, 32, .null) else none))) else (bif Nat.blt pc 322 then (bif Nat.beq pc 321 then some (.iconst 0, 1, 322, 0, 0, .int 0) else none) else (bif Nat.blt pc 323 then (bif Nat.beq pc 322 then some (.iaload, 1, 323, 0, 0, .null) else none) else (bif Nat.beq pc 323 then some (.ireturn, 1, 324, 0, 0, .null) else none))))))))
def rq_T21 (pc : Nat) : Option pv_I := bif Nat.blt pc 324 then rq_U21 pc else none
def rq_U22 (pc : Nat) : Option pv_I := bif Nat.blt pc 74 then (bif Nat.blt pc 34 then (bif Nat.blt pc 16 then (bif Nat.blt pc 9 then (bif Nat.blt pc 4 then (bif Nat.blt pc 1 then (bif Nat.beq pc 0 then some (.aload_n 0, 1, 1, 0, 0, .null) else none) else (bif Nat.beq pc 1 then some (.getfield 171, 3, 4, 0, 26, .null) else none)) else (bif Nat.blt pc 5 then (bif Nat.beq pc 4 then some (.istore_n 3, 1, 5, 3, 0, .null) else none) else (bif Nat.blt pc 6 then (bif Nat.beq pc 5 then some (.aload_n 0, 1, 6, 0, 0, .null) else none) else (bif Nat.beq pc 6 then some (.getfield 69, 3, 9, 0, 23, .null) else none)))) else (bif Nat.blt pc 12 then (bif Nat.blt pc 10 then (bif Nat.beq pc 9 then some (.iload_n 1, 1, 10, 1, 0, .null) else none) else (bif Nat.beq pc 10 then some (.bipush 97, 2, 12, 0, 0, .int 97) else none)) else (bif Nat.blt pc 13 then (bif Nat.beq pc 12 then some (.isub, 1, 13, 0, 0, .null) else none) else (bif Nat.blt pc 14 then (bif Nat.beq pc 13 then some (.iaload, 1, 14, 0, 0, .null) else none) else (bif Nat.beq pc 14 then some (.istore 4, 2, 16, 4, 0, .null) else none))))) else (bif Nat.blt pc 24 then (bif Nat.blt pc 19 then (bif Nat.blt pc 18 then (bif Nat.beq pc 16 then some (.iload 4, 2, 18, 4, 0, .null) else none) else (bif Nat.beq pc 18 then some (.iconst (-1), 1, 19, 0, 0, .int (-1)) else none)) else (bif Nat.blt pc 22 then (bif Nat.beq pc 19 then some (.if_icmp .ne 13, 3, 22, 32, 0, .null) else none) else (bif Nat.blt pc 23 then (bif Nat.beq pc 22 then some (.aload_n 0, 1, 23, 0, 0, .null) else none) else (bif Nat.beq pc 23 then some (.aload_n 0, 1, 24, 0, 0, .null) else none)))) else (bif Nat.blt pc 31 then (bif Nat.blt pc 27 then (bif Nat.beq pc 24 then some (.getfield 171, 3, 27, 0, 26, .null) else none) else (bif Nat.blt pc 30 then (bif Nat.beq pc 27 then some (.invokevirtual 183, 3, 30, 6, 1, .ref 0) else none) else (bif Nat.beq pc 30 then some (.iconst 0, 1, 31, 0, 0, .int 0) else none))) else (bif Nat.blt pc 32 then (bif Nat.beq pc 31 then some (.ireturn, 1, 32, 0, 0, .null) else none) else (bif Nat.blt pc 33 then (bif Nat.beq pc 32 then some (.aload_n 0, 1, 33, 0, 0, .null) else none) else (bif Nat.beq pc 33 then some (.dup, 1, 34, 0, 0, .null) else none)))))) else (bif Nat.blt pc 55 then (bif Nat.blt pc 43 then (bif Nat.blt pc 38 then (bif Nat.blt pc 37 then (bif Nat.beq pc 34 then some (.getfield 171, 3, 37, 0, 26, .null) else none) else (bif Nat.beq pc 37 then some (.iconst 1, 1, 38, 0, 0, .int 1) else none)) else (bif Nat.blt pc 39 then (bif Nat.beq pc 38 then some (.iadd, 1, 39, 0, 0, .null) else none) else (bif Nat.blt pc 42 then (bif Nat.beq pc 39 then some (.putfield 171, 3, 42, 0, 26, .null) else none) else (bif Nat.beq pc 42 then some (.iload_n 2, 1, 43, 2, 0, .null) else none)))) else (bif Nat.blt pc 47 then (bif Nat.blt pc 46 then (bif Nat.beq pc 43 then some (.ifCond .eq 60, 3, 46, 103, 0, .null) else none) else (bif Nat.beq pc 46 then some (.aload_n 0, 1, 47, 0, 0, .null) else none)) else (bif Nat.blt pc 50 then (bif Nat.beq pc 47 then some (.invokevirtual 191, 3, 50, 5, 0, .ref 0) else none) else (bif Nat.blt pc 52 then (bif Nat.beq pc 50 then some (.bipush 61, 2, 52, 0, 0, .int 61) else none) else (bif Nat.beq pc 52 then some (.if_icmp .ne 51, 3, 55, 103, 0, .null) else none))))) else (bif Nat.blt pc 63 then (bif Nat.blt pc 58 then (bif Nat.blt pc 56 then (bif Nat.beq pc 55 then some (.aload_n 0, 1, 56, 0, 0, .null) else none) else (bif Nat.beq pc 56 then some (.bipush 61, 2, 58, 0, 0, .int 61) else none)) else (bif Nat.blt pc 59 then (bif Nat.beq pc 58 then some (.iload_n 3, 1, 59, 3, 0, .null) else none) else (bif Nat.blt pc 60 then (bif Nat.beq pc 59 then some (.iconst 0, 1, 60, 0, 0, .int 0) else none) else (bif Nat.beq pc 60 then some (.invokevirtual 216, 3, 63, 13, 3, .ref 0) else none)))) else (bif Nat.blt pc 69 then (bif Nat.blt pc 65 then (bif Nat.beq pc 63 then some (.istore 5, 2, 65, 5, 0, .null) else none) else (bif Nat.blt pc 66 then (bif Nat.beq pc 65 then some (.aload_n 0, 1, 66, 0, 0, .null) else none) else (bif Nat.beq pc 66 then some (.getfield 26, 3, 69, 0, 7, .null) else none))) else (bif Nat.blt pc 71 then (bif Nat.beq pc 69 then some (.iload 5, 2, 71, 5, 0, .null) else none) else (bif Nat.blt pc 73 then (bif Nat.beq pc 71 then some (.iload 4, 2, 73, 4, 0, .null) else none) else (bif Nat.beq pc 73 then some (.iastore, 1, 74, 0, 0, .null) else none))))))) else (bif Nat.blt pc 107 then (bif Nat.blt pc 92 then (bif Nat.blt pc 83 then (bif Nat.blt pc 77 then (bif Nat.blt pc 75 then (bif Nat.beq pc 74 then some (.aload_n 0, 1, 75, 0, 0, .null) else none) else (bif Nat.beq pc 75 then some (.bipush 61, 2, 77, 0, 0, .int 61) else none)) else (bif Nat.blt pc 79 then (bif Nat.beq pc 77 then some (.iload 5, 2, 79, 5, 0, .null) else none) else (bif Nat.blt pc 82 then (bif Nat.beq pc 79 then some (.invokevirtual 220, 3, 82, 14, 2, .ref 0) else none) else (bif Nat.beq pc 82 then some (.aload_n 0, 1, 83, 0, 0, .null) else none)))) else (bif Nat.blt pc 87 then (bif Nat.blt pc 84 then (bif Nat.beq pc 83 then some (.dup, 1, 84, 0, 0, .null) else none) else (bif Nat.beq pc 84 then some (.getfield 171, 3, 87, 0, 26, .null) else none)) else (bif Nat.blt pc 88 then (bif Nat.beq pc 87 then some (.iconst 1, 1, 88, 0, 0, .int 1) else none) else (bif Nat.blt pc 89 then (bif Nat.beq pc 88 then some (.iadd, 1, 89, 0, 0, .null) else none) else (bif Nat.beq pc 89 then some (.putfield 171, 3, 92, 0, 26, .null) else none))))) else (bif Nat.blt pc 101 then (bif Nat.blt pc 96 then (bif Nat.blt pc 93 then (bif Nat.beq pc 92 then some (.aload_n 0, 1, 93, 0, 0, .null) else none) else (bif Nat.beq pc 93 then some (.invokevirtual 191, 3, 96, 5, 0, .ref 0) else none)) else (bif Nat.blt pc 97 then (bif Nat.beq pc 96 then some (.pop, 1, 97, 0, 0, .null) else none) else (bif Nat.blt pc 98 then (bif Nat.beq pc 97 then some (.aload_n 0, 1, 98, 0, 0, .null) else none) else (bif Nat.beq pc 98 then some (.invokevirtual 224, 3, 101, 15, 0, .ref 0) else none)))) else (bif Nat.blt pc 104 then (bif Nat.blt pc 102 then (bif Nat.beq pc 101 then some (.iconst 1, 1, 102, 0, 0, .int 1) else none) else (bif Nat.blt pc 103 then (bif Nat.beq pc 102 then some (.ireturn, 1, 103, 0, 0, .null) else none) else (bif Nat.beq pc 103 then some (.aload_n 0, 1, 104, 0, 0, .null) else none))) else (bif Nat.blt pc 105 then (bif Nat.beq pc 104 then some (.iload_n 1, 1, 105, 1, 0, .null) else none) else (bif Nat.blt pc 106 then (bif Nat.beq pc 105 then some (.iload_n 3, 1, 106, 3, 0, .null) else none) else (bif Nat.beq pc 106 then some (.iconst 0, 1, 107, 0, 0, .int 0) else none)))))) else (bif Nat.blt pc 126 then (bif Nat.blt pc 118 then (bif Nat.blt pc 112 then (bif Nat.blt pc 110 then (bif Nat.beq pc 107 then some (.invokevirtual 216, 3, 110, 13, 3, .ref 0) else none) else (bif Nat.beq pc 110 then some (.istore 5, 2, 112, 5, 0, .null) else none)) else (bif Nat.blt pc 113 then (bif Nat.beq pc 112 then some (.aload_n 0, 1, 113, 0, 0, .null) else none) else (bif Nat.blt pc 116 then (bif Nat.beq pc 113 then some (.getfield 26, 3, 116, 0, 7, .null) else none) else (bif Nat.beq pc 116 then some (.iload 5, 2, 118, 5, 0, .null) else none)))) else (bif Nat.blt pc 121 then (bif Nat.blt pc 120 then (bif Nat.beq pc 118 then some (.iload 4, 2, 120, 4, 0, .null) else none) else (bif Nat.beq pc 120 then some (.iastore, 1, 121, 0, 0, .null) else none)) else (bif Nat.blt pc 122 then (bif Nat.beq pc 121 then some (.aload_n 0, 1, 122, 0, 0, .null) else none) else (bif Nat.blt pc 125 then (bif Nat.beq pc 122 then some (.getfield 81, 3, 125, 0, 32, .null) else none) else (bif Nat.beq pc 125 then some (.aload_n 0, 1, 126, 0, 0, .null) else none))))) else (bif Nat.blt pc 134 then (bif Nat.blt pc 131 then (bif Nat.blt pc 129 then (bif Nat.beq pc 126 then some (.getfield 207, 3, 129, 0, 33, .null) else none) else (bif Nat.beq pc 129 then some (.iload 5, 2, 131, 5, 0, .null) else none)) else (bif Nat.blt pc 132 then (bif Nat.beq pc 131 then some (.iastore, 1, 132, 0, 0, .null) else none) else (bif Nat.blt pc 133 then (bif Nat.beq pc 132 then some (.aload_n 0, 1, 133, 0, 0, .null) else none) else (bif Nat.beq pc 133 then some (.dup, 1, 134, 0, 0, .null) else none)))) else (bif Nat.blt pc 139 then (bif Nat.blt pc 137 then (bif Nat.beq pc 134 then some (.getfield 207, 3, 137, 0, 33, .null) else none) else (bif Nat.blt pc 138 then (bif Nat.beq pc 137 then some (.iconst 1, 1, 138, 0, 0, .int 1) else none) else (bif Nat.beq pc 138 then some (.iadd, 1, 139, 0, 0, .null) else none))) else (bif Nat.blt pc 142 then (bif Nat.beq pc 139 then some (.putfield 207, 3, 142, 0, 33, .null) else none) else (bif Nat.blt pc 143 then (bif Nat.beq pc 142 then some (.iconst 0, 1, 143, 0, 0, .int 0) else none) else (bif Nat.beq pc 143 then some (.ireturn, 1, 144, 0, 0, .null) else none)))))))
def rq_T22 (pc : Nat) : Option pv_I := bif Nat.blt pc 144 then rq_U22 pc else none
def rq_U23 (pc : Nat) : Option pv_I := bif Nat.blt pc 147 then (bif Nat.blt pc 70 then (bif Nat.blt pc 35 then (bif Nat.blt pc 18 then (bif Nat.blt pc 7 then (bif Nat.blt pc 2 then (bif Nat.blt pc 1 then (bif Nat.beq pc 0 then some (.aload_n 0, 1, 1, 0, 0, .null) else none) else (bif Nat.beq pc 1 then some (.iconst 1, 1, 2, 0, 0, .int 1) else none)) else (bif Nat.blt pc 5 then (bif Nat.beq pc 2 then some (.putfield 238, 3, 5, 0, 35, .int 0) else none) else (bif Nat.blt pc 6 then (bif Nat.beq pc 5 then some (.aload_n 0, 1, 6, 0, 0, .null) else none) else (bif Nat.beq pc 6 then some (.iconst 0, 1, 7, 0, 0, .int 0) else none)))) else (bif Nat.blt pc 13 then (bif Nat.blt pc 10 then (bif Nat.beq pc 7 then some (.putfield 242, 3, 10, 0, 36, .int 0) else none) else (bif Nat.blt pc 11 then (bif Nat.beq pc 10 then some (.iload_n 1, 1, 11, 1, 0, .null) else none) else (bif Nat.beq pc 11 then some (.bipush 38, 2, 13, 0, 0, .int 38) else none))) else (bif Nat.blt pc 16 then (bif Nat.beq pc 13 then some (.if_icmp .ne 19, 3, 16, 32, 0, .null) else none) else (bif Nat.blt pc 17 then (bif Nat.beq pc 16 then some (.aload_n 0, 1, 17, 0, 0, .null) else none) else (bif Nat.beq pc 17 then some (.iconst 1, 1, 18, 0, 0, .int 1) else none))))) else (bif Nat.blt pc 26 then (bif Nat.blt pc 20 then (bif Nat.blt pc 19 then (bif Nat.beq pc 18 then some (.iconst 0, 1, 19, 0, 0, .int 0) else none) else (bif Nat.beq pc 19 then some (.iconst 0, 1, 20, 0, 0, .int 0) else none)) else (bif Nat.blt pc 23 then (bif Nat.beq pc 20 then some (.invokevirtual 245, 3, 23, 18, 3, .ref 0) else none) else (bif Nat.blt pc 24 then (bif Nat.beq pc 23 then some (.aload_n 0, 1, 24, 0, 0, .null) else none) else (bif Nat.beq pc 24 then some (.bipush 38, 2, 26, 0, 0, .int 38) else none)))) else (bif Nat.blt pc 31 then (bif Nat.blt pc 29 then (bif Nat.beq pc 26 then some (.invokevirtual 249, 3, 29, 20, 1, .ref 0) else none) else (bif Nat.blt pc 30 then (bif Nat.beq pc 29 then some (.pop, 1, 30, 0, 0, .null) else none) else (bif Nat.beq pc 30 then some (.iconst 1, 1, 31, 0, 0, .int 1) else none))) else (bif Nat.blt pc 32 then (bif Nat.beq pc 31 then some (.ireturn, 1, 32, 0, 0, .null) else none) else (bif Nat.blt pc 33 then (bif Nat.beq pc 32 then some (.iload_n 1, 1, 33, 1, 0, .null) else none) else (bif Nat.beq pc 33 then some (.bipush 124, 2, 35, 0, 0, .int 124) else none)))))) else (bif Nat.blt pc 53 then (bif Nat.blt pc 42 then (bif Nat.blt pc 39 then (bif Nat.blt pc 38 then (bif Nat.beq pc 35 then some (.if_icmp .ne 19, 3, 38, 54, 0, .null) else none) else (bif Nat.beq pc 38 then some (.aload_n 0, 1, 39, 0, 0, .null) else none)) else (bif Nat.blt pc 40 then (bif Nat.beq pc 39 then some (.iconst 1, 1, 40, 0, 0, .int 1) else none) else (bif Nat.blt pc 41 then (bif Nat.beq pc 40 then some (.iconst 1, 1, 41, 0, 0, .int 1) else none) else (bif Nat.beq pc 41 then some (.iconst 0, 1, 42, 0, 0, .int 0) else none)))) else (bif Nat.blt pc 48 then (bif Nat.blt pc 45 then (bif Nat.beq pc 42 then some (.invokevirtual 245, 3, 45, 18, 3, .ref 0) else none) else (bif Nat.blt pc 46 then (bif Nat.beq pc 45 then some (.aload_n 0, 1, 46, 0, 0, .null) else none) else (bif Nat.beq pc 46 then some (.bipush 124, 2, 48, 0, 0, .int 124) else none))) else (bif Nat.blt pc 51 then (bif Nat.beq pc 48 then some (.invokevirtual 249, 3, 51, 20, 1, .ref 0) else none) else (bif Nat.blt pc 52 then (bif Nat.beq pc 51 then some (.pop, 1, 52, 0, 0, .null) else none) else (bif Nat.beq pc 52 then some (.iconst 1, 1, 53, 0, 0, .int 1) else none))))) else (bif Nat.blt pc 61 then (bif Nat.blt pc 55 then (bif Nat.blt pc 54 then (bif Nat.beq pc 53 then some (.ireturn, 1, 54, 0, 0, .null) else none) else (bif Nat.beq pc 54 then some (.iload_n 1, 1, 55, 1, 0, .null) else none)) else (bif Nat.blt pc 57 then (bif Nat.beq pc 55 then some (.bipush 63, 2, 57, 0, 0, .int 63) else none) else (bif Nat.blt pc 60 then (bif Nat.beq pc 57 then some (.if_icmp .ne 58, 3, 60, 115, 0, .null) else none) else (bif Nat.beq pc 60 then some (.aload_n 0, 1, 61, 0, 0, .null) else none)))) else (bif Nat.blt pc 64 then (bif Nat.blt pc 62 then (bif Nat.beq pc 61 then some (.iconst 1, 1, 62, 0, 0, .int 1) else none) else (bif Nat.blt pc 63 then (bif Nat.beq pc 62 then some (.iconst 1, 1, 63, 0, 0, .int 1) else none) else (bif Nat.beq pc 63 then some (.iconst 0, 1, 64, 0, 0, .int 0) else none))) else (bif Nat.blt pc 67 then (bif Nat.beq pc 64 then some (.invokevirtual 245, 3, 67, 18, 3, .ref 0) else none) else (bif Nat.blt pc 68 then (bif Nat.beq pc 67 then some (.aload_n 0, 1, 68, 0, 0, .null) else none) else (bif Nat.beq pc 68 then some (.bipush 63, 2, 70, 0, 0, .int 63) else none))))))) else (bif Nat.blt pc 108 then (bif Nat.blt pc 89 then (bif Nat.blt pc 79 then (bif Nat.blt pc 74 then (bif Nat.blt pc 73 then (bif Nat.beq pc 70 then some (.invokevirtual 249, 3, 73, 20, 1, .ref 0) else none) else (bif Nat.beq pc 73 then some (.istore_n 2, 1, 74, 2, 0, .null) else none)) else (bif Nat.blt pc 75 then (bif Nat.beq pc 74 then some (.aload_n 0, 1, 75, 0, 0, .null) else none) else (bif Nat.blt pc 76 then (bif Nat.beq pc 75 then some (.dup, 1, 76, 0, 0, .null) else none) else (bif Nat.beq pc 76 then some (.getfield 207, 3, 79, 0, 33, .null) else none)))) else (bif Nat.blt pc 84 then (bif Nat.blt pc 80 then (bif Nat.beq pc 79 then some (.iconst 1, 1, 80, 0, 0, .int 1) else none) else (bif Nat.blt pc 81 then (bif Nat.beq pc 80 then some (.isub, 1, 81, 0, 0, .null) else none) else (bif Nat.beq pc 81 then some (.putfield 207, 3, 84, 0, 33, .null) else none))) else (bif Nat.blt pc 85 then (bif Nat.beq pc 84 then some (.aload_n 0, 1, 85, 0, 0, .null) else none) else (bif Nat.blt pc 88 then (bif Nat.beq pc 85 then some (.getfield 20, 3, 88, 0, 5, .null) else none) else (bif Nat.beq pc 88 then some (.aload_n 0, 1, 89, 0, 0, .null) else none))))) else (bif Nat.blt pc 98 then (bif Nat.blt pc 93 then (bif Nat.blt pc 92 then (bif Nat.beq pc 89 then some (.getfield 81, 3, 92, 0, 32, .null) else none) else (bif Nat.beq pc 92 then some (.aload_n 0, 1, 93, 0, 0, .null) else none)) else (bif Nat.blt pc 96 then (bif Nat.beq pc 93 then some (.getfield 207, 3, 96, 0, 33, .null) else none) else (bif Nat.blt pc 97 then (bif Nat.beq pc 96 then some (.iaload, 1, 97, 0, 0, .null) else none) else (bif Nat.beq pc 97 then some (.iload_n 2, 1, 98, 2, 0, .null) else none)))) else (bif Nat.blt pc 101 then (bif Nat.blt pc 99 then (bif Nat.beq pc 98 then some (.iastore, 1, 99, 0, 0, .null) else none) else (bif Nat.blt pc 100 then (bif Nat.beq pc 99 then some (.aload_n 0, 1, 100, 0, 0, .null) else none) else (bif Nat.beq pc 100 then some (.iconst 1, 1, 101, 0, 0, .int 1) else none))) else (bif Nat.blt pc 104 then (bif Nat.beq pc 101 then some (.putfield 242, 3, 104, 0, 36, .int 0) else none) else (bif Nat.blt pc 105 then (bif Nat.beq pc 104 then some (.aload_n 0, 1, 105, 0, 0, .null) else none) else (bif Nat.beq pc 105 then some (.invokevirtual 191, 3, 108, 5, 0, .ref 0) else none)))))) else (bif Nat.blt pc 127 then (bif Nat.blt pc 115 then (bif Nat.blt pc 110 then (bif Nat.blt pc 109 then (bif Nat.beq pc 108 then some (.pop, 1, 109, 0, 0, .null) else none) else (bif Nat.beq pc 109 then some (.aload_n 0, 1, 110, 0, 0, .null) else none)) else (bif Nat.blt pc 113 then (bif Nat.beq pc 110 then some (.invokevirtual 224, 3, 113, 15, 0, .ref 0) else none) else (bif Nat.blt pc 114 then (bif Nat.beq pc 113 then some (.iconst 1, 1, 114, 0, 0, .int 1) else none) else (bif Nat.beq pc 114 then some (.ireturn, 1, 115, 0, 0, .null) else none)))) else (bif Nat.blt pc 121 then (bif Nat.blt pc 116 then (bif Nat.beq pc 115 then some (.iload_n 1, 1, 116, 1, 0, .null) else none) else (bif Nat.blt pc 118 then (bif Nat.beq pc 116 then some (.bipush 58, 2, 118, 0, 0, .int 58) else none) else (bif Nat.beq pc 118 then some (.if_icmp .ne 98, 3, 121, 216, 0, .null) else none))) else (bif Nat.blt pc 122 then (bif Nat.beq pc 121 then some (.aload_n 0, 1, 122, 0, 0, .null) else none) else (bif Nat.blt pc 124 then (bif Nat.beq pc 122 then some (.bipush 63, 2, 124, 0, 0, .int 63) else none) else (bif Nat.beq pc 124 then some (.invokevirtual 253, 3, 127, 19, 1, .ref 0) else none))))) else (bif Nat.blt pc 137 then (bif Nat.blt pc 132 then (bif Nat.blt pc 130 then (bif Nat.beq pc 127 then some (.ifCond .eq 89, 3, 130, 216, 0, .null) else none) else (bif Nat.blt pc 131 then (bif Nat.beq pc 130 then some (.aload_n 0, 1, 131, 0, 0, .null) else none) else (bif Nat.beq pc 131 then some (.iconst 1, 1, 132, 0, 0, .int 1) else none))) else (bif Nat.blt pc 133 then (bif Nat.beq pc 132 then some (.iconst 1, 1, 133, 0, 0, .int 1) else none) else (bif Nat.blt pc 134 then (bif Nat.beq pc 133 then some (.iconst 1, 1, 134, 0, 0, .int 1) else none) else (bif Nat.beq pc 134 then some (.invokevirtual 245, 3, 137, 18, 3, .ref 0) else none)))) else (bif Nat.blt pc 142 then (bif Nat.blt pc 138 then (bif Nat.beq pc 137 then some (.aload_n 0, 1, 138, 0, 0, .null) else none) else (bif Nat.blt pc 139 then (bif Nat.beq pc 138 then some (.dup, 1, 139, 0, 0, .null) else none) else (bif Nat.beq pc 139 then some (.getfield 207, 3, 142, 0, 33, .null) else none))) else (bif Nat.blt pc 143 then (bif Nat.beq pc 142 then some (.iconst 1, 1, 143, 0, 0, .int 1) else none) else (bif Nat.blt pc 144 then (bif Nat.beq pc 143 then some (.isub, 1, 144, 0, 0, .null) else none) else (bif Nat.beq pc 144 then some (.putfield 207, 3, 147, 0, 33, .null) else none)))))))) else (bif Nat.blt pc 219 then (bif Nat.blt pc 184 then (bif Nat.blt pc 168 then (bif Nat.blt pc 156 then (bif Nat.blt pc 151 then (bif Nat.blt pc 148 then (bif Nat.beq pc 147 then some (.aload_n 0, 1, 148, 0, 0, .null) else none) else (bif Nat.beq pc 148 then some (.getfield 20, 3, 151, 0, 5, .null) else none)) else (bif Nat.blt pc 152 then (bif Nat.beq pc 151 then some (.aload_n 0, 1, 152, 0, 0, .null) else none) else (bif Nat.blt pc 155 then (bif Nat.beq pc 152 then some (.getfield 81, 3, 155, 0, 32, .null) else none) else (bif Nat.beq pc 155 then some (.aload_n 0, 1, 156, 0, 0, .null) else none)))) else (bif Nat.blt pc 161 then (bif Nat.blt pc 159 then (bif Nat.beq pc 156 then some (.getfield 207, 3, 159, 0, 33, .null) else none) else (bif Nat.blt pc 160 then (bif Nat.beq pc 159 then some (.iaload, 1, 160, 0, 0, .null) else none) else (bif Nat.beq pc 160 then some (.aload_n 0, 1, 161, 0, 0, .null) else none))) else (bif Nat.blt pc 164 then (bif Nat.beq pc 161 then some (.getfield 78, 3, 164, 0, 30, .null) else none) else (bif Nat.blt pc 165 then (bif Nat.beq pc 164 then some (.aload_n 0, 1, 165, 0, 0, .null) else none) else (bif Nat.beq pc 165 then some (.getfield 201, 3, 168, 0, 31, .null) else none))))) else (bif Nat.blt pc 173 then (bif Nat.blt pc 170 then (bif Nat.blt pc 169 then (bif Nat.beq pc 168 then some (.iconst 1, 1, 169, 0, 0, .int 1) else none) else (bif Nat.beq pc 169 then some (.isub, 1, 170, 0, 0, .null) else none)) else (bif Nat.blt pc 171 then (bif Nat.beq pc 170 then some (.iaload, 1, 171, 0, 0, .null) else none) else (bif Nat.blt pc 172 then (bif Nat.beq pc 171 then some (.iastore, 1, 172, 0, 0, .null) else none) else (bif Nat.beq pc 172 then some (.aload_n 0, 1, 173, 0, 0, .null) else none)))) else (bif Nat.blt pc 180 then (bif Nat.blt pc 176 then (bif Nat.beq pc 173 then some (.getfield 75, 3, 176, 0, 29, .null) else none) else (bif Nat.blt pc 177 then (bif Nat.beq pc 176 then some (.aload_n 0, 1, 177, 0, 0, .null) else none) else (bif Nat.beq pc 177 then some (.getfield 201, 3, 180, 0, 31, .null) else none))) else (bif Nat.blt pc 181 then (bif Nat.beq pc 180 then some (.iconst 1, 1, 181, 0, 0, .int 1) else none) else (bif Nat.blt pc 182 then (bif Nat.beq pc 181 then some (.isub, 1, 182, 0, 0, .null) else none) else (bif Nat.beq pc 182 then some (.bipush 58, 2, 184, 0, 0, .int 58) else none)))))) else (bif Nat.blt pc 201 then (bif Nat.blt pc 191 then (bif Nat.blt pc 186 then (bif Nat.blt pc 185 then (bif Nat.beq pc 184 then some (.iastore, 1, 185, 0, 0, .null) else none) else (bif Nat.beq pc 185 then some (.aload_n 0, 1, 186, 0, 0, .null) else none)) else (bif Nat.blt pc 187 then (bif Nat.beq pc 186 then some (.dup, 1, 187, 0, 0, .null) else none) else (bif Nat.blt pc 190 then (bif Nat.beq pc 187 then some (.getfield 204, 3, 190, 0, 34, .null) else none) else (bif Nat.beq pc 190 then some (.iconst 1, 1, 191, 0, 0, .int 1) else none)))) else (bif Nat.blt pc 196 then (bif Nat.blt pc 192 then (bif Nat.beq pc 191 then some (.isub, 1, 192, 0, 0, .null) else none) else (bif Nat.blt pc 195 then (bif Nat.beq pc 192 then some (.putfield 204, 3, 195, 0, 34, .null) else none) else (bif Nat.beq pc 195 then some (.aload_n 0, 1, 196, 0, 0, .null) else none))) else (bif Nat.blt pc 197 then (bif Nat.beq pc 196 then some (.dup, 1, 197, 0, 0, .null) else none) else (bif Nat.blt pc 200 then (bif Nat.beq pc 197 then some (.getfield 171, 3, 200, 0, 26, .null) else none) else (bif Nat.beq pc 200 then some (.iconst 1, 1, 201, 0, 0, .int 1) else none))))) else (bif Nat.blt pc 210 then (bif Nat.blt pc 205 then (bif Nat.blt pc 202 then (bif Nat.beq pc 201 then some (.iadd, 1, 202, 0, 0, .null) else none) else (bif Nat.beq pc 202 then some (.putfield 171, 3, 205, 0, 26, .null) else none)) else (bif Nat.blt pc 206 then (bif Nat.beq pc 205 then some (.aload_n 0, 1, 206, 0, 0, .null) else none) else (bif Nat.blt pc 209 then (bif Nat.beq pc 206 then some (.invokevirtual 191, 3, 209, 5, 0, .ref 0) else none) else (bif Nat.beq pc 209 then some (.pop, 1, 210, 0, 0, .null) else none)))) else (bif Nat.blt pc 215 then (bif Nat.blt pc 211 then (bif Nat.beq pc 210 then some (.aload_n 0, 1, 211, 0, 0, .null) else none) else (bif Nat.blt pc 214 then (bif Nat.beq pc 211 then some (.invokevirtual 224, 3, 214, 15, 0, .ref 0) else none) else (bif Nat.beq pc 214 then some (.iconst 1, 1, 215, 0, 0, .int 1) else none))) else (bif Nat.blt pc 216 then (bif Nat.beq pc 215 then some (.ireturn, 1, 216, 0, 0, .null) else none) else (bif Nat.blt pc 217 then (bif Nat.beq pc 216 then some (.iload_n 1, 1, 217, 1, 0, .null) else none) else (bif Nat.beq pc 217 then some (.bipush 41, 2, 219, 0, 0, .int 41) else none))))))) else (bif Nat.blt pc 258 then (bif Nat.blt pc 239 then (bif Nat.blt pc 231 then (bif Nat.blt pc 223 then (bif Nat.blt pc 222 then (bif Nat.beq pc 219 then some (.if_icmp .ne 56, 3, 222, 275, 0, .null) else none) else (bif Nat.beq pc 222 then some (.aload_n 0, 1, 223, 0, 0, .null) else none)) else (bif Nat.blt pc 225 then (bif Nat.beq pc 223 then some (.bipush 40, 2, 225, 0, 0, .int 40) else none) else (bif Nat.blt pc 228 then (bif Nat.beq pc 225 then some (.invokevirtual 253, 3, 228, 19, 1, .ref 0) else none) else (bif Nat.beq pc 228 then some (.ifCond .eq 47, 3, 231, 275, 0, .null) else none)))) else (bif Nat.blt pc 234 then (bif Nat.blt pc 232 then (bif Nat.beq pc 231 then some (.aload_n 0, 1, 232, 0, 0, .null) else none) else (bif Nat.blt pc 233 then (bif Nat.beq pc 232 then some (.iconst 1, 1, 233, 0, 0, .int 1) else none) else (bif Nat.beq pc 233 then some (.iconst 1, 1, 234, 0, 0, .int 1) else none))) else (bif Nat.blt pc 235 then (bif Nat.beq pc 234 then some (.iconst 1, 1, 235, 0, 0, .int 1) else none) else (bif Nat.blt pc 238 then (bif Nat.beq pc 235 then some (.invokevirtual 245, 3, 238, 18, 3, .ref 0) else none) else (bif Nat.beq pc 238 then some (.aload_n 0, 1, 239, 0, 0, .null) else none))))) else (bif Nat.blt pc 248 then (bif Nat.blt pc 243 then (bif Nat.blt pc 240 then (bif Nat.beq pc 239 then some (.dup, 1, 240, 0, 0, .null) else none) else (bif Nat.beq pc 240 then some (.getfield 201, 3, 243, 0, 31, .null) else none)) else (bif Nat.blt pc 244 then (bif Nat.beq pc 243 then some (.iconst 1, 1, 244, 0, 0, .int 1) else none) else (bif Nat.blt pc 245 then (bif Nat.beq pc 244 then some (.isub, 1, 245, 0, 0, .null) else none) else (bif Nat.beq pc 245 then some (.putfield 201, 3, 248, 0, 31, .null) else none)))) else (bif Nat.blt pc 253 then (bif Nat.blt pc 249 then (bif Nat.beq pc 248 then some (.aload_n 0, 1, 249, 0, 0, .null) else none) else (bif Nat.blt pc 250 then (bif Nat.beq pc 249 then some (.dup, 1, 250, 0, 0, .null) else none) else (bif Nat.beq pc 250 then some (.getfield 204, 3, 253, 0, 34, .null) else none))) else (bif Nat.blt pc 254 then (bif Nat.beq pc 253 then some (.iconst 1, 1, 254, 0, 0, .int 1) else none) else (bif Nat.blt pc 255 then (bif Nat.beq pc 254 then some (.isub, 1, 255, 0, 0, .null) else none) else (bif Nat.beq pc 255 then some (.putfield 204, 3, 258, 0, 34, .null) else none)))))) else (bif Nat.blt pc 275 then (bif Nat.blt pc 265 then (bif Nat.blt pc 260 then (bif Nat.blt pc 259 then (bif Nat.beq pc 258 then some (.aload_n 0, 1, 259, 0, 0, .null) else none) else (bif Nat.beq pc 259 then some (.dup, 1, 260, 0, 0, .null) else none)) else (bif Nat.blt pc 263 then (bif Nat.beq pc 260 then some (.getfield 171, 3, 263, 0, 26, .null) else none) else (bif Nat.blt pc 264 then (bif Nat.beq pc 263 then some (.iconst 1, 1, 264, 0, 0, .int 1) else none) else (bif Nat.beq pc 264 then some (.iadd, 1, 265, 0, 0, .null) else none)))) else (bif Nat.blt pc 270 then (bif Nat.blt pc 268 then (bif Nat.beq pc 265 then some (.putfield 171, 3, 268, 0, 26, .null) else none) else (bif Nat.blt pc 269 then (bif Nat.beq pc 268 then some (.aload_n 0, 1, 269, 0, 0, .null) else none) else (bif Nat.beq pc 269 then some (.iconst 0, 1, 270, 0, 0, .int 0) else none))) else (bif Nat.blt pc 273 then (bif Nat.beq pc 270 then some (.putfield 238, 3, 273, 0, 35, .int 0) else none) else (bif Nat.blt pc 274 then (bif Nat.beq pc 273 then some (.iconst 1, 1, 274, 0, 0, .int 1) else none) else (bif Nat.beq pc 274 then some (.ireturn, 1, 275, 0, 0, .null) else none))))) else (bif Nat.blt pc 287 then (bif Nat.blt pc 281 then (bif Nat.blt pc 276 then (bif Nat.beq pc 275 then some (.aload_n 0, 1, 276, 0, 0, .null) else none) else (bif Nat.blt pc 278 then (bif Nat.beq pc 276 then some (.bipush 63, 2, 278, 0, 0, .int 63) else none) else (bif Nat.beq pc 278 then some (.invokevirtual 253, 3, 281, 19, 1, .ref 0) else none))) else (bif Nat.blt pc 284 then (bif Nat.beq pc 281 then some (.ifCond .ne 12, 3, 284, 293, 0, .null) else none) else (bif Nat.blt pc 285 then (bif Nat.beq pc 284 then some (.aload_n 0, 1, 285, 0, 0, .null) else none) else (bif Nat.beq pc 285 then some (.bipush 40, 2, 287, 0, 0, .int 40) else none)))) else (bif Nat.blt pc 294 then (bif Nat.blt pc 290 then (bif Nat.beq pc 287 then some (.invokevirtual 253, 3, 290, 19, 1, .ref 0) else none) else (bif Nat.blt pc 293 then (bif Nat.beq pc 290 then some (.ifCond .eq 7, 3, 293, 297, 0, .null) else none) else (bif Nat.beq pc 293 then some (.aload_n 0, 1, 294, 0, 0, .null) else none))) else (bif Nat.blt pc 297 then (bif Nat.beq pc 294 then some (.invokevirtual 195, 3, 297, 7, 0, .ref 0) else none) else (bif Nat.blt pc 298 then (bif Nat.beq pc 297 then some (.iconst 0, 1, 298, 0, 0, .int 0) else none) else (bif Nat.beq pc 298 then some (.ireturn, 1, 299, 0, 0, .null) else none))))))))
def rq_T23 (pc : Nat) : Option pv_I := bif Nat.blt pc 299 then rq_U23 pc else none
def rq_U24 (pc : Nat) : Option pv_I := bif Nat.blt pc 22 then (bif Nat.blt pc 10 then (bif Nat.blt pc 5 then (bif Nat.blt pc 1 then (bif Nat.beq pc 0 then some (.aload_n 0, 1, 1, 0, 0, .null) else none) else (bif Nat.blt pc 4 then (bif Nat.beq pc 1 then some (.getfield 165, 3, 4, 0, 25, .null) else none) else (bif Nat.beq pc 4 then some (.iload_n 1, 1, 5, 1, 0, .null) else none))) else (bif Nat.blt pc 8 then (bif Nat.beq pc 5 then some (.if_icmp .le 36, 3, 8, 41, 0, .null) else none) else (bif Nat.blt pc 9 then (bif Nat.beq pc 8 then some (.aload_n 0, 1, 9, 0, 0, .null) else none) else (bif Nat.beq pc 9 then some (.dup, 1, 10, 0, 0, .null) else none)))) else (bif Nat.blt pc 15 then (bif Nat.blt pc 13 then (bif Nat.beq pc 10 then some (.getfield 165, 3, 13, 0, 25, .null) else none) else (bif Nat.blt pc 14 then (bif Nat.beq pc 13 then some (.iconst 1, 1, 14, 0, 0, .int 1) else none) else (bif Nat.beq pc 14 then some (.isub, 1, 15, 0, 0, .null) else none))) else (bif Nat.blt pc 18 then (bif Nat.beq pc 15 then some (.putfield 165, 3, 18, 0, 25, .null) else none) else (bif Nat.blt pc 19 then (bif Nat.beq pc 18 then some (.aload_n 0, 1, 19, 0, 0, .null) else none) else (bif Nat.beq pc 19 then some (.getfield 69, 3, 22, 0, 23, .null) else none))))) else (bif Nat.blt pc 34 then (bif Nat.blt pc 27 then (bif Nat.blt pc 23 then (bif Nat.beq pc 22 then some (.aload_n 0, 1, 23, 0, 0, .null) else none) else (bif Nat.blt pc 26 then (bif Nat.beq pc 23 then some (.getfield 60, 3, 26, 0, 20, .null) else none) else (bif Nat.beq pc 26 then some (.aload_n 0, 1, 27, 0, 0, .null) else none))) else (bif Nat.blt pc 30 then (bif Nat.beq pc 27 then some (.getfield 72, 3, 30, 0, 24, .null) else none) else (bif Nat.blt pc 31 then (bif Nat.beq pc 30 then some (.aload_n 0, 1, 31, 0, 0, .null) else none) else (bif Nat.beq pc 31 then some (.getfield 165, 3, 34, 0, 25, .null) else none)))) else (bif Nat.blt pc 37 then (bif Nat.blt pc 35 then (bif Nat.beq pc 34 then some (.iaload, 1, 35, 0, 0, .null) else none) else (bif Nat.blt pc 36 then (bif Nat.beq pc 35 then some (.iaload, 1, 36, 0, 0, .null) else none) else (bif Nat.beq pc 36 then some (.iconst (-1), 1, 37, 0, 0, .int (-1)) else none))) else (bif Nat.blt pc 38 then (bif Nat.beq pc 37 then some (.iastore, 1, 38, 0, 0, .null) else none) else (bif Nat.blt pc 41 then (bif Nat.beq pc 38 then some (.goto (-38), 3, 41, 0, 0, .null) else none) else (bif Nat.beq pc 41 then some (.return_, 1, 42, 0, 0, .null) else none)))))
def rq_T24 (pc : Nat) : Option pv_I := bif Nat.blt pc 42 then rq_U24 pc else none
def rq_U25 (pc : Nat) : Option pv_I := bif Nat.blt pc 21 then (bif Nat.blt pc 10 then (bif Nat.blt pc 5 then (bif Nat.blt pc 1 then (bif Nat.beq pc 0 then some (.aload_n 0, 1, 1, 0, 0, .null) else none) else (bif Nat.blt pc 4 then (bif Nat.beq pc 1 then some (.getfield 84, 3, 4, 0, 37, .null) else none) else (bif Nat.beq pc 4 then some (.aload_n 0, 1, 5, 0, 0, .null) else none))) else (bif Nat.blt pc 8 then (bif Nat.beq pc 5 then some (.getfield 256, 3, 8, 0, 40, .null) else none) else (bif Nat.blt pc 9 then (bif Nat.beq pc 8 then some (.iload_n 1, 1, 9, 1, 0, .null) else none) else (bif Nat.beq pc 9 then some (.iastore, 1, 10, 0, 0, .null) else none)))) else (bif Nat.blt pc 15 then (bif Nat.blt pc 11 then (bif Nat.beq pc 10 then some (.aload_n 0, 1, 11, 0, 0, .null) else none) else (bif Nat.blt pc 14 then (bif Nat.beq pc 11 then some (.getfield 87, 3, 14, 0, 38, .null) else none) else (bif Nat.beq pc 14 then some (.aload_n 0, 1, 15, 0, 0, .null) else none))) else (bif Nat.blt pc 19 then (bif Nat.blt pc 18 then (bif Nat.beq pc 15 then some (.getfield 256, 3, 18, 0, 40, .null) else none) else (bif Nat.beq pc 18 then some (.iconst 0, 1, 19, 0, 0, .int 0) else none)) else (bif Nat.blt pc 20 then (bif Nat.beq pc 19 then some (.iastore, 1, 20, 0, 0, .null) else none) else (bif Nat.beq pc 20 then some (.aload_n 0, 1, 21, 0, 0, .null) else none))))) else (bif Nat.blt pc 33 then (bif Nat.blt pc 28 then (bif Nat.blt pc 24 then (bif Nat.beq pc 21 then some (.getfield 90, 3, 24, 0, 39, .null) else none) else (bif Nat.blt pc 25 then (bif Nat.beq pc 24 then some (.aload_n 0, 1, 25, 0, 0, .null) else none) else (bif Nat.beq pc 25 then some (.getfield 256, 3, 28, 0, 40, .null) else none))) else (bif Nat.blt pc 29 then (bif Nat.beq pc 28 then some (.aload_n 0, 1, 29, 0, 0, .null) else none) else (bif Nat.blt pc 32 then (bif Nat.beq pc 29 then some (.getfield 165, 3, 32, 0, 25, .null) else none) else (bif Nat.beq pc 32 then some (.iastore, 1, 33, 0, 0, .null) else none)))) else (bif Nat.blt pc 38 then (bif Nat.blt pc 34 then (bif Nat.beq pc 33 then some (.aload_n 0, 1, 34, 0, 0, .null) else none) else (bif Nat.blt pc 35 then (bif Nat.beq pc 34 then some (.dup, 1, 35, 0, 0, .null) else none) else (bif Nat.beq pc 35 then some (.getfield 256, 3, 38, 0, 40, .null) else none))) else (bif Nat.blt pc 40 then (bif Nat.blt pc 39 then (bif Nat.beq pc 38 then some (.iconst 1, 1, 39, 0, 0, .int 1) else none) else (bif Nat.beq pc 39 then some (.iadd, 1, 40, 0, 0, .null) else none)) else (bif Nat.blt pc 43 then (bif Nat.beq pc 40 then some (.putfield 256, 3, 43, 0, 40, .null) else none) else (bif Nat.beq pc 43 then some (.return_, 1, 44, 0, 0, .null) else none)))))
def rq_T25 (pc : Nat) : Option pv_I := bif Nat.blt pc 44 then rq_U25 pc else none
def rq_U26 (pc : Nat) : Option pv_I := bif Nat.blt pc 224 then (bif Nat.blt pc 110 then (bif Nat.blt pc 54 then (bif Nat.blt pc 25 then (bif Nat.blt pc 11 then (bif Nat.blt pc 5 then (bif Nat.blt pc 1 then (bif Nat.beq pc 0 then some (.aload_n 0, 1, 1, 0, 0, .null) else none) else (bif Nat.blt pc 4 then (bif Nat.beq pc 1 then some (.invokevirtual 191, 3, 4, 5, 0, .ref 0) else none) else (bif Nat.beq pc 4 then some (.istore_n 3, 1, 5, 3, 0, .null) else none))) else (bif Nat.blt pc 6 then (bif Nat.beq pc 5 then some (.iload_n 3, 1, 6, 3, 0, .null) else none) else (bif Nat.blt pc 8 then (bif Nat.beq pc 6 then some (.bipush 123, 2, 8, 0, 0, .int 123) else none) else (bif Nat.beq pc 8 then some (.if_icmp .eq 123, 3, 11, 131, 0, .null) else none)))) else (bif Nat.blt pc 18 then (bif Nat.blt pc 12 then (bif Nat.beq pc 11 then some (.iload_n 3, 1, 12, 3, 0, .null) else none) else (bif Nat.blt pc 15 then (bif Nat.beq pc 12 then some (.invokestatic 259, 3, 15, 11, 1, .null) else none) else (bif Nat.beq pc 15 then some (.ifCond .ne 116, 3, 18, 131, 0, .null) else none))) else (bif Nat.blt pc 21 then (bif Nat.blt pc 19 then (bif Nat.beq pc 18 then some (.iload_n 3, 1, 19, 3, 0, .null) else none) else (bif Nat.beq pc 19 then some (.bipush 73, 2, 21, 0, 0, .int 73) else none)) else (bif Nat.blt pc 24 then (bif Nat.beq pc 21 then some (.if_icmp .eq 110, 3, 24, 131, 0, .null) else none) else (bif Nat.beq pc 24 then some (.iload_n 3, 1, 25, 3, 0, .null) else none))))) else (bif Nat.blt pc 39 then (bif Nat.blt pc 31 then (bif Nat.blt pc 27 then (bif Nat.beq pc 25 then some (.bipush 87, 2, 27, 0, 0, .int 87) else none) else (bif Nat.blt pc 30 then (bif Nat.beq pc 27 then some (.if_icmp .eq 104, 3, 30, 131, 0, .null) else none) else (bif Nat.beq pc 30 then some (.iload_n 3, 1, 31, 3, 0, .null) else none))) else (bif Nat.blt pc 36 then (bif Nat.blt pc 33 then (bif Nat.beq pc 31 then some (.bipush 68, 2, 33, 0, 0, .int 68) else none) else (bif Nat.beq pc 33 then some (.if_icmp .eq 98, 3, 36, 131, 0, .null) else none)) else (bif Nat.blt pc 37 then (bif Nat.beq pc 36 then some (.iload_n 3, 1, 37, 3, 0, .null) else none) else (bif Nat.beq pc 37 then some (.bipush 70, 2, 39, 0, 0, .int 70) else none)))) else (bif Nat.blt pc 45 then (bif Nat.blt pc 42 then (bif Nat.beq pc 39 then some (.if_icmp .eq 92, 3, 42, 131, 0, .null) else none) else (bif Nat.blt pc 43 then (bif Nat.beq pc 42 then some (.iload_n 3, 1, 43, 3, 0, .null) else none) else (bif Nat.beq pc 43 then some (.bipush 83, 2, 45, 0, 0, .int 83) else none))) else (bif Nat.blt pc 49 then (bif Nat.blt pc 48 then (bif Nat.beq pc 45 then some (.if_icmp .eq 86, 3, 48, 131, 0, .null) else none) else (bif Nat.beq pc 48 then some (.iload_n 3, 1, 49, 3, 0, .null) else none)) else (bif Nat.blt pc 51 then (bif Nat.beq pc 49 then some (.bipush 84, 2, 51, 0, 0, .int 84) else none) else (bif Nat.beq pc 51 then some (.if_icmp .eq 80, 3, 54, 131, 0, .null) else none)))))) else (bif Nat.blt pc 82 then (bif Nat.blt pc 67 then (bif Nat.blt pc 60 then (bif Nat.blt pc 55 then (bif Nat.beq pc 54 then some (.iload_n 3, 1, 55, 3, 0, .null) else none) else (bif Nat.blt pc 57 then (bif Nat.beq pc 55 then some (.bipush 66, 2, 57, 0, 0, .int 66) else none) else (bif Nat.beq pc 57 then some (.if_icmp .eq 74, 3, 60, 131, 0, .null) else none))) else (bif Nat.blt pc 63 then (bif Nat.blt pc 61 then (bif Nat.beq pc 60 then some (.iload_n 3, 1, 61, 3, 0, .null) else none) else (bif Nat.beq pc 61 then some (.bipush 67, 2, 63, 0, 0, .int 67) else none)) else (bif Nat.blt pc 66 then (bif Nat.beq pc 63 then some (.if_icmp .eq 68, 3, 66, 131, 0, .null) else none) else (bif Nat.beq pc 66 then some (.iload_n 3, 1, 67, 3, 0, .null) else none)))) else (bif Nat.blt pc 73 then (bif Nat.blt pc 69 then (bif Nat.beq pc 67 then some (.bipush 82, 2, 69, 0, 0, .int 82) else none) else (bif Nat.blt pc 72 then (bif Nat.beq pc 69 then some (.if_icmp .eq 62, 3, 72, 131, 0, .null) else none) else (bif Nat.beq pc 72 then some (.iload_n 3, 1, 73, 3, 0, .null) else none))) else (bif Nat.blt pc 78 then (bif Nat.blt pc 75 then (bif Nat.beq pc 73 then some (.bipush 88, 2, 75, 0, 0, .int 88) else none) else (bif Nat.beq pc 75 then some (.if_icmp .eq 56, 3, 78, 131, 0, .null) else none)) else (bif Nat.blt pc 79 then (bif Nat.beq pc 78 then some (.iload_n 3, 1, 79, 3, 0, .null) else none) else (bif Nat.beq pc 79 then some (.invokestatic 227, 3, 82, 10, 1, .null) else none))))) else (bif Nat.blt pc 97 then (bif Nat.blt pc 88 then (bif Nat.blt pc 85 then (bif Nat.beq pc 82 then some (.ifCond .ne 49, 3, 85, 131, 0, .null) else none) else (bif Nat.blt pc 86 then (bif Nat.beq pc 85 then some (.iload_n 3, 1, 86, 3, 0, .null) else none) else (bif Nat.beq pc 86 then some (.bipush 48, 2, 88, 0, 0, .int 48) else none))) else (bif Nat.blt pc 92 then (bif Nat.blt pc 91 then (bif Nat.beq pc 88 then some (.if_icmp .eq 43, 3, 91, 131, 0, .null) else none) else (bif Nat.beq pc 91 then some (.iload_n 3, 1, 92, 3, 0, .null) else none)) else (bif Nat.blt pc 94 then (bif Nat.beq pc 92 then some (.bipush 49, 2, 94, 0, 0, .int 49) else none) else (bif Nat.beq pc 94 then some (.if_icmp .eq 37, 3, 97, 131, 0, .null) else none)))) else (bif Nat.blt pc 103 then (bif Nat.blt pc 98 then (bif Nat.beq pc 97 then some (.iload_n 3, 1, 98, 3, 0, .null) else none) else (bif Nat.blt pc 100 then (bif Nat.beq pc 98 then some (.bipush 35, 2, 100, 0, 0, .int 35) else none) else (bif Nat.beq pc 100 then some (.if_icmp .eq 31, 3, 103, 131, 0, .null) else none))) else (bif Nat.blt pc 106 then (bif Nat.blt pc 104 then (bif Nat.beq pc 103 then some (.iload_n 3, 1, 104, 3, 0, .null) else none) else (bif Nat.beq pc 104 then some (.bipush 33, 2, 106, 0, 0, .int 33) else none)) else (bif Nat.blt pc 109 then (bif Nat.beq pc 106 then some (.if_icmp .eq 25, 3, 109, 131, 0, .null) else none) else (bif Nat.beq pc 109 then some (.iload_n 3, 1, 110, 3, 0, .null) else none))))))) else (bif Nat.blt pc 165 then (bif Nat.blt pc 136 then (bif Nat.blt pc 122 then (bif Nat.blt pc 116 then (bif Nat.blt pc 112 then (bif Nat.beq pc 110 then some (.bipush 40, 2, 112, 0, 0, .int 40) else none) else (bif Nat.blt pc 115 then (bif Nat.beq pc 112 then some (.if_icmp .eq 19, 3, 115, 131, 0, .null) else none) else (bif Nat.beq pc 115 then some (.iload_n 1, 1, 116, 1, 0, .null) else none))) else (bif Nat.blt pc 119 then (bif Nat.beq pc 116 then some (.ifCond .eq 19, 3, 119, 135, 0, .null) else none) else (bif Nat.blt pc 120 then (bif Nat.beq pc 119 then some (.iload_n 3, 1, 120, 3, 0, .null) else none) else (bif Nat.beq pc 120 then some (.bipush 36, 2, 122, 0, 0, .int 36) else none)))) else (bif Nat.blt pc 128 then (bif Nat.blt pc 125 then (bif Nat.beq pc 122 then some (.if_icmp .eq 9, 3, 125, 131, 0, .null) else none) else (bif Nat.blt pc 126 then (bif Nat.beq pc 125 then some (.iload_n 3, 1, 126, 3, 0, .null) else none) else (bif Nat.beq pc 126 then some (.bipush 37, 2, 128, 0, 0, .int 37) else none))) else (bif Nat.blt pc 132 then (bif Nat.blt pc 131 then (bif Nat.beq pc 128 then some (.if_icmp .ne 7, 3, 131, 135, 0, .null) else none) else (bif Nat.beq pc 131 then some (.iconst 1, 1, 132, 0, 0, .int 1) else none)) else (bif Nat.blt pc 135 then (bif Nat.beq pc 132 then some (.goto 4, 3, 135, 136, 0, .null) else none) else (bif Nat.beq pc 135 then some (.iconst 0, 1, 136, 0, 0, .int 0) else none))))) else (bif Nat.blt pc 152 then (bif Nat.blt pc 143 then (bif Nat.blt pc 138 then (bif Nat.beq pc 136 then some (.istore 4, 2, 138, 4, 0, .null) else none) else (bif Nat.blt pc 140 then (bif Nat.beq pc 138 then some (.iload 4, 2, 140, 4, 0, .null) else none) else (bif Nat.beq pc 140 then some (.ifCond .eq 12, 3, 143, 152, 0, .null) else none))) else (bif Nat.blt pc 147 then (bif Nat.blt pc 144 then (bif Nat.beq pc 143 then some (.aload_n 0, 1, 144, 0, 0, .null) else none) else (bif Nat.beq pc 144 then some (.getfield 256, 3, 147, 0, 40, .null) else none)) else (bif Nat.blt pc 149 then (bif Nat.beq pc 147 then some (.bipush 20, 2, 149, 0, 0, .int 20) else none) else (bif Nat.beq pc 149 then some (.if_icmp .lt 8, 3, 152, 157, 0, .null) else none)))) else (bif Nat.blt pc 157 then (bif Nat.blt pc 153 then (bif Nat.beq pc 152 then some (.aload_n 0, 1, 153, 0, 0, .null) else none) else (bif Nat.blt pc 156 then (bif Nat.beq pc 153 then some (.invokevirtual 195, 3, 156, 7, 0, .ref 0) else none) else (bif Nat.beq pc 156 then some (.return_, 1, 157, 0, 0, .null) else none))) else (bif Nat.blt pc 161 then (bif Nat.blt pc 158 then (bif Nat.beq pc 157 then some (.iload_n 3, 1, 158, 3, 0, .null) else none) else (bif Nat.beq pc 158 then some (.invokestatic 227, 3, 161, 10, 1, .null) else none)) else (bif Nat.blt pc 164 then (bif Nat.beq pc 161 then some (.ifCond .ne 33, 3, 164, 194, 0, .null) else none) else (bif Nat.beq pc 164 then some (.iload_n 3, 1, 165, 3, 0, .null) else none)))))) else (bif Nat.blt pc 194 then (bif Nat.blt pc 179 then (bif Nat.blt pc 171 then (bif Nat.blt pc 167 then (bif Nat.beq pc 165 then some (.bipush 48, 2, 167, 0, 0, .int 48) else none) else (bif Nat.blt pc 170 then (bif Nat.beq pc 167 then some (.if_icmp .eq 27, 3, 170, 194, 0, .null) else none) else (bif Nat.beq pc 170 then some (.iload_n 3, 1, 171, 3, 0, .null) else none))) else (bif Nat.blt pc 176 then (bif Nat.blt pc 173 then (bif Nat.beq pc 171 then some (.bipush 49, 2, 173, 0, 0, .int 49) else none) else (bif Nat.beq pc 173 then some (.if_icmp .eq 21, 3, 176, 194, 0, .null) else none)) else (bif Nat.blt pc 177 then (bif Nat.beq pc 176 then some (.iload_n 3, 1, 177, 3, 0, .null) else none) else (bif Nat.beq pc 177 then some (.bipush 35, 2, 179, 0, 0, .int 35) else none)))) else (bif Nat.blt pc 185 then (bif Nat.blt pc 182 then (bif Nat.beq pc 179 then some (.if_icmp .eq 15, 3, 182, 194, 0, .null) else none) else (bif Nat.blt pc 183 then (bif Nat.beq pc 182 then some (.iload_n 3, 1, 183, 3, 0, .null) else none) else (bif Nat.beq pc 183 then some (.bipush 33, 2, 185, 0, 0, .int 33) else none))) else (bif Nat.blt pc 189 then (bif Nat.blt pc 188 then (bif Nat.beq pc 185 then some (.if_icmp .eq 9, 3, 188, 194, 0, .null) else none) else (bif Nat.beq pc 188 then some (.iload_n 3, 1, 189, 3, 0, .null) else none)) else (bif Nat.blt pc 191 then (bif Nat.beq pc 189 then some (.bipush 40, 2, 191, 0, 0, .int 40) else none) else (bif Nat.beq pc 191 then some (.if_icmp .ne 7, 3, 194, 198, 0, .null) else none))))) else (bif Nat.blt pc 207 then (bif Nat.blt pc 199 then (bif Nat.blt pc 195 then (bif Nat.beq pc 194 then some (.iconst 1, 1, 195, 0, 0, .int 1) else none) else (bif Nat.blt pc 198 then (bif Nat.beq pc 195 then some (.goto 4, 3, 198, 199, 0, .null) else none) else (bif Nat.beq pc 198 then some (.iconst 0, 1, 199, 0, 0, .int 0) else none))) else (bif Nat.blt pc 202 then (bif Nat.blt pc 201 then (bif Nat.beq pc 199 then some (.istore 5, 2, 201, 5, 0, .null) else none) else (bif Nat.beq pc 201 then some (.aload_n 0, 1, 202, 0, 0, .null) else none)) else (bif Nat.blt pc 204 then (bif Nat.beq pc 202 then some (.iload 5, 2, 204, 5, 0, .null) else none) else (bif Nat.beq pc 204 then some (.ifCond .eq 8, 3, 207, 212, 0, .null) else none)))) else (bif Nat.blt pc 213 then (bif Nat.blt pc 209 then (bif Nat.beq pc 207 then some (.bipush 59, 2, 209, 0, 0, .int 59) else none) else (bif Nat.blt pc 212 then (bif Nat.beq pc 209 then some (.goto 16, 3, 212, 225, 0, .null) else none) else (bif Nat.beq pc 212 then some (.iload_n 3, 1, 213, 3, 0, .null) else none))) else (bif Nat.blt pc 219 then (bif Nat.blt pc 216 then (bif Nat.beq pc 213 then some (.invokestatic 259, 3, 216, 11, 1, .null) else none) else (bif Nat.beq pc 216 then some (.ifCond .eq 8, 3, 219, 224, 0, .null) else none)) else (bif Nat.blt pc 221 then (bif Nat.beq pc 219 then some (.bipush 58, 2, 221, 0, 0, .int 58) else none) else (bif Nat.beq pc 221 then some (.goto 4, 3, 224, 225, 0, .null) else none)))))))) else (bif Nat.blt pc 325 then (bif Nat.blt pc 272 then (bif Nat.blt pc 249 then (bif Nat.blt pc 235 then (bif Nat.blt pc 229 then (bif Nat.blt pc 225 then (bif Nat.beq pc 224 then some (.iload_n 3, 1, 225, 3, 0, .null) else none) else (bif Nat.blt pc 226 then (bif Nat.beq pc 225 then some (.aload_n 0, 1, 226, 0, 0, .null) else none) else (bif Nat.beq pc 226 then some (.getfield 171, 3, 229, 0, 26, .null) else none))) else (bif Nat.blt pc 230 then (bif Nat.beq pc 229 then some (.iconst 1, 1, 230, 0, 0, .int 1) else none) else (bif Nat.blt pc 233 then (bif Nat.beq pc 230 then some (.invokevirtual 216, 3, 233, 13, 3, .ref 0) else none) else (bif Nat.beq pc 233 then some (.istore 6, 2, 235, 6, 0, .null) else none)))) else (bif Nat.blt pc 241 then (bif Nat.blt pc 236 then (bif Nat.beq pc 235 then some (.aload_n 0, 1, 236, 0, 0, .null) else none) else (bif Nat.blt pc 239 then (bif Nat.beq pc 236 then some (.getfield 20, 3, 239, 0, 5, .null) else none) else (bif Nat.beq pc 239 then some (.iload 6, 2, 241, 6, 0, .null) else none))) else (bif Nat.blt pc 245 then (bif Nat.blt pc 242 then (bif Nat.beq pc 241 then some (.aload_n 0, 1, 242, 0, 0, .null) else none) else (bif Nat.beq pc 242 then some (.getfield 256, 3, 245, 0, 40, .null) else none)) else (bif Nat.blt pc 248 then (bif Nat.beq pc 245 then some (.ifCond .le 17, 3, 248, 262, 0, .null) else none) else (bif Nat.beq pc 248 then some (.aload_n 0, 1, 249, 0, 0, .null) else none))))) else (bif Nat.blt pc 262 then (bif Nat.blt pc 256 then (bif Nat.blt pc 252 then (bif Nat.beq pc 249 then some (.getfield 84, 3, 252, 0, 37, .null) else none) else (bif Nat.blt pc 253 then (bif Nat.beq pc 252 then some (.aload_n 0, 1, 253, 0, 0, .null) else none) else (bif Nat.beq pc 253 then some (.getfield 256, 3, 256, 0, 40, .null) else none))) else (bif Nat.blt pc 258 then (bif Nat.blt pc 257 then (bif Nat.beq pc 256 then some (.iconst 1, 1, 257, 0, 0, .int 1) else none) else (bif Nat.beq pc 257 then some (.isub, 1, 258, 0, 0, .null) else none)) else (bif Nat.blt pc 259 then (bif Nat.beq pc 258 then some (.iaload, 1, 259, 0, 0, .null) else none) else (bif Nat.beq pc 259 then some (.goto 4, 3, 262, 263, 0, .null) else none)))) else (bif Nat.blt pc 265 then (bif Nat.blt pc 263 then (bif Nat.beq pc 262 then some (.iconst (-1), 1, 263, 0, 0, .int (-1)) else none) else (bif Nat.blt pc 264 then (bif Nat.beq pc 263 then some (.iastore, 1, 264, 0, 0, .null) else none) else (bif Nat.beq pc 264 then some (.aload_n 0, 1, 265, 0, 0, .null) else none))) else (bif Nat.blt pc 270 then (bif Nat.blt pc 268 then (bif Nat.beq pc 265 then some (.getfield 23, 3, 268, 0, 6, .null) else none) else (bif Nat.beq pc 268 then some (.iload 6, 2, 270, 6, 0, .null) else none)) else (bif Nat.blt pc 271 then (bif Nat.beq pc 270 then some (.iload_n 2, 1, 271, 2, 0, .null) else none) else (bif Nat.beq pc 271 then some (.iastore, 1, 272, 0, 0, .null) else none)))))) else (bif Nat.blt pc 299 then (bif Nat.blt pc 284 then (bif Nat.blt pc 278 then (bif Nat.blt pc 273 then (bif Nat.beq pc 272 then some (.aload_n 0, 1, 273, 0, 0, .null) else none) else (bif Nat.blt pc 276 then (bif Nat.beq pc 273 then some (.getfield 45, 3, 276, 0, 13, .null) else none) else (bif Nat.beq pc 276 then some (.iload 6, 2, 278, 6, 0, .null) else none))) else (bif Nat.blt pc 282 then (bif Nat.blt pc 279 then (bif Nat.beq pc 278 then some (.aload_n 0, 1, 279, 0, 0, .null) else none) else (bif Nat.beq pc 279 then some (.getfield 262, 3, 282, 0, 41, .null) else none)) else (bif Nat.blt pc 283 then (bif Nat.beq pc 282 then some (.bastore, 1, 283, 0, 0, .null) else none) else (bif Nat.beq pc 283 then some (.aload_n 0, 1, 284, 0, 0, .null) else none)))) else (bif Nat.blt pc 290 then (bif Nat.blt pc 285 then (bif Nat.beq pc 284 then some (.iconst 0, 1, 285, 0, 0, .int 0) else none) else (bif Nat.blt pc 288 then (bif Nat.beq pc 285 then some (.putfield 262, 3, 288, 0, 41, .int 0) else none) else (bif Nat.beq pc 288 then some (.iload 5, 2, 290, 5, 0, .null) else none))) else (bif Nat.blt pc 294 then (bif Nat.blt pc 293 then (bif Nat.beq pc 290 then some (.ifCond .eq 19, 3, 293, 309, 0, .null) else none) else (bif Nat.beq pc 293 then some (.aload_n 0, 1, 294, 0, 0, .null) else none)) else (bif Nat.blt pc 296 then (bif Nat.beq pc 294 then some (.iload 6, 2, 296, 6, 0, .null) else none) else (bif Nat.beq pc 296 then some (.invokevirtual 265, 3, 299, 21, 1, .ref 0) else none))))) else (bif Nat.blt pc 312 then (bif Nat.blt pc 303 then (bif Nat.blt pc 300 then (bif Nat.beq pc 299 then some (.pop, 1, 300, 0, 0, .null) else none) else (bif Nat.blt pc 301 then (bif Nat.beq pc 300 then some (.aload_n 0, 1, 301, 0, 0, .null) else none) else (bif Nat.beq pc 301 then some (.bipush 59, 2, 303, 0, 0, .int 59) else none))) else (bif Nat.blt pc 309 then (bif Nat.blt pc 306 then (bif Nat.beq pc 303 then some (.invokevirtual 268, 3, 306, 9, 1, .ref 0) else none) else (bif Nat.beq pc 306 then some (.goto 127, 3, 309, 433, 0, .null) else none)) else (bif Nat.blt pc 310 then (bif Nat.beq pc 309 then some (.iload_n 3, 1, 310, 3, 0, .null) else none) else (bif Nat.beq pc 310 then some (.bipush 36, 2, 312, 0, 0, .int 36) else none)))) else (bif Nat.blt pc 318 then (bif Nat.blt pc 315 then (bif Nat.beq pc 312 then some (.if_icmp .eq 9, 3, 315, 321, 0, .null) else none) else (bif Nat.blt pc 316 then (bif Nat.beq pc 315 then some (.iload_n 3, 1, 316, 3, 0, .null) else none) else (bif Nat.beq pc 316 then some (.bipush 37, 2, 318, 0, 0, .int 37) else none))) else (bif Nat.blt pc 322 then (bif Nat.blt pc 321 then (bif Nat.beq pc 318 then some (.if_icmp .ne 13, 3, 321, 331, 0, .null) else none) else (bif Nat.beq pc 321 then some (.aload_n 0, 1, 322, 0, 0, .null) else none)) else (bif Nat.blt pc 324 then (bif Nat.beq pc 322 then some (.iload 6, 2, 324, 6, 0, .null) else none) else (bif Nat.beq pc 324 then some (.iload_n 3, 1, 325, 3, 0, .null) else none))))))) else (bif Nat.blt pc 379 then (bif Nat.blt pc 353 then (bif Nat.blt pc 338 then (bif Nat.blt pc 332 then (bif Nat.blt pc 328 then (bif Nat.beq pc 325 then some (.invokevirtual 271, 3, 328, 27, 2, .ref 0) else none) else (bif Nat.blt pc 331 then (bif Nat.beq pc 328 then some (.goto 105, 3, 331, 433, 0, .null) else none) else (bif Nat.beq pc 331 then some (.iload_n 3, 1, 332, 3, 0, .null) else none))) else (bif Nat.blt pc 334 then (bif Nat.beq pc 332 then some (.bipush 66, 2, 334, 0, 0, .int 66) else none) else (bif Nat.blt pc 337 then (bif Nat.beq pc 334 then some (.if_icmp .eq 9, 3, 337, 343, 0, .null) else none) else (bif Nat.beq pc 337 then some (.iload_n 3, 1, 338, 3, 0, .null) else none)))) else (bif Nat.blt pc 344 then (bif Nat.blt pc 340 then (bif Nat.beq pc 338 then some (.bipush 67, 2, 340, 0, 0, .int 67) else none) else (bif Nat.blt pc 343 then (bif Nat.beq pc 340 then some (.if_icmp .ne 13, 3, 343, 353, 0, .null) else none) else (bif Nat.beq pc 343 then some (.aload_n 0, 1, 344, 0, 0, .null) else none))) else (bif Nat.blt pc 347 then (bif Nat.blt pc 346 then (bif Nat.beq pc 344 then some (.iload 6, 2, 346, 6, 0, .null) else none) else (bif Nat.beq pc 346 then some (.iload_n 3, 1, 347, 3, 0, .null) else none)) else (bif Nat.blt pc 350 then (bif Nat.beq pc 347 then some (.invokevirtual 274, 3, 350, 30, 2, .ref 0) else none) else (bif Nat.beq pc 350 then some (.goto 83, 3, 353, 433, 0, .null) else none))))) else (bif Nat.blt pc 366 then (bif Nat.blt pc 359 then (bif Nat.blt pc 354 then (bif Nat.beq pc 353 then some (.iload_n 3, 1, 354, 3, 0, .null) else none) else (bif Nat.blt pc 356 then (bif Nat.beq pc 354 then some (.bipush 82, 2, 356, 0, 0, .int 82) else none) else (bif Nat.beq pc 356 then some (.if_icmp .eq 9, 3, 359, 365, 0, .null) else none))) else (bif Nat.blt pc 362 then (bif Nat.blt pc 360 then (bif Nat.beq pc 359 then some (.iload_n 3, 1, 360, 3, 0, .null) else none) else (bif Nat.beq pc 360 then some (.bipush 88, 2, 362, 0, 0, .int 88) else none)) else (bif Nat.blt pc 365 then (bif Nat.beq pc 362 then some (.if_icmp .ne 38, 3, 365, 400, 0, .null) else none) else (bif Nat.beq pc 365 then some (.aload_n 0, 1, 366, 0, 0, .null) else none)))) else (bif Nat.blt pc 371 then (bif Nat.blt pc 367 then (bif Nat.beq pc 366 then some (.dup, 1, 367, 0, 0, .null) else none) else (bif Nat.blt pc 370 then (bif Nat.beq pc 367 then some (.getfield 171, 3, 370, 0, 26, .null) else none) else (bif Nat.beq pc 370 then some (.iconst 1, 1, 371, 0, 0, .int 1) else none))) else (bif Nat.blt pc 375 then (bif Nat.blt pc 372 then (bif Nat.beq pc 371 then some (.iadd, 1, 372, 0, 0, .null) else none) else (bif Nat.beq pc 372 then some (.putfield 171, 3, 375, 0, 26, .null) else none)) else (bif Nat.blt pc 376 then (bif Nat.beq pc 375 then some (.aload_n 0, 1, 376, 0, 0, .null) else none) else (bif Nat.beq pc 376 then some (.invokevirtual 191, 3, 379, 5, 0, .ref 0) else none)))))) else (bif Nat.blt pc 408 then (bif Nat.blt pc 392 then (bif Nat.blt pc 385 then (bif Nat.blt pc 381 then (bif Nat.beq pc 379 then some (.bipush 59, 2, 381, 0, 0, .int 59) else none) else (bif Nat.blt pc 384 then (bif Nat.beq pc 381 then some (.if_icmp .eq 10, 3, 384, 391, 0, .null) else none) else (bif Nat.beq pc 384 then some (.aload_n 0, 1, 385, 0, 0, .null) else none))) else (bif Nat.blt pc 390 then (bif Nat.blt pc 387 then (bif Nat.beq pc 385 then some (.iload 6, 2, 387, 6, 0, .null) else none) else (bif Nat.beq pc 387 then some (.invokevirtual 265, 3, 390, 21, 1, .ref 0) else none)) else (bif Nat.blt pc 391 then (bif Nat.beq pc 390 then some (.pop, 1, 391, 0, 0, .null) else none) else (bif Nat.beq pc 391 then some (.aload_n 0, 1, 392, 0, 0, .null) else none)))) else (bif Nat.blt pc 400 then (bif Nat.blt pc 394 then (bif Nat.beq pc 392 then some (.bipush 59, 2, 394, 0, 0, .int 59) else none) else (bif Nat.blt pc 397 then (bif Nat.beq pc 394 then some (.invokevirtual 268, 3, 397, 9, 1, .ref 0) else none) else (bif Nat.beq pc 397 then some (.goto 36, 3, 400, 433, 0, .null) else none))) else (bif Nat.blt pc 404 then (bif Nat.blt pc 401 then (bif Nat.beq pc 400 then some (.iload_n 3, 1, 401, 3, 0, .null) else none) else (bif Nat.beq pc 401 then some (.invokestatic 259, 3, 404, 11, 1, .null) else none)) else (bif Nat.blt pc 407 then (bif Nat.beq pc 404 then some (.ifCond .eq 13, 3, 407, 417, 0, .null) else none) else (bif Nat.beq pc 407 then some (.aload_n 0, 1, 408, 0, 0, .null) else none))))) else (bif Nat.blt pc 422 then (bif Nat.blt pc 414 then (bif Nat.blt pc 410 then (bif Nat.beq pc 408 then some (.iload 6, 2, 410, 6, 0, .null) else none) else (bif Nat.blt pc 411 then (bif Nat.beq pc 410 then some (.iload_n 3, 1, 411, 3, 0, .null) else none) else (bif Nat.beq pc 411 then some (.invokevirtual 277, 3, 414, 28, 2, .ref 0) else none))) else (bif Nat.blt pc 418 then (bif Nat.blt pc 417 then (bif Nat.beq pc 414 then some (.goto 13, 3, 417, 427, 0, .null) else none) else (bif Nat.beq pc 417 then some (.aload_n 0, 1, 418, 0, 0, .null) else none)) else (bif Nat.blt pc 419 then (bif Nat.beq pc 418 then some (.dup, 1, 419, 0, 0, .null) else none) else (bif Nat.beq pc 419 then some (.getfield 171, 3, 422, 0, 26, .null) else none)))) else (bif Nat.blt pc 427 then (bif Nat.blt pc 423 then (bif Nat.beq pc 422 then some (.iconst 1, 1, 423, 0, 0, .int 1) else none) else (bif Nat.blt pc 424 then (bif Nat.beq pc 423 then some (.iadd, 1, 424, 0, 0, .null) else none) else (bif Nat.beq pc 424 then some (.putfield 171, 3, 427, 0, 26, .null) else none))) else (bif Nat.blt pc 430 then (bif Nat.blt pc 428 then (bif Nat.beq pc 427 then some (.aload_n 0, 1, 428, 0, 0, .null) else none) else (bif Nat.beq pc 428 then some (.iload 6, 2, 430, 6, 0, .null) else none)) else (bif Nat.blt pc 433 then (bif Nat.beq pc 430 then some (.invokevirtual 280, 3, 433, 25, 1, .ref 0) else none) else (bif Nat.beq pc 433 then some (.return_, 1, 434, 0, 0, .null) else none))))))))
def rq_T26 (pc : Nat) : Option pv_I := bif Nat.blt pc 434 then rq_U26 pc else none
def rq_U27 (pc : Nat) : Option pv_I := bif Nat.blt pc 95 then (bif Nat.blt pc 48 then (bif Nat.blt pc 24 then (bif Nat.blt pc 11 then (bif Nat.blt pc 6 then (bif Nat.blt pc 1 then (bif Nat.beq pc 0 then some (.aload_n 0, 1, 1, 0, 0, .null) else none) else (bif Nat.blt pc 4 then (bif Nat.beq pc 1 then some (.getfield 162, 3, 4, 0, 19, .null) else none) else (bif Nat.beq pc 4 then some (.bipush 12, 2, 6, 0, 0, .int 12) else none))) else (bif Nat.blt pc 9 then (bif Nat.beq pc 6 then some (.if_icmp .ne 12, 3, 9, 18, 0, .null) else none) else (bif Nat.blt pc 10 then (bif Nat.beq pc 9 then some (.aload_n 0, 1, 10, 0, 0, .null) else none) else (bif Nat.beq pc 10 then some (.aload_n 0, 1, 11, 0, 0, .null) else none)))) else (bif Nat.blt pc 18 then (bif Nat.blt pc 14 then (bif Nat.beq pc 11 then some (.getfield 171, 3, 14, 0, 26, .null) else none) else (bif Nat.blt pc 17 then (bif Nat.beq pc 14 then some (.invokevirtual 183, 3, 17, 6, 1, .ref 0) else none) else (bif Nat.beq pc 17 then some (.return_, 1, 18, 0, 0, .null) else none))) else (bif Nat.blt pc 20 then (bif Nat.blt pc 19 then (bif Nat.beq pc 18 then some (.aload_n 0, 1, 19, 0, 0, .null) else none) else (bif Nat.beq pc 19 then some (.dup, 1, 20, 0, 0, .null) else none)) else (bif Nat.blt pc 23 then (bif Nat.beq pc 20 then some (.getfield 171, 3, 23, 0, 26, .null) else none) else (bif Nat.beq pc 23 then some (.iconst 1, 1, 24, 0, 0, .int 1) else none))))) else (bif Nat.blt pc 34 then (bif Nat.blt pc 29 then (bif Nat.blt pc 25 then (bif Nat.beq pc 24 then some (.iadd, 1, 25, 0, 0, .null) else none) else (bif Nat.blt pc 28 then (bif Nat.beq pc 25 then some (.putfield 171, 3, 28, 0, 26, .null) else none) else (bif Nat.beq pc 28 then some (.aload_n 0, 1, 29, 0, 0, .null) else none))) else (bif Nat.blt pc 32 then (bif Nat.beq pc 29 then some (.invokevirtual 191, 3, 32, 5, 0, .ref 0) else none) else (bif Nat.blt pc 33 then (bif Nat.beq pc 32 then some (.istore_n 3, 1, 33, 3, 0, .null) else none) else (bif Nat.beq pc 33 then some (.iload_n 3, 1, 34, 3, 0, .null) else none)))) else (bif Nat.blt pc 41 then (bif Nat.blt pc 37 then (bif Nat.beq pc 34 then some (.invokestatic 227, 3, 37, 10, 1, .null) else none) else (bif Nat.blt pc 40 then (bif Nat.beq pc 37 then some (.ifCond .eq 16, 3, 40, 53, 0, .null) else none) else (bif Nat.beq pc 40 then some (.aload_n 0, 1, 41, 0, 0, .null) else none))) else (bif Nat.blt pc 45 then (bif Nat.blt pc 44 then (bif Nat.beq pc 41 then some (.getfield 69, 3, 44, 0, 23, .null) else none) else (bif Nat.beq pc 44 then some (.iload_n 3, 1, 45, 3, 0, .null) else none)) else (bif Nat.blt pc 47 then (bif Nat.beq pc 45 then some (.bipush 97, 2, 47, 0, 0, .int 97) else none) else (bif Nat.beq pc 47 then some (.isub, 1, 48, 0, 0, .null) else none)))))) else (bif Nat.blt pc 69 then (bif Nat.blt pc 58 then (bif Nat.blt pc 53 then (bif Nat.blt pc 49 then (bif Nat.beq pc 48 then some (.iaload, 1, 49, 0, 0, .null) else none) else (bif Nat.blt pc 50 then (bif Nat.beq pc 49 then some (.iconst (-1), 1, 50, 0, 0, .int (-1)) else none) else (bif Nat.beq pc 50 then some (.if_icmp .eq 8, 3, 53, 58, 0, .null) else none))) else (bif Nat.blt pc 54 then (bif Nat.beq pc 53 then some (.aload_n 0, 1, 54, 0, 0, .null) else none) else (bif Nat.blt pc 57 then (bif Nat.beq pc 54 then some (.invokevirtual 195, 3, 57, 7, 0, .ref 0) else none) else (bif Nat.beq pc 57 then some (.return_, 1, 58, 0, 0, .null) else none)))) else (bif Nat.blt pc 63 then (bif Nat.blt pc 59 then (bif Nat.beq pc 58 then some (.aload_n 0, 1, 59, 0, 0, .null) else none) else (bif Nat.blt pc 60 then (bif Nat.beq pc 59 then some (.dup, 1, 60, 0, 0, .null) else none) else (bif Nat.beq pc 60 then some (.getfield 171, 3, 63, 0, 26, .null) else none))) else (bif Nat.blt pc 65 then (bif Nat.blt pc 64 then (bif Nat.beq pc 63 then some (.iconst 1, 1, 64, 0, 0, .int 1) else none) else (bif Nat.beq pc 64 then some (.iadd, 1, 65, 0, 0, .null) else none)) else (bif Nat.blt pc 68 then (bif Nat.beq pc 65 then some (.putfield 171, 3, 68, 0, 26, .null) else none) else (bif Nat.beq pc 68 then some (.aload_n 0, 1, 69, 0, 0, .null) else none))))) else (bif Nat.blt pc 83 then (bif Nat.blt pc 75 then (bif Nat.blt pc 71 then (bif Nat.beq pc 69 then some (.bipush 59, 2, 71, 0, 0, .int 59) else none) else (bif Nat.blt pc 74 then (bif Nat.beq pc 71 then some (.invokevirtual 268, 3, 74, 9, 1, .ref 0) else none) else (bif Nat.beq pc 74 then some (.aload_n 0, 1, 75, 0, 0, .null) else none))) else (bif Nat.blt pc 79 then (bif Nat.blt pc 78 then (bif Nat.beq pc 75 then some (.getfield 26, 3, 78, 0, 7, .null) else none) else (bif Nat.beq pc 78 then some (.iload_n 1, 1, 79, 1, 0, .null) else none)) else (bif Nat.blt pc 80 then (bif Nat.beq pc 79 then some (.aload_n 0, 1, 80, 0, 0, .null) else none) else (bif Nat.beq pc 80 then some (.getfield 162, 3, 83, 0, 19, .null) else none)))) else (bif Nat.blt pc 88 then (bif Nat.blt pc 84 then (bif Nat.beq pc 83 then some (.iastore, 1, 84, 0, 0, .null) else none) else (bif Nat.blt pc 85 then (bif Nat.beq pc 84 then some (.aload_n 0, 1, 85, 0, 0, .null) else none) else (bif Nat.beq pc 85 then some (.getfield 60, 3, 88, 0, 20, .null) else none))) else (bif Nat.blt pc 92 then (bif Nat.blt pc 89 then (bif Nat.beq pc 88 then some (.aload_n 0, 1, 89, 0, 0, .null) else none) else (bif Nat.beq pc 89 then some (.getfield 162, 3, 92, 0, 19, .null) else none)) else (bif Nat.blt pc 93 then (bif Nat.beq pc 92 then some (.iload_n 3, 1, 93, 3, 0, .null) else none) else (bif Nat.beq pc 93 then some (.bipush 97, 2, 95, 0, 0, .int 97) else none))))))) else (bif Nat.blt pc 139 then (bif Nat.blt pc 117 then (bif Nat.blt pc 105 then (bif Nat.blt pc 98 then (bif Nat.blt pc 96 then (bif Nat.beq pc 95 then some (.isub, 1, 96, 0, 0, .null) else none) else (bif Nat.blt pc 97 then (bif Nat.beq pc 96 then some (.iastore, 1, 97, 0, 0, .null) else none) else (bif Nat.beq pc 97 then some (.aload_n 0, 1, 98, 0, 0, .null) else none))) else (bif Nat.blt pc 101 then (bif Nat.beq pc 98 then some (.getfield 63, 3, 101, 0, 21, .null) else none) else (bif Nat.blt pc 102 then (bif Nat.beq pc 101 then some (.aload_n 0, 1, 102, 0, 0, .null) else none) else (bif Nat.beq pc 102 then some (.getfield 162, 3, 105, 0, 19, .null) else none)))) else (bif Nat.blt pc 111 then (bif Nat.blt pc 106 then (bif Nat.beq pc 105 then some (.iload_n 2, 1, 106, 2, 0, .null) else none) else (bif Nat.blt pc 108 then (bif Nat.beq pc 106 then some (.bipush 37, 2, 108, 0, 0, .int 37) else none) else (bif Nat.beq pc 108 then some (.if_icmp .ne 7, 3, 111, 115, 0, .null) else none))) else (bif Nat.blt pc 115 then (bif Nat.blt pc 112 then (bif Nat.beq pc 111 then some (.iconst 1, 1, 112, 0, 0, .int 1) else none) else (bif Nat.beq pc 112 then some (.goto 4, 3, 115, 116, 0, .null) else none)) else (bif Nat.blt pc 116 then (bif Nat.beq pc 115 then some (.iconst 0, 1, 116, 0, 0, .int 0) else none) else (bif Nat.beq pc 116 then some (.bastore, 1, 117, 0, 0, .null) else none))))) else (bif Nat.blt pc 127 then (bif Nat.blt pc 122 then (bif Nat.blt pc 118 then (bif Nat.beq pc 117 then some (.aload_n 0, 1, 118, 0, 0, .null) else none) else (bif Nat.blt pc 121 then (bif Nat.beq pc 118 then some (.getfield 66, 3, 121, 0, 22, .null) else none) else (bif Nat.beq pc 121 then some (.aload_n 0, 1, 122, 0, 0, .null) else none))) else (bif Nat.blt pc 125 then (bif Nat.beq pc 122 then some (.getfield 162, 3, 125, 0, 19, .null) else none) else (bif Nat.blt pc 126 then (bif Nat.beq pc 125 then some (.iload_n 1, 1, 126, 1, 0, .null) else none) else (bif Nat.beq pc 126 then some (.iastore, 1, 127, 0, 0, .null) else none)))) else (bif Nat.blt pc 132 then (bif Nat.blt pc 128 then (bif Nat.beq pc 127 then some (.aload_n 0, 1, 128, 0, 0, .null) else none) else (bif Nat.blt pc 131 then (bif Nat.beq pc 128 then some (.getfield 69, 3, 131, 0, 23, .null) else none) else (bif Nat.beq pc 131 then some (.iload_n 3, 1, 132, 3, 0, .null) else none))) else (bif Nat.blt pc 135 then (bif Nat.blt pc 134 then (bif Nat.beq pc 132 then some (.bipush 97, 2, 134, 0, 0, .int 97) else none) else (bif Nat.beq pc 134 then some (.isub, 1, 135, 0, 0, .null) else none)) else (bif Nat.blt pc 136 then (bif Nat.beq pc 135 then some (.aload_n 0, 1, 136, 0, 0, .null) else none) else (bif Nat.beq pc 136 then some (.getfield 162, 3, 139, 0, 19, .null) else none)))))) else (bif Nat.blt pc 160 then (bif Nat.blt pc 149 then (bif Nat.blt pc 144 then (bif Nat.blt pc 140 then (bif Nat.beq pc 139 then some (.iastore, 1, 140, 0, 0, .null) else none) else (bif Nat.blt pc 141 then (bif Nat.beq pc 140 then some (.aload_n 0, 1, 141, 0, 0, .null) else none) else (bif Nat.beq pc 141 then some (.getfield 72, 3, 144, 0, 24, .null) else none))) else (bif Nat.blt pc 145 then (bif Nat.beq pc 144 then some (.aload_n 0, 1, 145, 0, 0, .null) else none) else (bif Nat.blt pc 148 then (bif Nat.beq pc 145 then some (.getfield 165, 3, 148, 0, 25, .null) else none) else (bif Nat.beq pc 148 then some (.aload_n 0, 1, 149, 0, 0, .null) else none)))) else (bif Nat.blt pc 154 then (bif Nat.blt pc 152 then (bif Nat.beq pc 149 then some (.getfield 162, 3, 152, 0, 19, .null) else none) else (bif Nat.blt pc 153 then (bif Nat.beq pc 152 then some (.iastore, 1, 153, 0, 0, .null) else none) else (bif Nat.beq pc 153 then some (.aload_n 0, 1, 154, 0, 0, .null) else none))) else (bif Nat.blt pc 158 then (bif Nat.blt pc 155 then (bif Nat.beq pc 154 then some (.dup, 1, 155, 0, 0, .null) else none) else (bif Nat.beq pc 155 then some (.getfield 165, 3, 158, 0, 25, .null) else none)) else (bif Nat.blt pc 159 then (bif Nat.beq pc 158 then some (.iconst 1, 1, 159, 0, 0, .int 1) else none) else (bif Nat.beq pc 159 then some (.iadd, 1, 160, 0, 0, .null) else none))))) else (bif Nat.blt pc 173 then (bif Nat.blt pc 165 then (bif Nat.blt pc 163 then (bif Nat.beq pc 160 then some (.putfield 165, 3, 163, 0, 25, .null) else none) else (bif Nat.blt pc 164 then (bif Nat.beq pc 163 then some (.aload_n 0, 1, 164, 0, 0, .null) else none) else (bif Nat.beq pc 164 then some (.dup, 1, 165, 0, 0, .null) else none))) else (bif Nat.blt pc 169 then (bif Nat.blt pc 168 then (bif Nat.beq pc 165 then some (.getfield 162, 3, 168, 0, 19, .null) else none) else (bif Nat.beq pc 168 then some (.iconst 1, 1, 169, 0, 0, .int 1) else none)) else (bif Nat.blt pc 170 then (bif Nat.beq pc 169 then some (.iadd, 1, 170, 0, 0, .null) else none) else (bif Nat.beq pc 170 then some (.putfield 162, 3, 173, 0, 19, .null) else none)))) else (bif Nat.blt pc 178 then (bif Nat.blt pc 174 then (bif Nat.beq pc 173 then some (.aload_n 0, 1, 174, 0, 0, .null) else none) else (bif Nat.blt pc 177 then (bif Nat.beq pc 174 then some (.getfield 36, 3, 177, 0, 10, .null) else none) else (bif Nat.beq pc 177 then some (.iload_n 1, 1, 178, 1, 0, .null) else none))) else (bif Nat.blt pc 182 then (bif Nat.blt pc 179 then (bif Nat.beq pc 178 then some (.aload_n 0, 1, 179, 0, 0, .null) else none) else (bif Nat.beq pc 179 then some (.invokevirtual 198, 3, 182, 12, 0, .ref 0) else none)) else (bif Nat.blt pc 183 then (bif Nat.beq pc 182 then some (.iastore, 1, 183, 0, 0, .null) else none) else (bif Nat.beq pc 183 then some (.return_, 1, 184, 0, 0, .null) else none)))))))
def rq_T27 (pc : Nat) : Option pv_I := bif Nat.blt pc 184 then rq_U27 pc else none
def rq_U28 (pc : Nat) : Option pv_I := bif Nat.blt pc 30 then (bif Nat.blt pc 15 then (bif Nat.blt pc 4 then (bif Nat.blt pc 2 then (bif Nat.blt pc 1 then (bif Nat.beq pc 0 then some (.iconst 0, 1, 1, 0, 0, .int 0) else none) else (bif Nat.beq pc 1 then some (.istore_n 3, 1, 2, 3, 0, .null) else none)) else (bif Nat.blt pc 3 then (bif Nat.beq pc 2 then some (.iload_n 3, 1, 3, 3, 0, .null) else none) else (bif Nat.beq pc 3 then some (.aload_n 0, 1, 4, 0, 0, .null) else none))) else (bif Nat.blt pc 10 then (bif Nat.blt pc 7 then (bif Nat.beq pc 4 then some (.getfield 256, 3, 7, 0, 40, .null) else none) else (bif Nat.beq pc 7 then some (.if_icmp .ge 32, 3, 10, 39, 0, .null) else none)) else (bif Nat.blt pc 11 then (bif Nat.beq pc 10 then some (.aload_n 0, 1, 11, 0, 0, .null) else none) else (bif Nat.blt pc 14 then (bif Nat.beq pc 11 then some (.getfield 39, 3, 14, 0, 11, .null) else none) else (bif Nat.beq pc 14 then some (.aload_n 0, 1, 15, 0, 0, .null) else none))))) else (bif Nat.blt pc 21 then (bif Nat.blt pc 19 then (bif Nat.blt pc 18 then (bif Nat.beq pc 15 then some (.getfield 84, 3, 18, 0, 37, .null) else none) else (bif Nat.beq pc 18 then some (.iload_n 3, 1, 19, 3, 0, .null) else none)) else (bif Nat.blt pc 20 then (bif Nat.beq pc 19 then some (.iaload, 1, 20, 0, 0, .null) else none) else (bif Nat.beq pc 20 then some (.iaload, 1, 21, 0, 0, .null) else none))) else (bif Nat.blt pc 25 then (bif Nat.blt pc 22 then (bif Nat.beq pc 21 then some (.iload_n 2, 1, 22, 2, 0, .null) else none) else (bif Nat.beq pc 22 then some (.if_icmp .ne 11, 3, 25, 33, 0, .null) else none)) else (bif Nat.blt pc 26 then (bif Nat.beq pc 25 then some (.aload_n 0, 1, 26, 0, 0, .null) else none) else (bif Nat.blt pc 27 then (bif Nat.beq pc 26 then some (.aload_n 0, 1, 27, 0, 0, .null) else none) else (bif Nat.beq pc 27 then some (.getfield 171, 3, 30, 0, 26, .null) else none)))))) else (bif Nat.blt pc 47 then (bif Nat.blt pc 40 then (bif Nat.blt pc 36 then (bif Nat.blt pc 33 then (bif Nat.beq pc 30 then some (.invokevirtual 183, 3, 33, 6, 1, .ref 0) else none) else (bif Nat.beq pc 33 then some (.iinc 3 1, 3, 36, 3, 0, .int 1) else none)) else (bif Nat.blt pc 39 then (bif Nat.beq pc 36 then some (.goto (-34), 3, 39, 2, 0, .null) else none) else (bif Nat.beq pc 39 then some (.aload_n 0, 1, 40, 0, 0, .null) else none))) else (bif Nat.blt pc 44 then (bif Nat.blt pc 43 then (bif Nat.beq pc 40 then some (.getfield 39, 3, 43, 0, 11, .null) else none) else (bif Nat.beq pc 43 then some (.iload_n 1, 1, 44, 1, 0, .null) else none)) else (bif Nat.blt pc 45 then (bif Nat.beq pc 44 then some (.iload_n 2, 1, 45, 2, 0, .null) else none) else (bif Nat.blt pc 46 then (bif Nat.beq pc 45 then some (.iastore, 1, 46, 0, 0, .null) else none) else (bif Nat.beq pc 46 then some (.aload_n 0, 1, 47, 0, 0, .null) else none))))) else (bif Nat.blt pc 53 then (bif Nat.blt pc 51 then (bif Nat.blt pc 48 then (bif Nat.beq pc 47 then some (.dup, 1, 48, 0, 0, .null) else none) else (bif Nat.beq pc 48 then some (.getfield 171, 3, 51, 0, 26, .null) else none)) else (bif Nat.blt pc 52 then (bif Nat.beq pc 51 then some (.iconst 1, 1, 52, 0, 0, .int 1) else none) else (bif Nat.beq pc 52 then some (.iadd, 1, 53, 0, 0, .null) else none))) else (bif Nat.blt pc 57 then (bif Nat.blt pc 56 then (bif Nat.beq pc 53 then some (.putfield 171, 3, 56, 0, 26, .null) else none) else (bif Nat.beq pc 56 then some (.aload_n 0, 1, 57, 0, 0, .null) else none)) else (bif Nat.blt pc 59 then (bif Nat.beq pc 57 then some (.bipush 58, 2, 59, 0, 0, .int 58) else none) else (bif Nat.blt pc 62 then (bif Nat.beq pc 59 then some (.invokevirtual 268, 3, 62, 9, 1, .ref 0) else none) else (bif Nat.beq pc 62 then some (.return_, 1, 63, 0, 0, .null) else none))))))
def rq_T28 (pc : Nat) : Option pv_I := bif Nat.blt pc 63 then rq_U28 pc else none
def rq_U29 (pc : Nat) : Option pv_I := bif Nat.blt pc 12 then (bif Nat.blt pc 6 then (bif Nat.blt pc 1 then (bif Nat.beq pc 0 then some (.iload_n 0, 1, 1, 0, 0, .null) else none) else (bif Nat.blt pc 3 then (bif Nat.beq pc 1 then some (.bipush 87, 2, 3, 0, 0, .int 87) else none) else (bif Nat.beq pc 3 then some (.if_icmp .eq 15, 3, 6, 18, 0, .null) else none))) else (bif Nat.blt pc 7 then (bif Nat.beq pc 6 then some (.iload_n 0, 1, 7, 0, 0, .null) else none) else (bif Nat.blt pc 9 then (bif Nat.beq pc 7 then some (.bipush 68, 2, 9, 0, 0, .int 68) else none) else (bif Nat.beq pc 9 then some (.if_icmp .eq 9, 3, 12, 18, 0, .null) else none)))) else (bif Nat.blt pc 18 then (bif Nat.blt pc 13 then (bif Nat.beq pc 12 then some (.iload_n 0, 1, 13, 0, 0, .null) else none) else (bif Nat.blt pc 15 then (bif Nat.beq pc 13 then some (.bipush 70, 2, 15, 0, 0, .int 70) else none) else (bif Nat.beq pc 15 then some (.if_icmp .ne 7, 3, 18, 22, 0, .null) else none))) else (bif Nat.blt pc 22 then (bif Nat.blt pc 19 then (bif Nat.beq pc 18 then some (.iconst 1, 1, 19, 0, 0, .int 1) else none) else (bif Nat.beq pc 19 then some (.goto 4, 3, 22, 23, 0, .null) else none)) else (bif Nat.blt pc 23 then (bif Nat.beq pc 22 then some (.iconst 0, 1, 23, 0, 0, .int 0) else none) else (bif Nat.beq pc 23 then some (.ireturn, 1, 24, 0, 0, .null) else none))))
def rq_T29 (pc : Nat) : Option pv_I := bif Nat.blt pc 24 then rq_U29 pc else none
def rq_U30 (pc : Nat) : Option pv_I := bif Nat.blt pc 128 then (bif Nat.blt pc 65 then (bif Nat.blt pc 31 then (bif Nat.blt pc 14 then (bif Nat.blt pc 6 then (bif Nat.blt pc 2 then (bif Nat.blt pc 1 then (bif Nat.beq pc 0 then some (.aload_n 0, 1, 1, 0, 0, .null) else none) else (bif Nat.beq pc 1 then some (.dup, 1, 2, 0, 0, .null) else none)) else (bif Nat.blt pc 5 then (bif Nat.beq pc 2 then some (.getfield 171, 3, 5, 0, 26, .null) else none) else (bif Nat.beq pc 5 then some (.iconst 1, 1, 6, 0, 0, .int 1) else none))) else (bif Nat.blt pc 10 then (bif Nat.blt pc 7 then (bif Nat.beq pc 6 then some (.iadd, 1, 7, 0, 0, .null) else none) else (bif Nat.beq pc 7 then some (.putfield 171, 3, 10, 0, 26, .null) else none)) else (bif Nat.blt pc 11 then (bif Nat.beq pc 10 then some (.aload_n 0, 1, 11, 0, 0, .null) else none) else (bif Nat.beq pc 11 then some (.invokevirtual 191, 3, 14, 5, 0, .ref 0) else none)))) else (bif Nat.blt pc 22 then (bif Nat.blt pc 16 then (bif Nat.blt pc 15 then (bif Nat.beq pc 14 then some (.istore_n 3, 1, 15, 3, 0, .null) else none) else (bif Nat.beq pc 15 then some (.iload_n 3, 1, 16, 3, 0, .null) else none)) else (bif Nat.blt pc 19 then (bif Nat.beq pc 16 then some (.invokestatic 259, 3, 19, 11, 1, .null) else none) else (bif Nat.beq pc 19 then some (.ifCond .eq 137, 3, 22, 156, 0, .null) else none))) else (bif Nat.blt pc 25 then (bif Nat.blt pc 23 then (bif Nat.beq pc 22 then some (.iconst 0, 1, 23, 0, 0, .int 0) else none) else (bif Nat.beq pc 23 then some (.istore 4, 2, 25, 4, 0, .null) else none)) else (bif Nat.blt pc 27 then (bif Nat.beq pc 25 then some (.iload 4, 2, 27, 4, 0, .null) else none) else (bif Nat.blt pc 28 then (bif Nat.beq pc 27 then some (.aload_n 0, 1, 28, 0, 0, .null) else none) else (bif Nat.beq pc 28 then some (.getfield 256, 3, 31, 0, 40, .null) else none)))))) else (bif Nat.blt pc 47 then (bif Nat.blt pc 39 then (bif Nat.blt pc 35 then (bif Nat.blt pc 34 then (bif Nat.beq pc 31 then some (.if_icmp .ge 93, 3, 34, 124, 0, .null) else none) else (bif Nat.beq pc 34 then some (.aload_n 0, 1, 35, 0, 0, .null) else none)) else (bif Nat.blt pc 38 then (bif Nat.beq pc 35 then some (.getfield 39, 3, 38, 0, 11, .null) else none) else (bif Nat.beq pc 38 then some (.aload_n 0, 1, 39, 0, 0, .null) else none))) else (bif Nat.blt pc 44 then (bif Nat.blt pc 42 then (bif Nat.beq pc 39 then some (.getfield 84, 3, 42, 0, 37, .null) else none) else (bif Nat.beq pc 42 then some (.iload 4, 2, 44, 4, 0, .null) else none)) else (bif Nat.blt pc 45 then (bif Nat.beq pc 44 then some (.iaload, 1, 45, 0, 0, .null) else none) else (bif Nat.blt pc 46 then (bif Nat.beq pc 45 then some (.iaload, 1, 46, 0, 0, .null) else none) else (bif Nat.beq pc 46 then some (.iload_n 3, 1, 47, 3, 0, .null) else none))))) else (bif Nat.blt pc 56 then (bif Nat.blt pc 51 then (bif Nat.blt pc 50 then (bif Nat.beq pc 47 then some (.if_icmp .ne 71, 3, 50, 118, 0, .null) else none) else (bif Nat.beq pc 50 then some (.iload_n 2, 1, 51, 2, 0, .null) else none)) else (bif Nat.blt pc 53 then (bif Nat.beq pc 51 then some (.bipush 66, 2, 53, 0, 0, .int 66) else none) else (bif Nat.beq pc 53 then some (.if_icmp .ne 19, 3, 56, 72, 0, .null) else none))) else (bif Nat.blt pc 60 then (bif Nat.blt pc 57 then (bif Nat.beq pc 56 then some (.aload_n 0, 1, 57, 0, 0, .null) else none) else (bif Nat.beq pc 57 then some (.getfield 42, 3, 60, 0, 12, .null) else none)) else (bif Nat.blt pc 61 then (bif Nat.beq pc 60 then some (.iload_n 1, 1, 61, 1, 0, .null) else none) else (bif Nat.blt pc 62 then (bif Nat.beq pc 61 then some (.aload_n 0, 1, 62, 0, 0, .null) else none) else (bif Nat.beq pc 62 then some (.getfield 84, 3, 65, 0, 37, .null) else none))))))) else (bif Nat.blt pc 95 then (bif Nat.blt pc 77 then (bif Nat.blt pc 72 then (bif Nat.blt pc 68 then (bif Nat.blt pc 67 then (bif Nat.beq pc 65 then some (.iload 4, 2, 67, 4, 0, .null) else none) else (bif Nat.beq pc 67 then some (.iaload, 1, 68, 0, 0, .null) else none)) else (bif Nat.blt pc 69 then (bif Nat.beq pc 68 then some (.iastore, 1, 69, 0, 0, .null) else none) else (bif Nat.beq pc 69 then some (.goto 49, 3, 72, 118, 0, .null) else none))) else (bif Nat.blt pc 75 then (bif Nat.blt pc 74 then (bif Nat.beq pc 72 then some (.iload 4, 2, 74, 4, 0, .null) else none) else (bif Nat.beq pc 74 then some (.iconst 1, 1, 75, 0, 0, .int 1) else none)) else (bif Nat.blt pc 76 then (bif Nat.beq pc 75 then some (.iadd, 1, 76, 0, 0, .null) else none) else (bif Nat.beq pc 76 then some (.aload_n 0, 1, 77, 0, 0, .null) else none)))) else (bif Nat.blt pc 87 then (bif Nat.blt pc 83 then (bif Nat.blt pc 80 then (bif Nat.beq pc 77 then some (.getfield 256, 3, 80, 0, 40, .null) else none) else (bif Nat.beq pc 80 then some (.if_icmp .ge 38, 3, 83, 118, 0, .null) else none)) else (bif Nat.blt pc 84 then (bif Nat.beq pc 83 then some (.aload_n 0, 1, 84, 0, 0, .null) else none) else (bif Nat.beq pc 84 then some (.getfield 13, 3, 87, 0, 3, .null) else none))) else (bif Nat.blt pc 91 then (bif Nat.blt pc 88 then (bif Nat.beq pc 87 then some (.aload_n 0, 1, 88, 0, 0, .null) else none) else (bif Nat.beq pc 88 then some (.getfield 84, 3, 91, 0, 37, .null) else none)) else (bif Nat.blt pc 93 then (bif Nat.beq pc 91 then some (.iload 4, 2, 93, 4, 0, .null) else none) else (bif Nat.blt pc 94 then (bif Nat.beq pc 93 then some (.iconst 1, 1, 94, 0, 0, .int 1) else none) else (bif Nat.beq pc 94 then some (.iadd, 1, 95, 0, 0, .null) else none)))))) else (bif Nat.blt pc 112 then (bif Nat.blt pc 103 then (bif Nat.blt pc 97 then (bif Nat.blt pc 96 then (bif Nat.beq pc 95 then some (.iaload, 1, 96, 0, 0, .null) else none) else (bif Nat.beq pc 96 then some (.iaload, 1, 97, 0, 0, .null) else none)) else (bif Nat.blt pc 100 then (bif Nat.beq pc 97 then some (.invokestatic 283, 3, 100, 29, 1, .null) else none) else (bif Nat.beq pc 100 then some (.ifCond .eq 18, 3, 103, 118, 0, .null) else none))) else (bif Nat.blt pc 107 then (bif Nat.blt pc 104 then (bif Nat.beq pc 103 then some (.aload_n 0, 1, 104, 0, 0, .null) else none) else (bif Nat.beq pc 104 then some (.getfield 42, 3, 107, 0, 12, .null) else none)) else (bif Nat.blt pc 108 then (bif Nat.beq pc 107 then some (.iload_n 1, 1, 108, 1, 0, .null) else none) else (bif Nat.blt pc 109 then (bif Nat.beq pc 108 then some (.aload_n 0, 1, 109, 0, 0, .null) else none) else (bif Nat.beq pc 109 then some (.getfield 84, 3, 112, 0, 37, .null) else none))))) else (bif Nat.blt pc 117 then (bif Nat.blt pc 115 then (bif Nat.blt pc 114 then (bif Nat.beq pc 112 then some (.iload 4, 2, 114, 4, 0, .null) else none) else (bif Nat.beq pc 114 then some (.iconst 1, 1, 115, 0, 0, .int 1) else none)) else (bif Nat.blt pc 116 then (bif Nat.beq pc 115 then some (.iadd, 1, 116, 0, 0, .null) else none) else (bif Nat.beq pc 116 then some (.iaload, 1, 117, 0, 0, .null) else none))) else (bif Nat.blt pc 121 then (bif Nat.blt pc 118 then (bif Nat.beq pc 117 then some (.iastore, 1, 118, 0, 0, .null) else none) else (bif Nat.beq pc 118 then some (.iinc 4 1, 3, 121, 4, 0, .int 1) else none)) else (bif Nat.blt pc 124 then (bif Nat.beq pc 121 then some (.goto (-96), 3, 124, 25, 0, .null) else none) else (bif Nat.blt pc 125 then (bif Nat.beq pc 124 then some (.aload_n 0, 1, 125, 0, 0, .null) else none) else (bif Nat.beq pc 125 then some (.getfield 42, 3, 128, 0, 12, .null) else none)))))))) else (bif Nat.blt pc 189 then (bif Nat.blt pc 156 then (bif Nat.blt pc 140 then (bif Nat.blt pc 134 then (bif Nat.blt pc 130 then (bif Nat.blt pc 129 then (bif Nat.beq pc 128 then some (.iload_n 1, 1, 129, 1, 0, .null) else none) else (bif Nat.beq pc 129 then some (.iaload, 1, 130, 0, 0, .null) else none)) else (bif Nat.blt pc 131 then (bif Nat.beq pc 130 then some (.iconst (-1), 1, 131, 0, 0, .int (-1)) else none) else (bif Nat.beq pc 131 then some (.if_icmp .ne 8, 3, 134, 139, 0, .null) else none))) else (bif Nat.blt pc 138 then (bif Nat.blt pc 135 then (bif Nat.beq pc 134 then some (.aload_n 0, 1, 135, 0, 0, .null) else none) else (bif Nat.beq pc 135 then some (.invokevirtual 195, 3, 138, 7, 0, .ref 0) else none)) else (bif Nat.blt pc 139 then (bif Nat.beq pc 138 then some (.return_, 1, 139, 0, 0, .null) else none) else (bif Nat.beq pc 139 then some (.aload_n 0, 1, 140, 0, 0, .null) else none)))) else (bif Nat.blt pc 146 then (bif Nat.blt pc 144 then (bif Nat.blt pc 141 then (bif Nat.beq pc 140 then some (.dup, 1, 141, 0, 0, .null) else none) else (bif Nat.beq pc 141 then some (.getfield 171, 3, 144, 0, 26, .null) else none)) else (bif Nat.blt pc 145 then (bif Nat.beq pc 144 then some (.iconst 1, 1, 145, 0, 0, .int 1) else none) else (bif Nat.beq pc 145 then some (.iadd, 1, 146, 0, 0, .null) else none))) else (bif Nat.blt pc 150 then (bif Nat.blt pc 149 then (bif Nat.beq pc 146 then some (.putfield 171, 3, 149, 0, 26, .null) else none) else (bif Nat.beq pc 149 then some (.aload_n 0, 1, 150, 0, 0, .null) else none)) else (bif Nat.blt pc 152 then (bif Nat.beq pc 150 then some (.bipush 59, 2, 152, 0, 0, .int 59) else none) else (bif Nat.blt pc 155 then (bif Nat.beq pc 152 then some (.invokevirtual 268, 3, 155, 9, 1, .ref 0) else none) else (bif Nat.beq pc 155 then some (.return_, 1, 156, 0, 0, .null) else none)))))) else (bif Nat.blt pc 173 then (bif Nat.blt pc 162 then (bif Nat.blt pc 159 then (bif Nat.blt pc 157 then (bif Nat.beq pc 156 then some (.iconst 0, 1, 157, 0, 0, .int 0) else none) else (bif Nat.beq pc 157 then some (.istore 4, 2, 159, 4, 0, .null) else none)) else (bif Nat.blt pc 161 then (bif Nat.beq pc 159 then some (.iload 4, 2, 161, 4, 0, .null) else none) else (bif Nat.beq pc 161 then some (.aload_n 0, 1, 162, 0, 0, .null) else none))) else (bif Nat.blt pc 168 then (bif Nat.blt pc 165 then (bif Nat.beq pc 162 then some (.getfield 256, 3, 165, 0, 40, .null) else none) else (bif Nat.beq pc 165 then some (.if_icmp .ge 66, 3, 168, 231, 0, .null) else none)) else (bif Nat.blt pc 169 then (bif Nat.beq pc 168 then some (.aload_n 0, 1, 169, 0, 0, .null) else none) else (bif Nat.blt pc 172 then (bif Nat.beq pc 169 then some (.getfield 13, 3, 172, 0, 3, .null) else none) else (bif Nat.beq pc 172 then some (.aload_n 0, 1, 173, 0, 0, .null) else none))))) else (bif Nat.blt pc 180 then (bif Nat.blt pc 178 then (bif Nat.blt pc 176 then (bif Nat.beq pc 173 then some (.getfield 84, 3, 176, 0, 37, .null) else none) else (bif Nat.beq pc 176 then some (.iload 4, 2, 178, 4, 0, .null) else none)) else (bif Nat.blt pc 179 then (bif Nat.beq pc 178 then some (.iaload, 1, 179, 0, 0, .null) else none) else (bif Nat.beq pc 179 then some (.iaload, 1, 180, 0, 0, .null) else none))) else (bif Nat.blt pc 183 then (bif Nat.blt pc 182 then (bif Nat.beq pc 180 then some (.istore 5, 2, 182, 5, 0, .null) else none) else (bif Nat.beq pc 182 then some (.aload_n 0, 1, 183, 0, 0, .null) else none)) else (bif Nat.blt pc 186 then (bif Nat.beq pc 183 then some (.getfield 42, 3, 186, 0, 12, .null) else none) else (bif Nat.blt pc 187 then (bif Nat.beq pc 186 then some (.iload_n 1, 1, 187, 1, 0, .null) else none) else (bif Nat.beq pc 187 then some (.iload 5, 2, 189, 5, 0, .null) else none))))))) else (bif Nat.blt pc 225 then (bif Nat.blt pc 209 then (bif Nat.blt pc 199 then (bif Nat.blt pc 195 then (bif Nat.blt pc 192 then (bif Nat.beq pc 189 then some (.invokestatic 283, 3, 192, 29, 1, .null) else none) else (bif Nat.beq pc 192 then some (.ifCond .ne 16, 3, 195, 208, 0, .null) else none)) else (bif Nat.blt pc 197 then (bif Nat.beq pc 195 then some (.iload 5, 2, 197, 5, 0, .null) else none) else (bif Nat.beq pc 197 then some (.bipush 83, 2, 199, 0, 0, .int 83) else none))) else (bif Nat.blt pc 203 then (bif Nat.blt pc 202 then (bif Nat.beq pc 199 then some (.if_icmp .ne 19, 3, 202, 218, 0, .null) else none) else (bif Nat.beq pc 202 then some (.iload_n 2, 1, 203, 2, 0, .null) else none)) else (bif Nat.blt pc 205 then (bif Nat.beq pc 203 then some (.bipush 66, 2, 205, 0, 0, .int 66) else none) else (bif Nat.blt pc 208 then (bif Nat.beq pc 205 then some (.if_icmp .ne 13, 3, 208, 218, 0, .null) else none) else (bif Nat.beq pc 208 then some (.aload_n 0, 1, 209, 0, 0, .null) else none))))) else (bif Nat.blt pc 218 then (bif Nat.blt pc 214 then (bif Nat.blt pc 212 then (bif Nat.beq pc 209 then some (.getfield 84, 3, 212, 0, 37, .null) else none) else (bif Nat.beq pc 212 then some (.iload 4, 2, 214, 4, 0, .null) else none)) else (bif Nat.blt pc 215 then (bif Nat.beq pc 214 then some (.iaload, 1, 215, 0, 0, .null) else none) else (bif Nat.beq pc 215 then some (.goto 9, 3, 218, 224, 0, .null) else none))) else (bif Nat.blt pc 222 then (bif Nat.blt pc 219 then (bif Nat.beq pc 218 then some (.aload_n 0, 1, 219, 0, 0, .null) else none) else (bif Nat.beq pc 219 then some (.getfield 42, 3, 222, 0, 12, .null) else none)) else (bif Nat.blt pc 223 then (bif Nat.beq pc 222 then some (.iload_n 1, 1, 223, 1, 0, .null) else none) else (bif Nat.blt pc 224 then (bif Nat.beq pc 223 then some (.iaload, 1, 224, 0, 0, .null) else none) else (bif Nat.beq pc 224 then some (.iastore, 1, 225, 0, 0, .null) else none)))))) else (bif Nat.blt pc 243 then (bif Nat.blt pc 234 then (bif Nat.blt pc 231 then (bif Nat.blt pc 228 then (bif Nat.beq pc 225 then some (.iinc 4 1, 3, 228, 4, 0, .int 1) else none) else (bif Nat.beq pc 228 then some (.goto (-69), 3, 231, 159, 0, .null) else none)) else (bif Nat.blt pc 232 then (bif Nat.beq pc 231 then some (.iload_n 3, 1, 232, 3, 0, .null) else none) else (bif Nat.beq pc 232 then some (.bipush 59, 2, 234, 0, 0, .int 59) else none))) else (bif Nat.blt pc 238 then (bif Nat.blt pc 237 then (bif Nat.beq pc 234 then some (.if_icmp .ne 18, 3, 237, 252, 0, .null) else none) else (bif Nat.beq pc 237 then some (.aload_n 0, 1, 238, 0, 0, .null) else none)) else (bif Nat.blt pc 241 then (bif Nat.beq pc 238 then some (.getfield 42, 3, 241, 0, 12, .null) else none) else (bif Nat.blt pc 242 then (bif Nat.beq pc 241 then some (.iload_n 1, 1, 242, 1, 0, .null) else none) else (bif Nat.beq pc 242 then some (.iaload, 1, 243, 0, 0, .null) else none))))) else (bif Nat.blt pc 251 then (bif Nat.blt pc 247 then (bif Nat.blt pc 244 then (bif Nat.beq pc 243 then some (.iconst (-1), 1, 244, 0, 0, .int (-1)) else none) else (bif Nat.beq pc 244 then some (.if_icmp .ne 8, 3, 247, 252, 0, .null) else none)) else (bif Nat.blt pc 248 then (bif Nat.beq pc 247 then some (.aload_n 0, 1, 248, 0, 0, .null) else none) else (bif Nat.beq pc 248 then some (.invokevirtual 195, 3, 251, 7, 0, .ref 0) else none))) else (bif Nat.blt pc 253 then (bif Nat.blt pc 252 then (bif Nat.beq pc 251 then some (.return_, 1, 252, 0, 0, .null) else none) else (bif Nat.beq pc 252 then some (.aload_n 0, 1, 253, 0, 0, .null) else none)) else (bif Nat.blt pc 255 then (bif Nat.beq pc 253 then some (.bipush 59, 2, 255, 0, 0, .int 59) else none) else (bif Nat.blt pc 258 then (bif Nat.beq pc 255 then some (.invokevirtual 268, 3, 258, 9, 1, .ref 0) else none) else (bif Nat.beq pc 258 then some (.return_, 1, 259, 0, 0, .null) else none))))))))
def rq_T30 (pc : Nat) : Option pv_I := bif Nat.blt pc 259 then rq_U30 pc else none
def rq_U31 (pc : Nat) : Option pv_I := bif Nat.blt pc 11 then (bif Nat.blt pc 5 then (bif Nat.blt pc 1 then (bif Nat.beq pc 0 then some (.aload_n 0, 1, 1, 0, 0, .null) else none) else (bif Nat.blt pc 2 then (bif Nat.beq pc 1 then some (.dup, 1, 2, 0, 0, .null) else none) else (bif Nat.beq pc 2 then some (.getfield 256, 3, 5, 0, 40, .null) else none))) else (bif Nat.blt pc 7 then (bif Nat.blt pc 6 then (bif Nat.beq pc 5 then some (.iconst 1, 1, 6, 0, 0, .int 1) else none) else (bif Nat.beq pc 6 then some (.isub, 1, 7, 0, 0, .null) else none)) else (bif Nat.blt pc 10 then (bif Nat.beq pc 7 then some (.putfield 256, 3, 10, 0, 40, .null) else none) else (bif Nat.beq pc 10 then some (.aload_n 0, 1, 11, 0, 0, .null) else none)))) else (bif Nat.blt pc 16 then (bif Nat.blt pc 12 then (bif Nat.beq pc 11 then some (.aload_n 0, 1, 12, 0, 0, .null) else none) else (bif Nat.blt pc 15 then (bif Nat.beq pc 12 then some (.getfield 90, 3, 15, 0, 39, .null) else none) else (bif Nat.beq pc 15 then some (.aload_n 0, 1, 16, 0, 0, .null) else none))) else (bif Nat.blt pc 20 then (bif Nat.blt pc 19 then (bif Nat.beq pc 16 then some (.getfield 256, 3, 19, 0, 40, .null) else none) else (bif Nat.beq pc 19 then some (.iaload, 1, 20, 0, 0, .null) else none)) else (bif Nat.blt pc 23 then (bif Nat.beq pc 20 then some (.invokevirtual 286, 3, 23, 24, 1, .ref 0) else none) else (bif Nat.beq pc 23 then some (.return_, 1, 24, 0, 0, .null) else none))))
def rq_T31 (pc : Nat) : Option pv_I := bif Nat.blt pc 24 then rq_U31 pc else none
def rq_U32 (pc : Nat) : Option pv_I := bif Nat.blt pc 24 then (bif Nat.blt pc 11 then (bif Nat.blt pc 6 then (bif Nat.blt pc 1 then (bif Nat.beq pc 0 then some (.aload_n 0, 1, 1, 0, 0, .null) else none) else (bif Nat.blt pc 4 then (bif Nat.beq pc 1 then some (.invokevirtual 191, 3, 4, 5, 0, .ref 0) else none) else (bif Nat.beq pc 4 then some (.bipush 125, 2, 6, 0, 0, .int 125) else none))) else (bif Nat.blt pc 9 then (bif Nat.beq pc 6 then some (.if_icmp .ne 30, 3, 9, 36, 0, .null) else none) else (bif Nat.blt pc 10 then (bif Nat.beq pc 9 then some (.aload_n 0, 1, 10, 0, 0, .null) else none) else (bif Nat.beq pc 10 then some (.dup, 1, 11, 0, 0, .null) else none)))) else (bif Nat.blt pc 16 then (bif Nat.blt pc 14 then (bif Nat.beq pc 11 then some (.getfield 171, 3, 14, 0, 26, .null) else none) else (bif Nat.blt pc 15 then (bif Nat.beq pc 14 then some (.iconst 1, 1, 15, 0, 0, .int 1) else none) else (bif Nat.beq pc 15 then some (.iadd, 1, 16, 0, 0, .null) else none))) else (bif Nat.blt pc 20 then (bif Nat.blt pc 19 then (bif Nat.beq pc 16 then some (.putfield 171, 3, 19, 0, 26, .null) else none) else (bif Nat.beq pc 19 then some (.aload_n 0, 1, 20, 0, 0, .null) else none)) else (bif Nat.blt pc 21 then (bif Nat.beq pc 20 then some (.aload_n 0, 1, 21, 0, 0, .null) else none) else (bif Nat.beq pc 21 then some (.getfield 90, 3, 24, 0, 39, .null) else none))))) else (bif Nat.blt pc 35 then (bif Nat.blt pc 29 then (bif Nat.blt pc 25 then (bif Nat.beq pc 24 then some (.aload_n 0, 1, 25, 0, 0, .null) else none) else (bif Nat.blt pc 28 then (bif Nat.beq pc 25 then some (.getfield 256, 3, 28, 0, 40, .null) else none) else (bif Nat.beq pc 28 then some (.iconst 1, 1, 29, 0, 0, .int 1) else none))) else (bif Nat.blt pc 31 then (bif Nat.blt pc 30 then (bif Nat.beq pc 29 then some (.isub, 1, 30, 0, 0, .null) else none) else (bif Nat.beq pc 30 then some (.iaload, 1, 31, 0, 0, .null) else none)) else (bif Nat.blt pc 34 then (bif Nat.beq pc 31 then some (.invokevirtual 286, 3, 34, 24, 1, .ref 0) else none) else (bif Nat.beq pc 34 then some (.iconst 1, 1, 35, 0, 0, .int 1) else none)))) else (bif Nat.blt pc 38 then (bif Nat.blt pc 36 then (bif Nat.beq pc 35 then some (.ireturn, 1, 36, 0, 0, .null) else none) else (bif Nat.blt pc 37 then (bif Nat.beq pc 36 then some (.aload_n 0, 1, 37, 0, 0, .null) else none) else (bif Nat.beq pc 37 then some (.iconst 1, 1, 38, 0, 0, .int 1) else none))) else (bif Nat.blt pc 42 then (bif Nat.blt pc 39 then (bif Nat.beq pc 38 then some (.iload_n 1, 1, 39, 1, 0, .null) else none) else (bif Nat.beq pc 39 then some (.invokevirtual 289, 3, 42, 26, 2, .ref 0) else none)) else (bif Nat.blt pc 43 then (bif Nat.beq pc 42 then some (.iconst 0, 1, 43, 0, 0, .int 0) else none) else (bif Nat.beq pc 43 then some (.ireturn, 1, 44, 0, 0, .null) else none)))))
def rq_T32 (pc : Nat) : Option pv_I := bif Nat.blt pc 44 then rq_U32 pc else none
def rq_U33 (pc : Nat) : Option pv_I := bif Nat.blt pc 174 then (bif Nat.blt pc 118 then (bif Nat.blt pc 89 then (bif Nat.blt pc 12 then (bif Nat.blt pc 6 then (bif Nat.blt pc 4 then (bif Nat.blt pc 1 then (bif Nat.beq pc 0 then some (.aload_n 0, 1, 1, 0, 0, .null) else none) else (bif Nat.beq pc 1 then some (.getfield 256, 3, 4, 0, 40, .null) else none)) else (bif Nat.blt pc 5 then (bif Nat.beq pc 4 then some (.iconst 1, 1, 5, 0, 0, .int 1) else none) else (bif Nat.beq pc 5 then some (.isub, 1, 6, 0, 0, .null) else none))) else (bif Nat.blt pc 8 then (bif Nat.blt pc 7 then (bif Nat.beq pc 6 then some (.istore_n 1, 1, 7, 1, 0, .null) else none) else (bif Nat.beq pc 7 then some (.aload_n 0, 1, 8, 0, 0, .null) else none)) else (bif Nat.blt pc 11 then (bif Nat.beq pc 8 then some (.getfield 84, 3, 11, 0, 37, .null) else none) else (bif Nat.beq pc 11 then some (.iload_n 1, 1, 12, 1, 0, .null) else none)))) else (bif Nat.blt pc 18 then (bif Nat.blt pc 14 then (bif Nat.blt pc 13 then (bif Nat.beq pc 12 then some (.iaload, 1, 13, 0, 0, .null) else none) else (bif Nat.beq pc 13 then some (.istore_n 2, 1, 14, 2, 0, .null) else none)) else (bif Nat.blt pc 15 then (bif Nat.beq pc 14 then some (.aload_n 0, 1, 15, 0, 0, .null) else none) else (bif Nat.beq pc 15 then some (.getfield 13, 3, 18, 0, 3, .null) else none))) else (bif Nat.blt pc 20 then (bif Nat.blt pc 19 then (bif Nat.beq pc 18 then some (.iload_n 2, 1, 19, 2, 0, .null) else none) else (bif Nat.beq pc 19 then some (.iaload, 1, 20, 0, 0, .null) else none)) else (bif Nat.blt pc 88 then (bif Nat.beq pc 20 then some (.lookupswitch 267 #[(58, 83), (68, 201), (70, 128), (73, 119), (83, 258), (87, 128), (123, 68)], 68, 88, 0, 0, .null) else none) else (bif Nat.beq pc 88 then some (.aload_n 0, 1, 89, 0, 0, .null) else none))))) else (bif Nat.blt pc 107 then (bif Nat.blt pc 97 then (bif Nat.blt pc 93 then (bif Nat.blt pc 90 then (bif Nat.beq pc 89 then some (.iconst 0, 1, 90, 0, 0, .int 0) else none) else (bif Nat.beq pc 90 then some (.invokevirtual 293, 3, 93, 32, 1, .ref 0) else none)) else (bif Nat.blt pc 96 then (bif Nat.beq pc 93 then some (.ifCond .eq 200, 3, 96, 293, 0, .null) else none) else (bif Nat.beq pc 96 then some (.aload_n 0, 1, 97, 0, 0, .null) else none))) else (bif Nat.blt pc 103 then (bif Nat.blt pc 100 then (bif Nat.beq pc 97 then some (.invokevirtual 296, 3, 100, 31, 0, .ref 0) else none) else (bif Nat.beq pc 100 then some (.goto 193, 3, 103, 293, 0, .null) else none)) else (bif Nat.blt pc 104 then (bif Nat.beq pc 103 then some (.aload_n 0, 1, 104, 0, 0, .null) else none) else (bif Nat.beq pc 104 then some (.getfield 87, 3, 107, 0, 38, .null) else none)))) else (bif Nat.blt pc 111 then (bif Nat.blt pc 109 then (bif Nat.blt pc 108 then (bif Nat.beq pc 107 then some (.iload_n 1, 1, 108, 1, 0, .null) else none) else (bif Nat.beq pc 108 then some (.dup2, 1, 109, 0, 0, .null) else none)) else (bif Nat.blt pc 110 then (bif Nat.beq pc 109 then some (.iaload, 1, 110, 0, 0, .null) else none) else (bif Nat.beq pc 110 then some (.iconst 1, 1, 111, 0, 0, .int 1) else none))) else (bif Nat.blt pc 113 then (bif Nat.blt pc 112 then (bif Nat.beq pc 111 then some (.iadd, 1, 112, 0, 0, .null) else none) else (bif Nat.beq pc 112 then some (.iastore, 1, 113, 0, 0, .null) else none)) else (bif Nat.blt pc 114 then (bif Nat.beq pc 113 then some (.aload_n 0, 1, 114, 0, 0, .null) else none) else (bif Nat.blt pc 117 then (bif Nat.beq pc 114 then some (.getfield 87, 3, 117, 0, 38, .null) else none) else (bif Nat.beq pc 117 then some (.iload_n 1, 1, 118, 1, 0, .null) else none))))))) else (bif Nat.blt pc 148 then (bif Nat.blt pc 132 then (bif Nat.blt pc 124 then (bif Nat.blt pc 120 then (bif Nat.blt pc 119 then (bif Nat.beq pc 118 then some (.iaload, 1, 119, 0, 0, .null) else none) else (bif Nat.beq pc 119 then some (.iconst 1, 1, 120, 0, 0, .int 1) else none)) else (bif Nat.blt pc 123 then (bif Nat.beq pc 120 then some (.if_icmp .ne 12, 3, 123, 132, 0, .null) else none) else (bif Nat.beq pc 123 then some (.aload_n 0, 1, 124, 0, 0, .null) else none))) else (bif Nat.blt pc 126 then (bif Nat.blt pc 125 then (bif Nat.beq pc 124 then some (.iconst 0, 1, 125, 0, 0, .int 0) else none) else (bif Nat.beq pc 125 then some (.iconst 0, 1, 126, 0, 0, .int 0) else none)) else (bif Nat.blt pc 129 then (bif Nat.beq pc 126 then some (.invokevirtual 289, 3, 129, 26, 2, .ref 0) else none) else (bif Nat.beq pc 129 then some (.goto 164, 3, 132, 293, 0, .null) else none)))) else (bif Nat.blt pc 140 then (bif Nat.blt pc 136 then (bif Nat.blt pc 133 then (bif Nat.beq pc 132 then some (.aload_n 0, 1, 133, 0, 0, .null) else none) else (bif Nat.beq pc 133 then some (.invokevirtual 296, 3, 136, 31, 0, .ref 0) else none)) else (bif Nat.blt pc 139 then (bif Nat.beq pc 136 then some (.goto 157, 3, 139, 293, 0, .null) else none) else (bif Nat.beq pc 139 then some (.aload_n 0, 1, 140, 0, 0, .null) else none))) else (bif Nat.blt pc 142 then (bif Nat.blt pc 141 then (bif Nat.beq pc 140 then some (.iload_n 1, 1, 141, 1, 0, .null) else none) else (bif Nat.beq pc 141 then some (.iload_n 2, 1, 142, 2, 0, .null) else none)) else (bif Nat.blt pc 145 then (bif Nat.beq pc 142 then some (.invokevirtual 299, 3, 145, 36, 2, .ref 0) else none) else (bif Nat.beq pc 145 then some (.goto 148, 3, 148, 293, 0, .null) else none))))) else (bif Nat.blt pc 158 then (bif Nat.blt pc 154 then (bif Nat.blt pc 152 then (bif Nat.blt pc 149 then (bif Nat.beq pc 148 then some (.aload_n 0, 1, 149, 0, 0, .null) else none) else (bif Nat.beq pc 149 then some (.getfield 87, 3, 152, 0, 38, .null) else none)) else (bif Nat.blt pc 153 then (bif Nat.beq pc 152 then some (.iload_n 1, 1, 153, 1, 0, .null) else none) else (bif Nat.beq pc 153 then some (.dup2, 1, 154, 0, 0, .null) else none))) else (bif Nat.blt pc 156 then (bif Nat.blt pc 155 then (bif Nat.beq pc 154 then some (.iaload, 1, 155, 0, 0, .null) else none) else (bif Nat.beq pc 155 then some (.iconst 1, 1, 156, 0, 0, .int 1) else none)) else (bif Nat.blt pc 157 then (bif Nat.beq pc 156 then some (.iadd, 1, 157, 0, 0, .null) else none) else (bif Nat.beq pc 157 then some (.iastore, 1, 158, 0, 0, .null) else none)))) else (bif Nat.blt pc 164 then (bif Nat.blt pc 162 then (bif Nat.blt pc 159 then (bif Nat.beq pc 158 then some (.aload_n 0, 1, 159, 0, 0, .null) else none) else (bif Nat.beq pc 159 then some (.getfield 87, 3, 162, 0, 38, .null) else none)) else (bif Nat.blt pc 163 then (bif Nat.beq pc 162 then some (.iload_n 1, 1, 163, 1, 0, .null) else none) else (bif Nat.beq pc 163 then some (.iaload, 1, 164, 0, 0, .null) else none))) else (bif Nat.blt pc 168 then (bif Nat.blt pc 165 then (bif Nat.beq pc 164 then some (.iconst 1, 1, 165, 0, 0, .int 1) else none) else (bif Nat.beq pc 165 then some (.if_icmp .ne 49, 3, 168, 214, 0, .null) else none)) else (bif Nat.blt pc 169 then (bif Nat.beq pc 168 then some (.aload_n 0, 1, 169, 0, 0, .null) else none) else (bif Nat.blt pc 171 then (bif Nat.beq pc 169 then some (.bipush 40, 2, 171, 0, 0, .int 40) else none) else (bif Nat.beq pc 171 then some (.invokevirtual 268, 3, 174, 9, 1, .ref 0) else none)))))))) else (bif Nat.blt pc 232 then (bif Nat.blt pc 202 then (bif Nat.blt pc 187 then (bif Nat.blt pc 180 then (bif Nat.blt pc 176 then (bif Nat.blt pc 175 then (bif Nat.beq pc 174 then some (.aload_n 0, 1, 175, 0, 0, .null) else none) else (bif Nat.beq pc 175 then some (.iload_n 2, 1, 176, 2, 0, .null) else none)) else (bif Nat.blt pc 179 then (bif Nat.beq pc 176 then some (.invokevirtual 302, 3, 179, 34, 1, .ref 0) else none) else (bif Nat.beq pc 179 then some (.aload_n 0, 1, 180, 0, 0, .null) else none))) else (bif Nat.blt pc 184 then (bif Nat.blt pc 183 then (bif Nat.beq pc 180 then some (.getfield 13, 3, 183, 0, 3, .null) else none) else (bif Nat.beq pc 183 then some (.iload_n 2, 1, 184, 2, 0, .null) else none)) else (bif Nat.blt pc 185 then (bif Nat.beq pc 184 then some (.iaload, 1, 185, 0, 0, .null) else none) else (bif Nat.beq pc 185 then some (.bipush 70, 2, 187, 0, 0, .int 70) else none)))) else (bif Nat.blt pc 196 then (bif Nat.blt pc 191 then (bif Nat.blt pc 190 then (bif Nat.beq pc 187 then some (.if_icmp .ne 14, 3, 190, 201, 0, .null) else none) else (bif Nat.beq pc 190 then some (.aload_n 0, 1, 191, 0, 0, .null) else none)) else (bif Nat.blt pc 193 then (bif Nat.beq pc 191 then some (.bipush 59, 2, 193, 0, 0, .int 59) else none) else (bif Nat.beq pc 193 then some (.invokevirtual 268, 3, 196, 9, 1, .ref 0) else none))) else (bif Nat.blt pc 198 then (bif Nat.blt pc 197 then (bif Nat.beq pc 196 then some (.aload_n 0, 1, 197, 0, 0, .null) else none) else (bif Nat.beq pc 197 then some (.iload_n 2, 1, 198, 2, 0, .null) else none)) else (bif Nat.blt pc 201 then (bif Nat.beq pc 198 then some (.invokevirtual 302, 3, 201, 34, 1, .ref 0) else none) else (bif Nat.beq pc 201 then some (.aload_n 0, 1, 202, 0, 0, .null) else none))))) else (bif Nat.blt pc 221 then (bif Nat.blt pc 211 then (bif Nat.blt pc 207 then (bif Nat.blt pc 204 then (bif Nat.beq pc 202 then some (.bipush 41, 2, 204, 0, 0, .int 41) else none) else (bif Nat.beq pc 204 then some (.invokevirtual 268, 3, 207, 9, 1, .ref 0) else none)) else (bif Nat.blt pc 208 then (bif Nat.beq pc 207 then some (.aload_n 0, 1, 208, 0, 0, .null) else none) else (bif Nat.beq pc 208 then some (.invokevirtual 305, 3, 211, 35, 0, .ref 0) else none))) else (bif Nat.blt pc 215 then (bif Nat.blt pc 214 then (bif Nat.beq pc 211 then some (.goto 82, 3, 214, 293, 0, .null) else none) else (bif Nat.beq pc 214 then some (.aload_n 0, 1, 215, 0, 0, .null) else none)) else (bif Nat.blt pc 218 then (bif Nat.beq pc 215 then some (.invokevirtual 296, 3, 218, 31, 0, .ref 0) else none) else (bif Nat.beq pc 218 then some (.goto 75, 3, 221, 293, 0, .null) else none)))) else (bif Nat.blt pc 227 then (bif Nat.blt pc 225 then (bif Nat.blt pc 222 then (bif Nat.beq pc 221 then some (.aload_n 0, 1, 222, 0, 0, .null) else none) else (bif Nat.beq pc 222 then some (.getfield 87, 3, 225, 0, 38, .null) else none)) else (bif Nat.blt pc 226 then (bif Nat.beq pc 225 then some (.iload_n 1, 1, 226, 1, 0, .null) else none) else (bif Nat.beq pc 226 then some (.dup2, 1, 227, 0, 0, .null) else none))) else (bif Nat.blt pc 229 then (bif Nat.blt pc 228 then (bif Nat.beq pc 227 then some (.iaload, 1, 228, 0, 0, .null) else none) else (bif Nat.beq pc 228 then some (.iconst 1, 1, 229, 0, 0, .int 1) else none)) else (bif Nat.blt pc 230 then (bif Nat.beq pc 229 then some (.iadd, 1, 230, 0, 0, .null) else none) else (bif Nat.blt pc 231 then (bif Nat.beq pc 230 then some (.iastore, 1, 231, 0, 0, .null) else none) else (bif Nat.beq pc 231 then some (.aload_n 0, 1, 232, 0, 0, .null) else none))))))) else (bif Nat.blt pc 262 then (bif Nat.blt pc 248 then (bif Nat.blt pc 238 then (bif Nat.blt pc 236 then (bif Nat.blt pc 235 then (bif Nat.beq pc 232 then some (.getfield 87, 3, 235, 0, 38, .null) else none) else (bif Nat.beq pc 235 then some (.iload_n 1, 1, 236, 1, 0, .null) else none)) else (bif Nat.blt pc 237 then (bif Nat.beq pc 236 then some (.iaload, 1, 237, 0, 0, .null) else none) else (bif Nat.beq pc 237 then some (.iconst 1, 1, 238, 0, 0, .int 1) else none))) else (bif Nat.blt pc 242 then (bif Nat.blt pc 241 then (bif Nat.beq pc 238 then some (.if_icmp .ne 10, 3, 241, 248, 0, .null) else none) else (bif Nat.beq pc 241 then some (.aload_n 0, 1, 242, 0, 0, .null) else none)) else (bif Nat.blt pc 245 then (bif Nat.beq pc 242 then some (.invokevirtual 305, 3, 245, 35, 0, .ref 0) else none) else (bif Nat.beq pc 245 then some (.goto 48, 3, 248, 293, 0, .null) else none)))) else (bif Nat.blt pc 255 then (bif Nat.blt pc 251 then (bif Nat.blt pc 249 then (bif Nat.beq pc 248 then some (.aload_n 0, 1, 249, 0, 0, .null) else none) else (bif Nat.beq pc 249 then some (.bipush 40, 2, 251, 0, 0, .int 40) else none)) else (bif Nat.blt pc 254 then (bif Nat.beq pc 251 then some (.invokevirtual 268, 3, 254, 9, 1, .ref 0) else none) else (bif Nat.beq pc 254 then some (.aload_n 0, 1, 255, 0, 0, .null) else none))) else (bif Nat.blt pc 259 then (bif Nat.blt pc 256 then (bif Nat.beq pc 255 then some (.iload_n 2, 1, 256, 2, 0, .null) else none) else (bif Nat.beq pc 256 then some (.invokevirtual 302, 3, 259, 34, 1, .ref 0) else none)) else (bif Nat.blt pc 260 then (bif Nat.beq pc 259 then some (.aload_n 0, 1, 260, 0, 0, .null) else none) else (bif Nat.beq pc 260 then some (.bipush 41, 2, 262, 0, 0, .int 41) else none))))) else (bif Nat.blt pc 279 then (bif Nat.blt pc 271 then (bif Nat.blt pc 266 then (bif Nat.blt pc 265 then (bif Nat.beq pc 262 then some (.invokevirtual 268, 3, 265, 9, 1, .ref 0) else none) else (bif Nat.beq pc 265 then some (.aload_n 0, 1, 266, 0, 0, .null) else none)) else (bif Nat.blt pc 268 then (bif Nat.beq pc 266 then some (.bipush 59, 2, 268, 0, 0, .int 59) else none) else (bif Nat.beq pc 268 then some (.invokevirtual 268, 3, 271, 9, 1, .ref 0) else none))) else (bif Nat.blt pc 275 then (bif Nat.blt pc 272 then (bif Nat.beq pc 271 then some (.aload_n 0, 1, 272, 0, 0, .null) else none) else (bif Nat.beq pc 272 then some (.invokevirtual 296, 3, 275, 31, 0, .ref 0) else none)) else (bif Nat.blt pc 278 then (bif Nat.beq pc 275 then some (.goto 18, 3, 278, 293, 0, .null) else none) else (bif Nat.beq pc 278 then some (.aload_n 0, 1, 279, 0, 0, .null) else none)))) else (bif Nat.blt pc 287 then (bif Nat.blt pc 281 then (bif Nat.blt pc 280 then (bif Nat.beq pc 279 then some (.iload_n 1, 1, 280, 1, 0, .null) else none) else (bif Nat.beq pc 280 then some (.iload_n 2, 1, 281, 2, 0, .null) else none)) else (bif Nat.blt pc 284 then (bif Nat.beq pc 281 then some (.invokevirtual 308, 3, 284, 37, 2, .ref 0) else none) else (bif Nat.beq pc 284 then some (.goto 9, 3, 287, 293, 0, .null) else none))) else (bif Nat.blt pc 289 then (bif Nat.blt pc 288 then (bif Nat.beq pc 287 then some (.aload_n 0, 1, 288, 0, 0, .null) else none) else (bif Nat.beq pc 288 then some (.iload_n 1, 1, 289, 1, 0, .null) else none)) else (bif Nat.blt pc 290 then (bif Nat.beq pc 289 then some (.iload_n 2, 1, 290, 2, 0, .null) else none) else (bif Nat.blt pc 293 then (bif Nat.beq pc 290 then some (.invokevirtual 311, 3, 293, 38, 2, .ref 0) else none) else (bif Nat.beq pc 293 then some (.return_, 1, 294, 0, 0, .null) else none))))))))
def rq_T33 (pc : Nat) : Option pv_I := bif Nat.blt pc 294 then rq_U33 pc else none
def rq_U34 (pc : Nat) : Option pv_I := bif Nat.blt pc 8 then (bif Nat.blt pc 4 then (bif Nat.blt pc 1 then (bif Nat.beq pc 0 then some (.aload_n 0, 1, 1, 0, 0, .null) else none) else (bif Nat.beq pc 1 then some (.invokevirtual 187, 3, 4, 8, 0, .ref 0) else none)) else (bif Nat.blt pc 7 then (bif Nat.beq pc 4 then some (.ifCond .eq 9, 3, 7, 13, 0, .null) else none) else (bif Nat.beq pc 7 then some (.aload_n 0, 1, 8, 0, 0, .null) else none))) else (bif Nat.blt pc 12 then (bif Nat.blt pc 9 then (bif Nat.beq pc 8 then some (.iload_n 1, 1, 9, 1, 0, .null) else none) else (bif Nat.beq pc 9 then some (.invokevirtual 265, 3, 12, 21, 1, .ref 0) else none)) else (bif Nat.blt pc 13 then (bif Nat.beq pc 12 then some (.pop, 1, 13, 0, 0, .null) else none) else (bif Nat.beq pc 13 then some (.return_, 1, 14, 0, 0, .null) else none)))
def rq_T34 (pc : Nat) : Option pv_I := bif Nat.blt pc 14 then rq_U34 pc else none
def rq_U35 (pc : Nat) : Option pv_I := bif Nat.blt pc 8 then (bif Nat.blt pc 4 then (bif Nat.blt pc 1 then (bif Nat.beq pc 0 then some (.aload_n 0, 1, 1, 0, 0, .null) else none) else (bif Nat.beq pc 1 then some (.invokevirtual 187, 3, 4, 8, 0, .ref 0) else none)) else (bif Nat.blt pc 7 then (bif Nat.beq pc 4 then some (.ifCond .eq 9, 3, 7, 13, 0, .null) else none) else (bif Nat.beq pc 7 then some (.aload_n 0, 1, 8, 0, 0, .null) else none))) else (bif Nat.blt pc 10 then (bif Nat.blt pc 9 then (bif Nat.beq pc 8 then some (.iconst 0, 1, 9, 0, 0, .int 0) else none) else (bif Nat.beq pc 9 then some (.iconst 0, 1, 10, 0, 0, .int 0) else none)) else (bif Nat.blt pc 13 then (bif Nat.beq pc 10 then some (.invokevirtual 289, 3, 13, 26, 2, .ref 0) else none) else (bif Nat.beq pc 13 then some (.return_, 1, 14, 0, 0, .null) else none)))
def rq_T35 (pc : Nat) : Option pv_I := bif Nat.blt pc 14 then rq_U35 pc else none
def rq_U36 (pc : Nat) : Option pv_I := bif Nat.blt pc 45 then (bif Nat.blt pc 17 then (bif Nat.blt pc 8 then (bif Nat.blt pc 5 then (bif Nat.blt pc 1 then (bif Nat.beq pc 0 then some (.aload_n 0, 1, 1, 0, 0, .null) else none) else (bif Nat.blt pc 4 then (bif Nat.beq pc 1 then some (.getfield 87, 3, 4, 0, 38, .null) else none) else (bif Nat.beq pc 4 then some (.iload_n 1, 1, 5, 1, 0, .null) else none))) else (bif Nat.blt pc 6 then (bif Nat.beq pc 5 then some (.dup2, 1, 6, 0, 0, .null) else none) else (bif Nat.blt pc 7 then (bif Nat.beq pc 6 then some (.iaload, 1, 7, 0, 0, .null) else none) else (bif Nat.beq pc 7 then some (.iconst 1, 1, 8, 0, 0, .int 1) else none)))) else (bif Nat.blt pc 11 then (bif Nat.blt pc 9 then (bif Nat.beq pc 8 then some (.iadd, 1, 9, 0, 0, .null) else none) else (bif Nat.blt pc 10 then (bif Nat.beq pc 9 then some (.iastore, 1, 10, 0, 0, .null) else none) else (bif Nat.beq pc 10 then some (.aload_n 0, 1, 11, 0, 0, .null) else none))) else (bif Nat.blt pc 15 then (bif Nat.blt pc 14 then (bif Nat.beq pc 11 then some (.getfield 87, 3, 14, 0, 38, .null) else none) else (bif Nat.beq pc 14 then some (.iload_n 1, 1, 15, 1, 0, .null) else none)) else (bif Nat.blt pc 16 then (bif Nat.beq pc 15 then some (.iaload, 1, 16, 0, 0, .null) else none) else (bif Nat.beq pc 16 then some (.iconst 1, 1, 17, 0, 0, .int 1) else none))))) else (bif Nat.blt pc 31 then (bif Nat.blt pc 23 then (bif Nat.blt pc 20 then (bif Nat.beq pc 17 then some (.if_icmp .ne 27, 3, 20, 44, 0, .null) else none) else (bif Nat.blt pc 21 then (bif Nat.beq pc 20 then some (.aload_n 0, 1, 21, 0, 0, .null) else none) else (bif Nat.beq pc 21 then some (.bipush 40, 2, 23, 0, 0, .int 40) else none))) else (bif Nat.blt pc 27 then (bif Nat.blt pc 26 then (bif Nat.beq pc 23 then some (.invokevirtual 268, 3, 26, 9, 1, .ref 0) else none) else (bif Nat.beq pc 26 then some (.aload_n 0, 1, 27, 0, 0, .null) else none)) else (bif Nat.blt pc 28 then (bif Nat.beq pc 27 then some (.iload_n 2, 1, 28, 2, 0, .null) else none) else (bif Nat.beq pc 28 then some (.invokevirtual 302, 3, 31, 34, 1, .ref 0) else none)))) else (bif Nat.blt pc 37 then (bif Nat.blt pc 32 then (bif Nat.beq pc 31 then some (.aload_n 0, 1, 32, 0, 0, .null) else none) else (bif Nat.blt pc 34 then (bif Nat.beq pc 32 then some (.bipush 41, 2, 34, 0, 0, .int 41) else none) else (bif Nat.beq pc 34 then some (.invokevirtual 268, 3, 37, 9, 1, .ref 0) else none))) else (bif Nat.blt pc 41 then (bif Nat.blt pc 38 then (bif Nat.beq pc 37 then some (.aload_n 0, 1, 38, 0, 0, .null) else none) else (bif Nat.beq pc 38 then some (.invokevirtual 305, 3, 41, 35, 0, .ref 0) else none)) else (bif Nat.blt pc 44 then (bif Nat.beq pc 41 then some (.goto 52, 3, 44, 93, 0, .null) else none) else (bif Nat.beq pc 44 then some (.aload_n 0, 1, 45, 0, 0, .null) else none)))))) else (bif Nat.blt pc 70 then (bif Nat.blt pc 58 then (bif Nat.blt pc 50 then (bif Nat.blt pc 48 then (bif Nat.beq pc 45 then some (.getfield 87, 3, 48, 0, 38, .null) else none) else (bif Nat.blt pc 49 then (bif Nat.beq pc 48 then some (.iload_n 1, 1, 49, 1, 0, .null) else none) else (bif Nat.beq pc 49 then some (.iaload, 1, 50, 0, 0, .null) else none))) else (bif Nat.blt pc 54 then (bif Nat.blt pc 51 then (bif Nat.beq pc 50 then some (.iconst 2, 1, 51, 0, 0, .int 2) else none) else (bif Nat.beq pc 51 then some (.if_icmp .ne 38, 3, 54, 89, 0, .null) else none)) else (bif Nat.blt pc 55 then (bif Nat.beq pc 54 then some (.aload_n 0, 1, 55, 0, 0, .null) else none) else (bif Nat.beq pc 55 then some (.invokevirtual 191, 3, 58, 5, 0, .ref 0) else none)))) else (bif Nat.blt pc 64 then (bif Nat.blt pc 60 then (bif Nat.beq pc 58 then some (.bipush 69, 2, 60, 0, 0, .int 69) else none) else (bif Nat.blt pc 63 then (bif Nat.beq pc 60 then some (.if_icmp .ne 29, 3, 63, 89, 0, .null) else none) else (bif Nat.beq pc 63 then some (.aload_n 0, 1, 64, 0, 0, .null) else none))) else (bif Nat.blt pc 68 then (bif Nat.blt pc 65 then (bif Nat.beq pc 64 then some (.dup, 1, 65, 0, 0, .null) else none) else (bif Nat.beq pc 65 then some (.getfield 171, 3, 68, 0, 26, .null) else none)) else (bif Nat.blt pc 69 then (bif Nat.beq pc 68 then some (.iconst 1, 1, 69, 0, 0, .int 1) else none) else (bif Nat.beq pc 69 then some (.iadd, 1, 70, 0, 0, .null) else none))))) else (bif Nat.blt pc 81 then (bif Nat.blt pc 77 then (bif Nat.blt pc 73 then (bif Nat.beq pc 70 then some (.putfield 171, 3, 73, 0, 26, .null) else none) else (bif Nat.blt pc 74 then (bif Nat.beq pc 73 then some (.aload_n 0, 1, 74, 0, 0, .null) else none) else (bif Nat.beq pc 74 then some (.getfield 57, 3, 77, 0, 17, .null) else none))) else (bif Nat.blt pc 79 then (bif Nat.blt pc 78 then (bif Nat.beq pc 77 then some (.iload_n 2, 1, 78, 2, 0, .null) else none) else (bif Nat.beq pc 78 then some (.iconst 1, 1, 79, 0, 0, .int 1) else none)) else (bif Nat.blt pc 80 then (bif Nat.beq pc 79 then some (.bastore, 1, 80, 0, 0, .null) else none) else (bif Nat.beq pc 80 then some (.aload_n 0, 1, 81, 0, 0, .null) else none)))) else (bif Nat.blt pc 86 then (bif Nat.blt pc 82 then (bif Nat.beq pc 81 then some (.iconst 0, 1, 82, 0, 0, .int 0) else none) else (bif Nat.blt pc 83 then (bif Nat.beq pc 82 then some (.iconst 1, 1, 83, 0, 0, .int 1) else none) else (bif Nat.beq pc 83 then some (.invokevirtual 289, 3, 86, 26, 2, .ref 0) else none))) else (bif Nat.blt pc 90 then (bif Nat.blt pc 89 then (bif Nat.beq pc 86 then some (.goto 7, 3, 89, 93, 0, .null) else none) else (bif Nat.beq pc 89 then some (.aload_n 0, 1, 90, 0, 0, .null) else none)) else (bif Nat.blt pc 93 then (bif Nat.beq pc 90 then some (.invokevirtual 296, 3, 93, 31, 0, .ref 0) else none) else (bif Nat.beq pc 93 then some (.return_, 1, 94, 0, 0, .null) else none))))))
def rq_T36 (pc : Nat) : Option pv_I := bif Nat.blt pc 94 then rq_U36 pc else none
def rq_U37 (pc : Nat) : Option pv_I := bif Nat.blt pc 95 then (bif Nat.blt pc 46 then (bif Nat.blt pc 23 then (bif Nat.blt pc 10 then (bif Nat.blt pc 5 then (bif Nat.blt pc 1 then (bif Nat.beq pc 0 then some (.aload_n 0, 1, 1, 0, 0, .null) else none) else (bif Nat.blt pc 4 then (bif Nat.beq pc 1 then some (.getfield 87, 3, 4, 0, 38, .null) else none) else (bif Nat.beq pc 4 then some (.iload_n 1, 1, 5, 1, 0, .null) else none))) else (bif Nat.blt pc 6 then (bif Nat.beq pc 5 then some (.iaload, 1, 6, 0, 0, .null) else none) else (bif Nat.blt pc 9 then (bif Nat.beq pc 6 then some (.ifCond .ne 39, 3, 9, 45, 0, .null) else none) else (bif Nat.beq pc 9 then some (.aload_n 0, 1, 10, 0, 0, .null) else none)))) else (bif Nat.blt pc 16 then (bif Nat.blt pc 12 then (bif Nat.beq pc 10 then some (.bipush 40, 2, 12, 0, 0, .int 40) else none) else (bif Nat.blt pc 15 then (bif Nat.beq pc 12 then some (.invokevirtual 268, 3, 15, 9, 1, .ref 0) else none) else (bif Nat.beq pc 15 then some (.aload_n 0, 1, 16, 0, 0, .null) else none))) else (bif Nat.blt pc 20 then (bif Nat.blt pc 17 then (bif Nat.beq pc 16 then some (.iload_n 2, 1, 17, 2, 0, .null) else none) else (bif Nat.beq pc 17 then some (.invokevirtual 302, 3, 20, 34, 1, .ref 0) else none)) else (bif Nat.blt pc 21 then (bif Nat.beq pc 20 then some (.aload_n 0, 1, 21, 0, 0, .null) else none) else (bif Nat.beq pc 21 then some (.bipush 41, 2, 23, 0, 0, .int 41) else none))))) else (bif Nat.blt pc 37 then (bif Nat.blt pc 29 then (bif Nat.blt pc 26 then (bif Nat.beq pc 23 then some (.invokevirtual 268, 3, 26, 9, 1, .ref 0) else none) else (bif Nat.blt pc 27 then (bif Nat.beq pc 26 then some (.aload_n 0, 1, 27, 0, 0, .null) else none) else (bif Nat.beq pc 27 then some (.bipush 123, 2, 29, 0, 0, .int 123) else none))) else (bif Nat.blt pc 33 then (bif Nat.blt pc 32 then (bif Nat.beq pc 29 then some (.invokevirtual 268, 3, 32, 9, 1, .ref 0) else none) else (bif Nat.beq pc 32 then some (.aload_n 0, 1, 33, 0, 0, .null) else none)) else (bif Nat.blt pc 36 then (bif Nat.beq pc 33 then some (.getfield 87, 3, 36, 0, 38, .null) else none) else (bif Nat.beq pc 36 then some (.iload_n 1, 1, 37, 1, 0, .null) else none)))) else (bif Nat.blt pc 40 then (bif Nat.blt pc 38 then (bif Nat.beq pc 37 then some (.iconst 1, 1, 38, 0, 0, .int 1) else none) else (bif Nat.blt pc 39 then (bif Nat.beq pc 38 then some (.iastore, 1, 39, 0, 0, .null) else none) else (bif Nat.beq pc 39 then some (.aload_n 0, 1, 40, 0, 0, .null) else none))) else (bif Nat.blt pc 44 then (bif Nat.blt pc 41 then (bif Nat.beq pc 40 then some (.iconst 0, 1, 41, 0, 0, .int 0) else none) else (bif Nat.beq pc 41 then some (.putfield 262, 3, 44, 0, 41, .int 0) else none)) else (bif Nat.blt pc 45 then (bif Nat.beq pc 44 then some (.return_, 1, 45, 0, 0, .null) else none) else (bif Nat.beq pc 45 then some (.aload_n 0, 1, 46, 0, 0, .null) else none)))))) else (bif Nat.blt pc 70 then (bif Nat.blt pc 57 then (bif Nat.blt pc 51 then (bif Nat.blt pc 49 then (bif Nat.beq pc 46 then some (.invokevirtual 191, 3, 49, 5, 0, .ref 0) else none) else (bif Nat.blt pc 50 then (bif Nat.beq pc 49 then some (.istore_n 3, 1, 50, 3, 0, .null) else none) else (bif Nat.beq pc 50 then some (.iload_n 3, 1, 51, 3, 0, .null) else none))) else (bif Nat.blt pc 53 then (bif Nat.beq pc 51 then some (.bipush 125, 2, 53, 0, 0, .int 125) else none) else (bif Nat.blt pc 56 then (bif Nat.beq pc 53 then some (.if_icmp .ne 35, 3, 56, 88, 0, .null) else none) else (bif Nat.beq pc 56 then some (.aload_n 0, 1, 57, 0, 0, .null) else none)))) else (bif Nat.blt pc 62 then (bif Nat.blt pc 58 then (bif Nat.beq pc 57 then some (.dup, 1, 58, 0, 0, .null) else none) else (bif Nat.blt pc 61 then (bif Nat.beq pc 58 then some (.getfield 171, 3, 61, 0, 26, .null) else none) else (bif Nat.beq pc 61 then some (.iconst 1, 1, 62, 0, 0, .int 1) else none))) else (bif Nat.blt pc 66 then (bif Nat.blt pc 63 then (bif Nat.beq pc 62 then some (.iadd, 1, 63, 0, 0, .null) else none) else (bif Nat.beq pc 63 then some (.putfield 171, 3, 66, 0, 26, .null) else none)) else (bif Nat.blt pc 67 then (bif Nat.beq pc 66 then some (.aload_n 0, 1, 67, 0, 0, .null) else none) else (bif Nat.beq pc 67 then some (.getfield 93, 3, 70, 0, 42, .null) else none))))) else (bif Nat.blt pc 81 then (bif Nat.blt pc 75 then (bif Nat.blt pc 71 then (bif Nat.beq pc 70 then some (.iload_n 2, 1, 71, 2, 0, .null) else none) else (bif Nat.blt pc 72 then (bif Nat.beq pc 71 then some (.aload_n 0, 1, 72, 0, 0, .null) else none) else (bif Nat.beq pc 72 then some (.getfield 262, 3, 75, 0, 41, .null) else none))) else (bif Nat.blt pc 77 then (bif Nat.blt pc 76 then (bif Nat.beq pc 75 then some (.bastore, 1, 76, 0, 0, .null) else none) else (bif Nat.beq pc 76 then some (.aload_n 0, 1, 77, 0, 0, .null) else none)) else (bif Nat.blt pc 78 then (bif Nat.beq pc 77 then some (.iconst 0, 1, 78, 0, 0, .int 0) else none) else (bif Nat.beq pc 78 then some (.putfield 262, 3, 81, 0, 41, .int 0) else none)))) else (bif Nat.blt pc 88 then (bif Nat.blt pc 82 then (bif Nat.beq pc 81 then some (.aload_n 0, 1, 82, 0, 0, .null) else none) else (bif Nat.blt pc 85 then (bif Nat.beq pc 82 then some (.invokevirtual 296, 3, 85, 31, 0, .ref 0) else none) else (bif Nat.beq pc 85 then some (.goto 104, 3, 88, 189, 0, .null) else none))) else (bif Nat.blt pc 91 then (bif Nat.blt pc 89 then (bif Nat.beq pc 88 then some (.iload_n 3, 1, 89, 3, 0, .null) else none) else (bif Nat.beq pc 89 then some (.bipush 76, 2, 91, 0, 0, .int 76) else none)) else (bif Nat.blt pc 94 then (bif Nat.beq pc 91 then some (.if_icmp .eq 18, 3, 94, 109, 0, .null) else none) else (bif Nat.beq pc 94 then some (.iload_n 3, 1, 95, 3, 0, .null) else none))))))) else (bif Nat.blt pc 142 then (bif Nat.blt pc 119 then (bif Nat.blt pc 106 then (bif Nat.blt pc 101 then (bif Nat.blt pc 97 then (bif Nat.beq pc 95 then some (.bipush 79, 2, 97, 0, 0, .int 79) else none) else (bif Nat.blt pc 100 then (bif Nat.beq pc 97 then some (.if_icmp .ne 69, 3, 100, 166, 0, .null) else none) else (bif Nat.beq pc 100 then some (.aload_n 0, 1, 101, 0, 0, .null) else none))) else (bif Nat.blt pc 104 then (bif Nat.beq pc 101 then some (.getfield 48, 3, 104, 0, 14, .null) else none) else (bif Nat.blt pc 105 then (bif Nat.beq pc 104 then some (.iload_n 2, 1, 105, 2, 0, .null) else none) else (bif Nat.beq pc 105 then some (.baload, 1, 106, 0, 0, .null) else none)))) else (bif Nat.blt pc 113 then (bif Nat.blt pc 109 then (bif Nat.beq pc 106 then some (.ifCond .ne 60, 3, 109, 166, 0, .null) else none) else (bif Nat.blt pc 110 then (bif Nat.beq pc 109 then some (.aload_n 0, 1, 110, 0, 0, .null) else none) else (bif Nat.beq pc 110 then some (.getfield 48, 3, 113, 0, 14, .null) else none))) else (bif Nat.blt pc 115 then (bif Nat.blt pc 114 then (bif Nat.beq pc 113 then some (.iload_n 2, 1, 114, 2, 0, .null) else none) else (bif Nat.beq pc 114 then some (.aload_n 0, 1, 115, 0, 0, .null) else none)) else (bif Nat.blt pc 118 then (bif Nat.beq pc 115 then some (.getfield 48, 3, 118, 0, 14, .null) else none) else (bif Nat.beq pc 118 then some (.iload_n 2, 1, 119, 2, 0, .null) else none))))) else (bif Nat.blt pc 133 then (bif Nat.blt pc 124 then (bif Nat.blt pc 120 then (bif Nat.beq pc 119 then some (.baload, 1, 120, 0, 0, .null) else none) else (bif Nat.blt pc 123 then (bif Nat.beq pc 120 then some (.ifCond .ne 9, 3, 123, 129, 0, .null) else none) else (bif Nat.beq pc 123 then some (.iload_n 3, 1, 124, 3, 0, .null) else none))) else (bif Nat.blt pc 129 then (bif Nat.blt pc 126 then (bif Nat.beq pc 124 then some (.bipush 79, 2, 126, 0, 0, .int 79) else none) else (bif Nat.beq pc 126 then some (.if_icmp .ne 7, 3, 129, 133, 0, .null) else none)) else (bif Nat.blt pc 130 then (bif Nat.beq pc 129 then some (.iconst 1, 1, 130, 0, 0, .int 1) else none) else (bif Nat.beq pc 130 then some (.goto 4, 3, 133, 134, 0, .null) else none)))) else (bif Nat.blt pc 136 then (bif Nat.blt pc 134 then (bif Nat.beq pc 133 then some (.iconst 0, 1, 134, 0, 0, .int 0) else none) else (bif Nat.blt pc 135 then (bif Nat.beq pc 134 then some (.bastore, 1, 135, 0, 0, .null) else none) else (bif Nat.beq pc 135 then some (.aload_n 0, 1, 136, 0, 0, .null) else none))) else (bif Nat.blt pc 140 then (bif Nat.blt pc 137 then (bif Nat.beq pc 136 then some (.dup, 1, 137, 0, 0, .null) else none) else (bif Nat.beq pc 137 then some (.getfield 171, 3, 140, 0, 26, .null) else none)) else (bif Nat.blt pc 141 then (bif Nat.beq pc 140 then some (.iconst 1, 1, 141, 0, 0, .int 1) else none) else (bif Nat.beq pc 141 then some (.iadd, 1, 142, 0, 0, .null) else none)))))) else (bif Nat.blt pc 166 then (bif Nat.blt pc 153 then (bif Nat.blt pc 148 then (bif Nat.blt pc 145 then (bif Nat.beq pc 142 then some (.putfield 171, 3, 145, 0, 26, .null) else none) else (bif Nat.blt pc 146 then (bif Nat.beq pc 145 then some (.aload_n 0, 1, 146, 0, 0, .null) else none) else (bif Nat.beq pc 146 then some (.bipush 58, 2, 148, 0, 0, .int 58) else none))) else (bif Nat.blt pc 151 then (bif Nat.beq pc 148 then some (.invokevirtual 268, 3, 151, 9, 1, .ref 0) else none) else (bif Nat.blt pc 152 then (bif Nat.beq pc 151 then some (.aload_n 0, 1, 152, 0, 0, .null) else none) else (bif Nat.beq pc 152 then some (.iconst 1, 1, 153, 0, 0, .int 1) else none)))) else (bif Nat.blt pc 160 then (bif Nat.blt pc 156 then (bif Nat.beq pc 153 then some (.putfield 262, 3, 156, 0, 41, .int 0) else none) else (bif Nat.blt pc 157 then (bif Nat.beq pc 156 then some (.aload_n 0, 1, 157, 0, 0, .null) else none) else (bif Nat.beq pc 157 then some (.getfield 87, 3, 160, 0, 38, .null) else none))) else (bif Nat.blt pc 162 then (bif Nat.blt pc 161 then (bif Nat.beq pc 160 then some (.iload_n 1, 1, 161, 1, 0, .null) else none) else (bif Nat.beq pc 161 then some (.iconst 2, 1, 162, 0, 0, .int 2) else none)) else (bif Nat.blt pc 163 then (bif Nat.beq pc 162 then some (.iastore, 1, 163, 0, 0, .null) else none) else (bif Nat.beq pc 163 then some (.goto 26, 3, 166, 189, 0, .null) else none))))) else (bif Nat.blt pc 177 then (bif Nat.blt pc 171 then (bif Nat.blt pc 167 then (bif Nat.beq pc 166 then some (.aload_n 0, 1, 167, 0, 0, .null) else none) else (bif Nat.blt pc 170 then (bif Nat.beq pc 167 then some (.getfield 87, 3, 170, 0, 38, .null) else none) else (bif Nat.beq pc 170 then some (.iload_n 1, 1, 171, 1, 0, .null) else none))) else (bif Nat.blt pc 173 then (bif Nat.blt pc 172 then (bif Nat.beq pc 171 then some (.iaload, 1, 172, 0, 0, .null) else none) else (bif Nat.beq pc 172 then some (.iconst 1, 1, 173, 0, 0, .int 1) else none)) else (bif Nat.blt pc 176 then (bif Nat.beq pc 173 then some (.if_icmp .ne 10, 3, 176, 183, 0, .null) else none) else (bif Nat.beq pc 176 then some (.aload_n 0, 1, 177, 0, 0, .null) else none)))) else (bif Nat.blt pc 184 then (bif Nat.blt pc 180 then (bif Nat.beq pc 177 then some (.invokevirtual 195, 3, 180, 7, 0, .ref 0) else none) else (bif Nat.blt pc 183 then (bif Nat.beq pc 180 then some (.goto 9, 3, 183, 189, 0, .null) else none) else (bif Nat.beq pc 183 then some (.aload_n 0, 1, 184, 0, 0, .null) else none))) else (bif Nat.blt pc 186 then (bif Nat.blt pc 185 then (bif Nat.beq pc 184 then some (.iconst 1, 1, 185, 0, 0, .int 1) else none) else (bif Nat.beq pc 185 then some (.iconst 0, 1, 186, 0, 0, .int 0) else none)) else (bif Nat.blt pc 189 then (bif Nat.beq pc 186 then some (.invokevirtual 289, 3, 189, 26, 2, .ref 0) else none) else (bif Nat.beq pc 189 then some (.return_, 1, 190, 0, 0, .null) else none)))))))
def rq_T37 (pc : Nat) : Option pv_I := bif Nat.blt pc 190 then rq_U37 pc else none
def rq_U38 (pc : Nat) : Option pv_I := bif Nat.blt pc 117 then (bif Nat.blt pc 60 then (bif Nat.blt pc 30 then (bif Nat.blt pc 15 then (bif Nat.blt pc 6 then (bif Nat.blt pc 4 then (bif Nat.blt pc 1 then (bif Nat.beq pc 0 then some (.aload_n 0, 1, 1, 0, 0, .null) else none) else (bif Nat.beq pc 1 then some (.getfield 87, 3, 4, 0, 38, .null) else none)) else (bif Nat.blt pc 5 then (bif Nat.beq pc 4 then some (.iload_n 1, 1, 5, 1, 0, .null) else none) else (bif Nat.beq pc 5 then some (.iaload, 1, 6, 0, 0, .null) else none))) else (bif Nat.blt pc 10 then (bif Nat.blt pc 9 then (bif Nat.beq pc 6 then some (.ifCond .ne 19, 3, 9, 25, 0, .null) else none) else (bif Nat.beq pc 9 then some (.aload_n 0, 1, 10, 0, 0, .null) else none)) else (bif Nat.blt pc 12 then (bif Nat.beq pc 10 then some (.bipush 123, 2, 12, 0, 0, .int 123) else none) else (bif Nat.beq pc 12 then some (.invokevirtual 268, 3, 15, 9, 1, .ref 0) else none)))) else (bif Nat.blt pc 21 then (bif Nat.blt pc 19 then (bif Nat.blt pc 16 then (bif Nat.beq pc 15 then some (.aload_n 0, 1, 16, 0, 0, .null) else none) else (bif Nat.beq pc 16 then some (.getfield 87, 3, 19, 0, 38, .null) else none)) else (bif Nat.blt pc 20 then (bif Nat.beq pc 19 then some (.iload_n 1, 1, 20, 1, 0, .null) else none) else (bif Nat.beq pc 20 then some (.iconst 1, 1, 21, 0, 0, .int 1) else none))) else (bif Nat.blt pc 25 then (bif Nat.blt pc 22 then (bif Nat.beq pc 21 then some (.iastore, 1, 22, 0, 0, .null) else none) else (bif Nat.beq pc 22 then some (.goto 221, 3, 25, 243, 0, .null) else none)) else (bif Nat.blt pc 26 then (bif Nat.beq pc 25 then some (.aload_n 0, 1, 26, 0, 0, .null) else none) else (bif Nat.blt pc 29 then (bif Nat.beq pc 26 then some (.getfield 87, 3, 29, 0, 38, .null) else none) else (bif Nat.beq pc 29 then some (.iload_n 1, 1, 30, 1, 0, .null) else none)))))) else (bif Nat.blt pc 45 then (bif Nat.blt pc 36 then (bif Nat.blt pc 32 then (bif Nat.blt pc 31 then (bif Nat.beq pc 30 then some (.iaload, 1, 31, 0, 0, .null) else none) else (bif Nat.beq pc 31 then some (.iconst 1, 1, 32, 0, 0, .int 1) else none)) else (bif Nat.blt pc 35 then (bif Nat.beq pc 32 then some (.if_icmp .eq 23, 3, 35, 55, 0, .null) else none) else (bif Nat.beq pc 35 then some (.aload_n 0, 1, 36, 0, 0, .null) else none))) else (bif Nat.blt pc 40 then (bif Nat.blt pc 39 then (bif Nat.beq pc 36 then some (.getfield 87, 3, 39, 0, 38, .null) else none) else (bif Nat.beq pc 39 then some (.iload_n 1, 1, 40, 1, 0, .null) else none)) else (bif Nat.blt pc 41 then (bif Nat.beq pc 40 then some (.iaload, 1, 41, 0, 0, .null) else none) else (bif Nat.blt pc 42 then (bif Nat.beq pc 41 then some (.iconst 3, 1, 42, 0, 0, .int 3) else none) else (bif Nat.beq pc 42 then some (.if_icmp .eq 13, 3, 45, 55, 0, .null) else none))))) else (bif Nat.blt pc 51 then (bif Nat.blt pc 49 then (bif Nat.blt pc 46 then (bif Nat.beq pc 45 then some (.aload_n 0, 1, 46, 0, 0, .null) else none) else (bif Nat.beq pc 46 then some (.getfield 87, 3, 49, 0, 38, .null) else none)) else (bif Nat.blt pc 50 then (bif Nat.beq pc 49 then some (.iload_n 1, 1, 50, 1, 0, .null) else none) else (bif Nat.beq pc 50 then some (.iaload, 1, 51, 0, 0, .null) else none))) else (bif Nat.blt pc 55 then (bif Nat.blt pc 52 then (bif Nat.beq pc 51 then some (.iconst 5, 1, 52, 0, 0, .int 5) else none) else (bif Nat.beq pc 52 then some (.if_icmp .ne 31, 3, 55, 83, 0, .null) else none)) else (bif Nat.blt pc 56 then (bif Nat.beq pc 55 then some (.aload_n 0, 1, 56, 0, 0, .null) else none) else (bif Nat.blt pc 57 then (bif Nat.beq pc 56 then some (.aload_n 0, 1, 57, 0, 0, .null) else none) else (bif Nat.beq pc 57 then some (.getfield 87, 3, 60, 0, 38, .null) else none))))))) else (bif Nat.blt pc 87 then (bif Nat.blt pc 74 then (bif Nat.blt pc 64 then (bif Nat.blt pc 62 then (bif Nat.blt pc 61 then (bif Nat.beq pc 60 then some (.iload_n 1, 1, 61, 1, 0, .null) else none) else (bif Nat.beq pc 61 then some (.iaload, 1, 62, 0, 0, .null) else none)) else (bif Nat.blt pc 63 then (bif Nat.beq pc 62 then some (.iconst 2, 1, 63, 0, 0, .int 2) else none) else (bif Nat.beq pc 63 then some (.idiv, 1, 64, 0, 0, .null) else none))) else (bif Nat.blt pc 70 then (bif Nat.blt pc 67 then (bif Nat.beq pc 64 then some (.invokevirtual 293, 3, 67, 32, 1, .ref 0) else none) else (bif Nat.beq pc 67 then some (.ifCond .eq 176, 3, 70, 243, 0, .null) else none)) else (bif Nat.blt pc 71 then (bif Nat.beq pc 70 then some (.aload_n 0, 1, 71, 0, 0, .null) else none) else (bif Nat.beq pc 71 then some (.getfield 87, 3, 74, 0, 38, .null) else none)))) else (bif Nat.blt pc 78 then (bif Nat.blt pc 76 then (bif Nat.blt pc 75 then (bif Nat.beq pc 74 then some (.iload_n 1, 1, 75, 1, 0, .null) else none) else (bif Nat.beq pc 75 then some (.dup2, 1, 76, 0, 0, .null) else none)) else (bif Nat.blt pc 77 then (bif Nat.beq pc 76 then some (.iaload, 1, 77, 0, 0, .null) else none) else (bif Nat.beq pc 77 then some (.iconst 1, 1, 78, 0, 0, .int 1) else none))) else (bif Nat.blt pc 80 then (bif Nat.blt pc 79 then (bif Nat.beq pc 78 then some (.iadd, 1, 79, 0, 0, .null) else none) else (bif Nat.beq pc 79 then some (.iastore, 1, 80, 0, 0, .null) else none)) else (bif Nat.blt pc 83 then (bif Nat.beq pc 80 then some (.goto 163, 3, 83, 243, 0, .null) else none) else (bif Nat.blt pc 84 then (bif Nat.beq pc 83 then some (.aload_n 0, 1, 84, 0, 0, .null) else none) else (bif Nat.beq pc 84 then some (.getfield 87, 3, 87, 0, 38, .null) else none)))))) else (bif Nat.blt pc 101 then (bif Nat.blt pc 93 then (bif Nat.blt pc 89 then (bif Nat.blt pc 88 then (bif Nat.beq pc 87 then some (.iload_n 1, 1, 88, 1, 0, .null) else none) else (bif Nat.beq pc 88 then some (.iaload, 1, 89, 0, 0, .null) else none)) else (bif Nat.blt pc 90 then (bif Nat.beq pc 89 then some (.iconst 2, 1, 90, 0, 0, .int 2) else none) else (bif Nat.beq pc 90 then some (.if_icmp .ne 97, 3, 93, 187, 0, .null) else none))) else (bif Nat.blt pc 97 then (bif Nat.blt pc 94 then (bif Nat.beq pc 93 then some (.aload_n 0, 1, 94, 0, 0, .null) else none) else (bif Nat.beq pc 94 then some (.invokevirtual 191, 3, 97, 5, 0, .ref 0) else none)) else (bif Nat.blt pc 98 then (bif Nat.beq pc 97 then some (.istore_n 3, 1, 98, 3, 0, .null) else none) else (bif Nat.blt pc 99 then (bif Nat.beq pc 98 then some (.iload_n 3, 1, 99, 3, 0, .null) else none) else (bif Nat.beq pc 99 then some (.bipush 75, 2, 101, 0, 0, .int 75) else none))))) else (bif Nat.blt pc 110 then (bif Nat.blt pc 105 then (bif Nat.blt pc 104 then (bif Nat.beq pc 101 then some (.if_icmp .eq 9, 3, 104, 110, 0, .null) else none) else (bif Nat.beq pc 104 then some (.iload_n 3, 1, 105, 3, 0, .null) else none)) else (bif Nat.blt pc 107 then (bif Nat.beq pc 105 then some (.bipush 78, 2, 107, 0, 0, .int 78) else none) else (bif Nat.beq pc 107 then some (.if_icmp .ne 73, 3, 110, 180, 0, .null) else none))) else (bif Nat.blt pc 112 then (bif Nat.blt pc 111 then (bif Nat.beq pc 110 then some (.aload_n 0, 1, 111, 0, 0, .null) else none) else (bif Nat.beq pc 111 then some (.dup, 1, 112, 0, 0, .null) else none)) else (bif Nat.blt pc 115 then (bif Nat.beq pc 112 then some (.getfield 171, 3, 115, 0, 26, .null) else none) else (bif Nat.blt pc 116 then (bif Nat.beq pc 115 then some (.iconst 1, 1, 116, 0, 0, .int 1) else none) else (bif Nat.beq pc 116 then some (.iadd, 1, 117, 0, 0, .null) else none)))))))) else (bif Nat.blt pc 180 then (bif Nat.blt pc 148 then (bif Nat.blt pc 132 then (bif Nat.blt pc 125 then (bif Nat.blt pc 121 then (bif Nat.blt pc 120 then (bif Nat.beq pc 117 then some (.putfield 171, 3, 120, 0, 26, .null) else none) else (bif Nat.beq pc 120 then some (.aload_n 0, 1, 121, 0, 0, .null) else none)) else (bif Nat.blt pc 124 then (bif Nat.beq pc 121 then some (.getfield 51, 3, 124, 0, 15, .null) else none) else (bif Nat.beq pc 124 then some (.iload_n 2, 1, 125, 2, 0, .null) else none))) else (bif Nat.blt pc 128 then (bif Nat.blt pc 126 then (bif Nat.beq pc 125 then some (.iload_n 3, 1, 126, 3, 0, .null) else none) else (bif Nat.beq pc 126 then some (.bipush 75, 2, 128, 0, 0, .int 75) else none)) else (bif Nat.blt pc 131 then (bif Nat.beq pc 128 then some (.if_icmp .ne 7, 3, 131, 135, 0, .null) else none) else (bif Nat.beq pc 131 then some (.iconst 1, 1, 132, 0, 0, .int 1) else none)))) else (bif Nat.blt pc 138 then (bif Nat.blt pc 136 then (bif Nat.blt pc 135 then (bif Nat.beq pc 132 then some (.goto 4, 3, 135, 136, 0, .null) else none) else (bif Nat.beq pc 135 then some (.iconst 0, 1, 136, 0, 0, .int 0) else none)) else (bif Nat.blt pc 137 then (bif Nat.beq pc 136 then some (.bastore, 1, 137, 0, 0, .null) else none) else (bif Nat.beq pc 137 then some (.aload_n 0, 1, 138, 0, 0, .null) else none))) else (bif Nat.blt pc 142 then (bif Nat.blt pc 141 then (bif Nat.beq pc 138 then some (.getfield 54, 3, 141, 0, 16, .null) else none) else (bif Nat.beq pc 141 then some (.iload_n 2, 1, 142, 2, 0, .null) else none)) else (bif Nat.blt pc 143 then (bif Nat.beq pc 142 then some (.iload_n 3, 1, 143, 3, 0, .null) else none) else (bif Nat.blt pc 145 then (bif Nat.beq pc 143 then some (.bipush 78, 2, 145, 0, 0, .int 78) else none) else (bif Nat.beq pc 145 then some (.if_icmp .ne 7, 3, 148, 152, 0, .null) else none)))))) else (bif Nat.blt pc 164 then (bif Nat.blt pc 154 then (bif Nat.blt pc 152 then (bif Nat.blt pc 149 then (bif Nat.beq pc 148 then some (.iconst 1, 1, 149, 0, 0, .int 1) else none) else (bif Nat.beq pc 149 then some (.goto 4, 3, 152, 153, 0, .null) else none)) else (bif Nat.blt pc 153 then (bif Nat.beq pc 152 then some (.iconst 0, 1, 153, 0, 0, .int 0) else none) else (bif Nat.beq pc 153 then some (.bastore, 1, 154, 0, 0, .null) else none))) else (bif Nat.blt pc 157 then (bif Nat.blt pc 155 then (bif Nat.beq pc 154 then some (.aload_n 0, 1, 155, 0, 0, .null) else none) else (bif Nat.beq pc 155 then some (.bipush 123, 2, 157, 0, 0, .int 123) else none)) else (bif Nat.blt pc 160 then (bif Nat.beq pc 157 then some (.invokevirtual 268, 3, 160, 9, 1, .ref 0) else none) else (bif Nat.blt pc 161 then (bif Nat.beq pc 160 then some (.aload_n 0, 1, 161, 0, 0, .null) else none) else (bif Nat.beq pc 161 then some (.getfield 87, 3, 164, 0, 38, .null) else none))))) else (bif Nat.blt pc 171 then (bif Nat.blt pc 166 then (bif Nat.blt pc 165 then (bif Nat.beq pc 164 then some (.iload_n 1, 1, 165, 1, 0, .null) else none) else (bif Nat.beq pc 165 then some (.iload_n 3, 1, 166, 3, 0, .null) else none)) else (bif Nat.blt pc 168 then (bif Nat.beq pc 166 then some (.bipush 75, 2, 168, 0, 0, .int 75) else none) else (bif Nat.beq pc 168 then some (.if_icmp .ne 7, 3, 171, 175, 0, .null) else none))) else (bif Nat.blt pc 175 then (bif Nat.blt pc 172 then (bif Nat.beq pc 171 then some (.iconst 3, 1, 172, 0, 0, .int 3) else none) else (bif Nat.beq pc 172 then some (.goto 4, 3, 175, 176, 0, .null) else none)) else (bif Nat.blt pc 176 then (bif Nat.beq pc 175 then some (.iconst 5, 1, 176, 0, 0, .int 5) else none) else (bif Nat.blt pc 177 then (bif Nat.beq pc 176 then some (.iastore, 1, 177, 0, 0, .null) else none) else (bif Nat.beq pc 177 then some (.goto 7, 3, 180, 184, 0, .null) else none))))))) else (bif Nat.blt pc 213 then (bif Nat.blt pc 197 then (bif Nat.blt pc 188 then (bif Nat.blt pc 184 then (bif Nat.blt pc 181 then (bif Nat.beq pc 180 then some (.aload_n 0, 1, 181, 0, 0, .null) else none) else (bif Nat.beq pc 181 then some (.invokevirtual 195, 3, 184, 7, 0, .ref 0) else none)) else (bif Nat.blt pc 187 then (bif Nat.beq pc 184 then some (.goto 59, 3, 187, 243, 0, .null) else none) else (bif Nat.beq pc 187 then some (.aload_n 0, 1, 188, 0, 0, .null) else none))) else (bif Nat.blt pc 192 then (bif Nat.blt pc 191 then (bif Nat.beq pc 188 then some (.getfield 87, 3, 191, 0, 38, .null) else none) else (bif Nat.beq pc 191 then some (.iload_n 1, 1, 192, 1, 0, .null) else none)) else (bif Nat.blt pc 193 then (bif Nat.beq pc 192 then some (.iaload, 1, 193, 0, 0, .null) else none) else (bif Nat.blt pc 194 then (bif Nat.beq pc 193 then some (.iconst 4, 1, 194, 0, 0, .int 4) else none) else (bif Nat.beq pc 194 then some (.if_icmp .ne 45, 3, 197, 239, 0, .null) else none))))) else (bif Nat.blt pc 206 then (bif Nat.blt pc 201 then (bif Nat.blt pc 198 then (bif Nat.beq pc 197 then some (.aload_n 0, 1, 198, 0, 0, .null) else none) else (bif Nat.beq pc 198 then some (.invokevirtual 191, 3, 201, 5, 0, .ref 0) else none)) else (bif Nat.blt pc 203 then (bif Nat.beq pc 201 then some (.bipush 78, 2, 203, 0, 0, .int 78) else none) else (bif Nat.beq pc 203 then some (.if_icmp .ne 36, 3, 206, 239, 0, .null) else none))) else (bif Nat.blt pc 208 then (bif Nat.blt pc 207 then (bif Nat.beq pc 206 then some (.aload_n 0, 1, 207, 0, 0, .null) else none) else (bif Nat.beq pc 207 then some (.dup, 1, 208, 0, 0, .null) else none)) else (bif Nat.blt pc 211 then (bif Nat.beq pc 208 then some (.getfield 171, 3, 211, 0, 26, .null) else none) else (bif Nat.blt pc 212 then (bif Nat.beq pc 211 then some (.iconst 1, 1, 212, 0, 0, .int 1) else none) else (bif Nat.beq pc 212 then some (.iadd, 1, 213, 0, 0, .null) else none)))))) else (bif Nat.blt pc 229 then (bif Nat.blt pc 221 then (bif Nat.blt pc 217 then (bif Nat.blt pc 216 then (bif Nat.beq pc 213 then some (.putfield 171, 3, 216, 0, 26, .null) else none) else (bif Nat.beq pc 216 then some (.aload_n 0, 1, 217, 0, 0, .null) else none)) else (bif Nat.blt pc 220 then (bif Nat.beq pc 217 then some (.getfield 54, 3, 220, 0, 16, .null) else none) else (bif Nat.beq pc 220 then some (.iload_n 2, 1, 221, 2, 0, .null) else none))) else (bif Nat.blt pc 223 then (bif Nat.blt pc 222 then (bif Nat.beq pc 221 then some (.iconst 1, 1, 222, 0, 0, .int 1) else none) else (bif Nat.beq pc 222 then some (.bastore, 1, 223, 0, 0, .null) else none)) else (bif Nat.blt pc 224 then (bif Nat.beq pc 223 then some (.aload_n 0, 1, 224, 0, 0, .null) else none) else (bif Nat.blt pc 226 then (bif Nat.beq pc 224 then some (.bipush 123, 2, 226, 0, 0, .int 123) else none) else (bif Nat.beq pc 226 then some (.invokevirtual 268, 3, 229, 9, 1, .ref 0) else none))))) else (bif Nat.blt pc 235 then (bif Nat.blt pc 233 then (bif Nat.blt pc 230 then (bif Nat.beq pc 229 then some (.aload_n 0, 1, 230, 0, 0, .null) else none) else (bif Nat.beq pc 230 then some (.getfield 87, 3, 233, 0, 38, .null) else none)) else (bif Nat.blt pc 234 then (bif Nat.beq pc 233 then some (.iload_n 1, 1, 234, 1, 0, .null) else none) else (bif Nat.beq pc 234 then some (.iconst 5, 1, 235, 0, 0, .int 5) else none))) else (bif Nat.blt pc 239 then (bif Nat.blt pc 236 then (bif Nat.beq pc 235 then some (.iastore, 1, 236, 0, 0, .null) else none) else (bif Nat.beq pc 236 then some (.goto 7, 3, 239, 243, 0, .null) else none)) else (bif Nat.blt pc 240 then (bif Nat.beq pc 239 then some (.aload_n 0, 1, 240, 0, 0, .null) else none) else (bif Nat.blt pc 243 then (bif Nat.beq pc 240 then some (.invokevirtual 296, 3, 243, 31, 0, .ref 0) else none) else (bif Nat.beq pc 243 then some (.return_, 1, 244, 0, 0, .null) else none))))))))
def rq_T38 (pc : Nat) : Option pv_I := bif Nat.blt pc 244 then rq_U38 pc else none
def rq_U39 (pc : Nat) : Option pv_I := bif Nat.blt pc 46 then (bif Nat.blt pc 21 then (bif Nat.blt pc 10 then (bif Nat.blt pc 5 then (bif Nat.blt pc 1 then (bif Nat.beq pc 0 then some (.aload_n 0, 1, 1, 0, 0, .null) else none) else (bif Nat.blt pc 2 then (bif Nat.beq pc 1 then some (.iconst 0, 1, 2, 0, 0, .int 0) else none) else (bif Nat.beq pc 2 then some (.putfield 171, 3, 5, 0, 26, .null) else none))) else (bif Nat.blt pc 6 then (bif Nat.beq pc 5 then some (.aload_n 0, 1, 6, 0, 0, .null) else none) else (bif Nat.blt pc 7 then (bif Nat.beq pc 6 then some (.iload_n 1, 1, 7, 1, 0, .null) else none) else (bif Nat.beq pc 7 then some (.putfield 174, 3, 10, 0, 27, .null) else none)))) else (bif Nat.blt pc 15 then (bif Nat.blt pc 11 then (bif Nat.beq pc 10 then some (.aload_n 0, 1, 11, 0, 0, .null) else none) else (bif Nat.blt pc 12 then (bif Nat.beq pc 11 then some (.iconst (-1), 1, 12, 0, 0, .int (-1)) else none) else (bif Nat.beq pc 12 then some (.putfield 180, 3, 15, 0, 28, .null) else none))) else (bif Nat.blt pc 17 then (bif Nat.blt pc 16 then (bif Nat.beq pc 15 then some (.aload_n 0, 1, 16, 0, 0, .null) else none) else (bif Nat.beq pc 16 then some (.iconst 0, 1, 17, 0, 0, .int 0) else none)) else (bif Nat.blt pc 20 then (bif Nat.beq pc 17 then some (.putfield 256, 3, 20, 0, 40, .null) else none) else (bif Nat.beq pc 20 then some (.aload_n 0, 1, 21, 0, 0, .null) else none))))) else (bif Nat.blt pc 31 then (bif Nat.blt pc 26 then (bif Nat.blt pc 22 then (bif Nat.beq pc 21 then some (.iconst 0, 1, 22, 0, 0, .int 0) else none) else (bif Nat.blt pc 25 then (bif Nat.beq pc 22 then some (.putfield 262, 3, 25, 0, 41, .int 0) else none) else (bif Nat.beq pc 25 then some (.aload_n 0, 1, 26, 0, 0, .null) else none))) else (bif Nat.blt pc 29 then (bif Nat.beq pc 26 then some (.invokevirtual 143, 3, 29, 3, 0, .ref 0) else none) else (bif Nat.blt pc 30 then (bif Nat.beq pc 29 then some (.iconst 1, 1, 30, 0, 0, .int 1) else none) else (bif Nat.beq pc 30 then some (.istore_n 2, 1, 31, 2, 0, .null) else none)))) else (bif Nat.blt pc 36 then (bif Nat.blt pc 32 then (bif Nat.beq pc 31 then some (.iload_n 2, 1, 32, 2, 0, .null) else none) else (bif Nat.blt pc 35 then (bif Nat.beq pc 32 then some (.ifCond .eq 57, 3, 35, 89, 0, .null) else none) else (bif Nat.beq pc 35 then some (.aload_n 0, 1, 36, 0, 0, .null) else none))) else (bif Nat.blt pc 42 then (bif Nat.blt pc 39 then (bif Nat.beq pc 36 then some (.invokevirtual 187, 3, 39, 8, 0, .ref 0) else none) else (bif Nat.beq pc 39 then some (.ifCond .eq 50, 3, 42, 89, 0, .null) else none)) else (bif Nat.blt pc 43 then (bif Nat.beq pc 42 then some (.aload_n 0, 1, 43, 0, 0, .null) else none) else (bif Nat.beq pc 43 then some (.getfield 256, 3, 46, 0, 40, .null) else none)))))) else (bif Nat.blt pc 75 then (bif Nat.blt pc 60 then (bif Nat.blt pc 53 then (bif Nat.blt pc 49 then (bif Nat.beq pc 46 then some (.ifCond .le 10, 3, 49, 56, 0, .null) else none) else (bif Nat.blt pc 50 then (bif Nat.beq pc 49 then some (.aload_n 0, 1, 50, 0, 0, .null) else none) else (bif Nat.beq pc 50 then some (.invokevirtual 314, 3, 53, 33, 0, .ref 0) else none))) else (bif Nat.blt pc 56 then (bif Nat.beq pc 53 then some (.goto (-22), 3, 56, 31, 0, .null) else none) else (bif Nat.blt pc 57 then (bif Nat.beq pc 56 then some (.aload_n 0, 1, 57, 0, 0, .null) else none) else (bif Nat.beq pc 57 then some (.invokevirtual 191, 3, 60, 5, 0, .ref 0) else none)))) else (bif Nat.blt pc 65 then (bif Nat.blt pc 61 then (bif Nat.beq pc 60 then some (.iconst (-1), 1, 61, 0, 0, .int (-1)) else none) else (bif Nat.blt pc 64 then (bif Nat.beq pc 61 then some (.if_icmp .ne 19, 3, 64, 80, 0, .null) else none) else (bif Nat.beq pc 64 then some (.aload_n 0, 1, 65, 0, 0, .null) else none))) else (bif Nat.blt pc 69 then (bif Nat.blt pc 68 then (bif Nat.beq pc 65 then some (.getfield 171, 3, 68, 0, 26, .null) else none) else (bif Nat.beq pc 68 then some (.aload_n 0, 1, 69, 0, 0, .null) else none)) else (bif Nat.blt pc 72 then (bif Nat.beq pc 69 then some (.getfield 174, 3, 72, 0, 27, .null) else none) else (bif Nat.beq pc 72 then some (.if_icmp .ne 8, 3, 75, 80, 0, .null) else none))))) else (bif Nat.blt pc 83 then (bif Nat.blt pc 80 then (bif Nat.blt pc 76 then (bif Nat.beq pc 75 then some (.iconst 0, 1, 76, 0, 0, .int 0) else none) else (bif Nat.blt pc 77 then (bif Nat.beq pc 76 then some (.istore_n 2, 1, 77, 2, 0, .null) else none) else (bif Nat.beq pc 77 then some (.goto (-46), 3, 80, 31, 0, .null) else none))) else (bif Nat.blt pc 81 then (bif Nat.beq pc 80 then some (.aload_n 0, 1, 81, 0, 0, .null) else none) else (bif Nat.blt pc 82 then (bif Nat.beq pc 81 then some (.iconst 1, 1, 82, 0, 0, .int 1) else none) else (bif Nat.beq pc 82 then some (.iconst 0, 1, 83, 0, 0, .int 0) else none)))) else (bif Nat.blt pc 90 then (bif Nat.blt pc 86 then (bif Nat.beq pc 83 then some (.invokevirtual 289, 3, 86, 26, 2, .ref 0) else none) else (bif Nat.blt pc 89 then (bif Nat.beq pc 86 then some (.goto (-55), 3, 89, 31, 0, .null) else none) else (bif Nat.beq pc 89 then some (.aload_n 0, 1, 90, 0, 0, .null) else none))) else (bif Nat.blt pc 94 then (bif Nat.blt pc 91 then (bif Nat.beq pc 90 then some (.aload_n 0, 1, 91, 0, 0, .null) else none) else (bif Nat.beq pc 91 then some (.invokevirtual 198, 3, 94, 12, 0, .ref 0) else none)) else (bif Nat.blt pc 97 then (bif Nat.beq pc 94 then some (.putfield 168, 3, 97, 0, 18, .null) else none) else (bif Nat.beq pc 97 then some (.return_, 1, 98, 0, 0, .null) else none))))))
def rq_T39 (pc : Nat) : Option pv_I := bif Nat.blt pc 98 then rq_U39 pc else none
def rq_U40 (pc : Nat) : Option pv_I := bif Nat.blt pc 74 then (bif Nat.blt pc 37 then (bif Nat.blt pc 17 then (bif Nat.blt pc 7 then (bif Nat.blt pc 2 then (bif Nat.blt pc 1 then (bif Nat.beq pc 0 then some (.iconst 0, 1, 1, 0, 0, .int 0) else none) else (bif Nat.beq pc 1 then some (.istore_n 1, 1, 2, 1, 0, .null) else none)) else (bif Nat.blt pc 3 then (bif Nat.beq pc 2 then some (.iload_n 1, 1, 3, 1, 0, .null) else none) else (bif Nat.blt pc 4 then (bif Nat.beq pc 3 then some (.aload_n 0, 1, 4, 0, 0, .null) else none) else (bif Nat.beq pc 4 then some (.getfield 159, 3, 7, 0, 2, .null) else none)))) else (bif Nat.blt pc 12 then (bif Nat.blt pc 10 then (bif Nat.beq pc 7 then some (.if_icmp .ge 43, 3, 10, 50, 0, .null) else none) else (bif Nat.blt pc 11 then (bif Nat.beq pc 10 then some (.iconst 0, 1, 11, 0, 0, .int 0) else none) else (bif Nat.beq pc 11 then some (.istore_n 2, 1, 12, 2, 0, .null) else none))) else (bif Nat.blt pc 13 then (bif Nat.beq pc 12 then some (.aload_n 0, 1, 13, 0, 0, .null) else none) else (bif Nat.blt pc 16 then (bif Nat.beq pc 13 then some (.getfield 20, 3, 16, 0, 5, .null) else none) else (bif Nat.beq pc 16 then some (.iload_n 1, 1, 17, 1, 0, .null) else none))))) else (bif Nat.blt pc 27 then (bif Nat.blt pc 20 then (bif Nat.blt pc 18 then (bif Nat.beq pc 17 then some (.iaload, 1, 18, 0, 0, .null) else none) else (bif Nat.blt pc 19 then (bif Nat.beq pc 18 then some (.istore_n 3, 1, 19, 3, 0, .null) else none) else (bif Nat.beq pc 19 then some (.iload_n 3, 1, 20, 3, 0, .null) else none))) else (bif Nat.blt pc 21 then (bif Nat.beq pc 20 then some (.iconst (-1), 1, 21, 0, 0, .int (-1)) else none) else (bif Nat.blt pc 24 then (bif Nat.beq pc 21 then some (.if_icmp .eq 16, 3, 24, 37, 0, .null) else none) else (bif Nat.beq pc 24 then some (.iinc 2 1, 3, 27, 2, 0, .int 1) else none)))) else (bif Nat.blt pc 32 then (bif Nat.blt pc 28 then (bif Nat.beq pc 27 then some (.aload_n 0, 1, 28, 0, 0, .null) else none) else (bif Nat.blt pc 31 then (bif Nat.beq pc 28 then some (.getfield 20, 3, 31, 0, 5, .null) else none) else (bif Nat.beq pc 31 then some (.iload_n 3, 1, 32, 3, 0, .null) else none))) else (bif Nat.blt pc 33 then (bif Nat.beq pc 32 then some (.iaload, 1, 33, 0, 0, .null) else none) else (bif Nat.blt pc 34 then (bif Nat.beq pc 33 then some (.istore_n 3, 1, 34, 3, 0, .null) else none) else (bif Nat.beq pc 34 then some (.goto (-15), 3, 37, 19, 0, .null) else none)))))) else (bif Nat.blt pc 54 then (bif Nat.blt pc 44 then (bif Nat.blt pc 41 then (bif Nat.blt pc 38 then (bif Nat.beq pc 37 then some (.aload_n 0, 1, 38, 0, 0, .null) else none) else (bif Nat.beq pc 38 then some (.getfield 96, 3, 41, 0, 43, .null) else none)) else (bif Nat.blt pc 42 then (bif Nat.beq pc 41 then some (.iload_n 1, 1, 42, 1, 0, .null) else none) else (bif Nat.blt pc 43 then (bif Nat.beq pc 42 then some (.iload_n 2, 1, 43, 2, 0, .null) else none) else (bif Nat.beq pc 43 then some (.iastore, 1, 44, 0, 0, .null) else none)))) else (bif Nat.blt pc 51 then (bif Nat.blt pc 47 then (bif Nat.beq pc 44 then some (.iinc 1 1, 3, 47, 1, 0, .int 1) else none) else (bif Nat.blt pc 50 then (bif Nat.beq pc 47 then some (.goto (-45), 3, 50, 2, 0, .null) else none) else (bif Nat.beq pc 50 then some (.iconst 0, 1, 51, 0, 0, .int 0) else none))) else (bif Nat.blt pc 52 then (bif Nat.beq pc 51 then some (.istore_n 1, 1, 52, 1, 0, .null) else none) else (bif Nat.blt pc 53 then (bif Nat.beq pc 52 then some (.iload_n 1, 1, 53, 1, 0, .null) else none) else (bif Nat.beq pc 53 then some (.aload_n 0, 1, 54, 0, 0, .null) else none))))) else (bif Nat.blt pc 64 then (bif Nat.blt pc 61 then (bif Nat.blt pc 57 then (bif Nat.beq pc 54 then some (.getfield 159, 3, 57, 0, 2, .null) else none) else (bif Nat.blt pc 60 then (bif Nat.beq pc 57 then some (.if_icmp .ge 94, 3, 60, 151, 0, .null) else none) else (bif Nat.beq pc 60 then some (.iconst 0, 1, 61, 0, 0, .int 0) else none))) else (bif Nat.blt pc 62 then (bif Nat.beq pc 61 then some (.istore_n 2, 1, 62, 2, 0, .null) else none) else (bif Nat.blt pc 63 then (bif Nat.beq pc 62 then some (.iconst 0, 1, 63, 0, 0, .int 0) else none) else (bif Nat.beq pc 63 then some (.istore_n 3, 1, 64, 3, 0, .null) else none)))) else (bif Nat.blt pc 69 then (bif Nat.blt pc 65 then (bif Nat.beq pc 64 then some (.iload_n 3, 1, 65, 3, 0, .null) else none) else (bif Nat.blt pc 66 then (bif Nat.beq pc 65 then some (.aload_n 0, 1, 66, 0, 0, .null) else none) else (bif Nat.beq pc 66 then some (.getfield 159, 3, 69, 0, 2, .null) else none))) else (bif Nat.blt pc 72 then (bif Nat.beq pc 69 then some (.if_icmp .ge 62, 3, 72, 131, 0, .null) else none) else (bif Nat.blt pc 73 then (bif Nat.beq pc 72 then some (.iload_n 2, 1, 73, 2, 0, .null) else none) else (bif Nat.beq pc 73 then some (.aload_n 0, 1, 74, 0, 0, .null) else none))))))) else (bif Nat.blt pc 113 then (bif Nat.blt pc 93 then (bif Nat.blt pc 83 then (bif Nat.blt pc 78 then (bif Nat.blt pc 77 then (bif Nat.beq pc 74 then some (.getfield 17, 3, 77, 0, 4, .null) else none) else (bif Nat.beq pc 77 then some (.iload_n 3, 1, 78, 3, 0, .null) else none)) else (bif Nat.blt pc 79 then (bif Nat.beq pc 78 then some (.iaload, 1, 79, 0, 0, .null) else none) else (bif Nat.blt pc 80 then (bif Nat.beq pc 79 then some (.aload_n 0, 1, 80, 0, 0, .null) else none) else (bif Nat.beq pc 80 then some (.getfield 17, 3, 83, 0, 4, .null) else none)))) else (bif Nat.blt pc 88 then (bif Nat.blt pc 84 then (bif Nat.beq pc 83 then some (.iload_n 1, 1, 84, 1, 0, .null) else none) else (bif Nat.blt pc 85 then (bif Nat.beq pc 84 then some (.iaload, 1, 85, 0, 0, .null) else none) else (bif Nat.beq pc 85 then some (.if_icmp .lt 33, 3, 88, 118, 0, .null) else none))) else (bif Nat.blt pc 89 then (bif Nat.beq pc 88 then some (.aload_n 0, 1, 89, 0, 0, .null) else none) else (bif Nat.blt pc 92 then (bif Nat.beq pc 89 then some (.getfield 17, 3, 92, 0, 4, .null) else none) else (bif Nat.beq pc 92 then some (.iload_n 3, 1, 93, 3, 0, .null) else none))))) else (bif Nat.blt pc 103 then (bif Nat.blt pc 98 then (bif Nat.blt pc 94 then (bif Nat.beq pc 93 then some (.iaload, 1, 94, 0, 0, .null) else none) else (bif Nat.blt pc 95 then (bif Nat.beq pc 94 then some (.aload_n 0, 1, 95, 0, 0, .null) else none) else (bif Nat.beq pc 95 then some (.getfield 17, 3, 98, 0, 4, .null) else none))) else (bif Nat.blt pc 99 then (bif Nat.beq pc 98 then some (.iload_n 1, 1, 99, 1, 0, .null) else none) else (bif Nat.blt pc 100 then (bif Nat.beq pc 99 then some (.iaload, 1, 100, 0, 0, .null) else none) else (bif Nat.beq pc 100 then some (.if_icmp .ne 22, 3, 103, 122, 0, .null) else none)))) else (bif Nat.blt pc 108 then (bif Nat.blt pc 104 then (bif Nat.beq pc 103 then some (.aload_n 0, 1, 104, 0, 0, .null) else none) else (bif Nat.blt pc 107 then (bif Nat.beq pc 104 then some (.getfield 96, 3, 107, 0, 43, .null) else none) else (bif Nat.beq pc 107 then some (.iload_n 3, 1, 108, 3, 0, .null) else none))) else (bif Nat.blt pc 109 then (bif Nat.beq pc 108 then some (.iaload, 1, 109, 0, 0, .null) else none) else (bif Nat.blt pc 110 then (bif Nat.beq pc 109 then some (.aload_n 0, 1, 110, 0, 0, .null) else none) else (bif Nat.beq pc 110 then some (.getfield 96, 3, 113, 0, 43, .null) else none)))))) else (bif Nat.blt pc 132 then (bif Nat.blt pc 122 then (bif Nat.blt pc 115 then (bif Nat.blt pc 114 then (bif Nat.beq pc 113 then some (.iload_n 1, 1, 114, 1, 0, .null) else none) else (bif Nat.beq pc 114 then some (.iaload, 1, 115, 0, 0, .null) else none)) else (bif Nat.blt pc 118 then (bif Nat.beq pc 115 then some (.if_icmp .ge 7, 3, 118, 122, 0, .null) else none) else (bif Nat.blt pc 119 then (bif Nat.beq pc 118 then some (.iconst 1, 1, 119, 0, 0, .int 1) else none) else (bif Nat.beq pc 119 then some (.goto 4, 3, 122, 123, 0, .null) else none)))) else (bif Nat.blt pc 125 then (bif Nat.blt pc 123 then (bif Nat.beq pc 122 then some (.iconst 0, 1, 123, 0, 0, .int 0) else none) else (bif Nat.blt pc 124 then (bif Nat.beq pc 123 then some (.iadd, 1, 124, 0, 0, .null) else none) else (bif Nat.beq pc 124 then some (.istore_n 2, 1, 125, 2, 0, .null) else none))) else (bif Nat.blt pc 128 then (bif Nat.beq pc 125 then some (.iinc 3 1, 3, 128, 3, 0, .int 1) else none) else (bif Nat.blt pc 131 then (bif Nat.beq pc 128 then some (.goto (-64), 3, 131, 64, 0, .null) else none) else (bif Nat.beq pc 131 then some (.aload_n 0, 1, 132, 0, 0, .null) else none))))) else (bif Nat.blt pc 142 then (bif Nat.blt pc 137 then (bif Nat.blt pc 135 then (bif Nat.beq pc 132 then some (.getfield 99, 3, 135, 0, 44, .null) else none) else (bif Nat.blt pc 136 then (bif Nat.beq pc 135 then some (.iload_n 1, 1, 136, 1, 0, .null) else none) else (bif Nat.beq pc 136 then some (.iload_n 2, 1, 137, 2, 0, .null) else none))) else (bif Nat.blt pc 138 then (bif Nat.beq pc 137 then some (.iastore, 1, 138, 0, 0, .null) else none) else (bif Nat.blt pc 139 then (bif Nat.beq pc 138 then some (.aload_n 0, 1, 139, 0, 0, .null) else none) else (bif Nat.beq pc 139 then some (.getfield 102, 3, 142, 0, 45, .null) else none)))) else (bif Nat.blt pc 145 then (bif Nat.blt pc 143 then (bif Nat.beq pc 142 then some (.iload_n 2, 1, 143, 2, 0, .null) else none) else (bif Nat.blt pc 144 then (bif Nat.beq pc 143 then some (.iload_n 1, 1, 144, 1, 0, .null) else none) else (bif Nat.beq pc 144 then some (.iastore, 1, 145, 0, 0, .null) else none))) else (bif Nat.blt pc 148 then (bif Nat.beq pc 145 then some (.iinc 1 1, 3, 148, 1, 0, .int 1) else none) else (bif Nat.blt pc 151 then (bif Nat.beq pc 148 then some (.goto (-96), 3, 151, 52, 0, .null) else none) else (bif Nat.beq pc 151 then some (.return_, 1, 152, 0, 0, .null) else none)))))))
def rq_T40 (pc : Nat) : Option pv_I := bif Nat.blt pc 152 then rq_U40 pc else none
def rq_U41 (pc : Nat) : Option pv_I := bif Nat.blt pc 30 then (bif Nat.blt pc 15 then (bif Nat.blt pc 6 then (bif Nat.blt pc 2 then (bif Nat.blt pc 1 then (bif Nat.beq pc 0 then some (.iload_n 2, 1, 1, 2, 0, .null) else none) else (bif Nat.beq pc 1 then some (.iconst (-1), 1, 2, 0, 0, .int (-1)) else none)) else (bif Nat.blt pc 5 then (bif Nat.beq pc 2 then some (.if_icmp .eq 58, 3, 5, 60, 0, .null) else none) else (bif Nat.beq pc 5 then some (.aload_n 0, 1, 6, 0, 0, .null) else none))) else (bif Nat.blt pc 10 then (bif Nat.blt pc 9 then (bif Nat.beq pc 6 then some (.getfield 105, 3, 9, 0, 46, .null) else none) else (bif Nat.beq pc 9 then some (.aload_n 0, 1, 10, 0, 0, .null) else none)) else (bif Nat.blt pc 13 then (bif Nat.beq pc 10 then some (.getfield 317, 3, 13, 0, 50, .null) else none) else (bif Nat.blt pc 14 then (bif Nat.beq pc 13 then some (.iload_n 2, 1, 14, 2, 0, .null) else none) else (bif Nat.beq pc 14 then some (.iastore, 1, 15, 0, 0, .null) else none))))) else (bif Nat.blt pc 23 then (bif Nat.blt pc 19 then (bif Nat.blt pc 16 then (bif Nat.beq pc 15 then some (.aload_n 0, 1, 16, 0, 0, .null) else none) else (bif Nat.beq pc 16 then some (.getfield 108, 3, 19, 0, 47, .null) else none)) else (bif Nat.blt pc 20 then (bif Nat.beq pc 19 then some (.aload_n 0, 1, 20, 0, 0, .null) else none) else (bif Nat.beq pc 20 then some (.getfield 317, 3, 23, 0, 50, .null) else none))) else (bif Nat.blt pc 25 then (bif Nat.blt pc 24 then (bif Nat.beq pc 23 then some (.iload_n 3, 1, 24, 3, 0, .null) else none) else (bif Nat.beq pc 24 then some (.iastore, 1, 25, 0, 0, .null) else none)) else (bif Nat.blt pc 26 then (bif Nat.beq pc 25 then some (.aload_n 0, 1, 26, 0, 0, .null) else none) else (bif Nat.blt pc 29 then (bif Nat.beq pc 26 then some (.getfield 111, 3, 29, 0, 48, .null) else none) else (bif Nat.beq pc 29 then some (.aload_n 0, 1, 30, 0, 0, .null) else none)))))) else (bif Nat.blt pc 45 then (bif Nat.blt pc 38 then (bif Nat.blt pc 34 then (bif Nat.blt pc 33 then (bif Nat.beq pc 30 then some (.getfield 317, 3, 33, 0, 50, .null) else none) else (bif Nat.beq pc 33 then some (.aload_n 0, 1, 34, 0, 0, .null) else none)) else (bif Nat.blt pc 37 then (bif Nat.beq pc 34 then some (.getfield 114, 3, 37, 0, 49, .null) else none) else (bif Nat.beq pc 37 then some (.iload_n 1, 1, 38, 1, 0, .null) else none))) else (bif Nat.blt pc 40 then (bif Nat.blt pc 39 then (bif Nat.beq pc 38 then some (.iaload, 1, 39, 0, 0, .null) else none) else (bif Nat.beq pc 39 then some (.iastore, 1, 40, 0, 0, .null) else none)) else (bif Nat.blt pc 41 then (bif Nat.beq pc 40 then some (.aload_n 0, 1, 41, 0, 0, .null) else none) else (bif Nat.blt pc 44 then (bif Nat.beq pc 41 then some (.getfield 114, 3, 44, 0, 49, .null) else none) else (bif Nat.beq pc 44 then some (.iload_n 1, 1, 45, 1, 0, .null) else none))))) else (bif Nat.blt pc 52 then (bif Nat.blt pc 49 then (bif Nat.blt pc 46 then (bif Nat.beq pc 45 then some (.aload_n 0, 1, 46, 0, 0, .null) else none) else (bif Nat.beq pc 46 then some (.getfield 317, 3, 49, 0, 50, .null) else none)) else (bif Nat.blt pc 50 then (bif Nat.beq pc 49 then some (.iastore, 1, 50, 0, 0, .null) else none) else (bif Nat.blt pc 51 then (bif Nat.beq pc 50 then some (.aload_n 0, 1, 51, 0, 0, .null) else none) else (bif Nat.beq pc 51 then some (.dup, 1, 52, 0, 0, .null) else none)))) else (bif Nat.blt pc 56 then (bif Nat.blt pc 55 then (bif Nat.beq pc 52 then some (.getfield 317, 3, 55, 0, 50, .null) else none) else (bif Nat.beq pc 55 then some (.iconst 1, 1, 56, 0, 0, .int 1) else none)) else (bif Nat.blt pc 57 then (bif Nat.beq pc 56 then some (.iadd, 1, 57, 0, 0, .null) else none) else (bif Nat.blt pc 60 then (bif Nat.beq pc 57 then some (.putfield 317, 3, 60, 0, 50, .null) else none) else (bif Nat.beq pc 60 then some (.return_, 1, 61, 0, 0, .null) else none))))))
def rq_T41 (pc : Nat) : Option pv_I := bif Nat.blt pc 61 then rq_U41 pc else none
def rq_U42 (pc : Nat) : Option pv_I := bif Nat.blt pc 3 then (bif Nat.blt pc 1 then (bif Nat.beq pc 0 then some (.aload_n 0, 1, 1, 0, 0, .null) else none) else (bif Nat.blt pc 2 then (bif Nat.beq pc 1 then some (.iload_n 1, 1, 2, 1, 0, .null) else none) else (bif Nat.beq pc 2 then some (.iload_n 2, 1, 3, 2, 0, .null) else none))) else (bif Nat.blt pc 4 then (bif Nat.beq pc 3 then some (.iconst 0, 1, 4, 0, 0, .int 0) else none) else (bif Nat.blt pc 7 then (bif Nat.beq pc 4 then some (.invokevirtual 320, 3, 7, 41, 3, .ref 0) else none) else (bif Nat.beq pc 7 then some (.return_, 1, 8, 0, 0, .null) else none)))
def rq_T42 (pc : Nat) : Option pv_I := bif Nat.blt pc 8 then rq_U42 pc else none
def rq_U43 (pc : Nat) : Option pv_I := bif Nat.blt pc 3 then (bif Nat.blt pc 1 then (bif Nat.beq pc 0 then some (.iconst 5, 1, 1, 0, 0, .int 5) else none) else (bif Nat.blt pc 2 then (bif Nat.beq pc 1 then some (.iload_n 0, 1, 2, 0, 0, .null) else none) else (bif Nat.beq pc 2 then some (.imul, 1, 3, 0, 0, .null) else none))) else (bif Nat.blt pc 4 then (bif Nat.beq pc 3 then some (.iload_n 1, 1, 4, 1, 0, .null) else none) else (bif Nat.blt pc 5 then (bif Nat.beq pc 4 then some (.iadd, 1, 5, 0, 0, .null) else none) else (bif Nat.beq pc 5 then some (.ireturn, 1, 6, 0, 0, .null) else none)))
def rq_T43 (pc : Nat) : Option pv_I := bif Nat.blt pc 6 then rq_U43 pc else none
def rq_U44 (pc : Nat) : Option pv_I := bif Nat.blt pc 31 then (bif Nat.blt pc 15 then (bif Nat.blt pc 6 then (bif Nat.blt pc 3 then (bif Nat.blt pc 1 then (bif Nat.beq pc 0 then some (.iconst 0, 1, 1, 0, 0, .int 0) else none) else (bif Nat.beq pc 1 then some (.istore 4, 2, 3, 4, 0, .null) else none)) else (bif Nat.blt pc 4 then (bif Nat.beq pc 3 then some (.iconst 0, 1, 4, 0, 0, .int 0) else none) else (bif Nat.beq pc 4 then some (.istore 5, 2, 6, 5, 0, .null) else none))) else (bif Nat.blt pc 9 then (bif Nat.blt pc 8 then (bif Nat.beq pc 6 then some (.iload 5, 2, 8, 5, 0, .null) else none) else (bif Nat.beq pc 8 then some (.aload_n 0, 1, 9, 0, 0, .null) else none)) else (bif Nat.blt pc 12 then (bif Nat.beq pc 9 then some (.getfield 159, 3, 12, 0, 2, .null) else none) else (bif Nat.beq pc 12 then some (.if_icmp .ge 52, 3, 15, 64, 0, .null) else none)))) else (bif Nat.blt pc 22 then (bif Nat.blt pc 19 then (bif Nat.blt pc 16 then (bif Nat.beq pc 15 then some (.aload_n 0, 1, 16, 0, 0, .null) else none) else (bif Nat.beq pc 16 then some (.getfield 102, 3, 19, 0, 45, .null) else none)) else (bif Nat.blt pc 21 then (bif Nat.beq pc 19 then some (.iload 5, 2, 21, 5, 0, .null) else none) else (bif Nat.beq pc 21 then some (.iaload, 1, 22, 0, 0, .null) else none))) else (bif Nat.blt pc 25 then (bif Nat.blt pc 24 then (bif Nat.beq pc 22 then some (.istore 6, 2, 24, 6, 0, .null) else none) else (bif Nat.beq pc 24 then some (.aload_n 0, 1, 25, 0, 0, .null) else none)) else (bif Nat.blt pc 28 then (bif Nat.beq pc 25 then some (.getfield 20, 3, 28, 0, 5, .null) else none) else (bif Nat.blt pc 30 then (bif Nat.beq pc 28 then some (.iload 6, 2, 30, 6, 0, .null) else none) else (bif Nat.beq pc 30 then some (.iaload, 1, 31, 0, 0, .null) else none)))))) else (bif Nat.blt pc 48 then (bif Nat.blt pc 39 then (bif Nat.blt pc 35 then (bif Nat.blt pc 32 then (bif Nat.beq pc 31 then some (.iload_n 1, 1, 32, 1, 0, .null) else none) else (bif Nat.beq pc 32 then some (.if_icmp .ne 26, 3, 35, 58, 0, .null) else none)) else (bif Nat.blt pc 36 then (bif Nat.beq pc 35 then some (.aload_n 0, 1, 36, 0, 0, .null) else none) else (bif Nat.beq pc 36 then some (.getfield 29, 3, 39, 0, 8, .null) else none))) else (bif Nat.blt pc 42 then (bif Nat.blt pc 41 then (bif Nat.beq pc 39 then some (.iload 6, 2, 41, 6, 0, .null) else none) else (bif Nat.beq pc 41 then some (.baload, 1, 42, 0, 0, .null) else none)) else (bif Nat.blt pc 43 then (bif Nat.beq pc 42 then some (.iload_n 3, 1, 43, 3, 0, .null) else none) else (bif Nat.blt pc 46 then (bif Nat.beq pc 43 then some (.if_icmp .ne 15, 3, 46, 58, 0, .null) else none) else (bif Nat.beq pc 46 then some (.iload 4, 2, 48, 4, 0, .null) else none))))) else (bif Nat.blt pc 55 then (bif Nat.blt pc 52 then (bif Nat.blt pc 49 then (bif Nat.beq pc 48 then some (.iload_n 2, 1, 49, 2, 0, .null) else none) else (bif Nat.beq pc 49 then some (.if_icmp .ne 6, 3, 52, 55, 0, .null) else none)) else (bif Nat.blt pc 54 then (bif Nat.beq pc 52 then some (.iload 6, 2, 54, 6, 0, .null) else none) else (bif Nat.beq pc 54 then some (.ireturn, 1, 55, 0, 0, .null) else none))) else (bif Nat.blt pc 61 then (bif Nat.blt pc 58 then (bif Nat.beq pc 55 then some (.iinc 4 1, 3, 58, 4, 0, .int 1) else none) else (bif Nat.beq pc 58 then some (.iinc 5 1, 3, 61, 5, 0, .int 1) else none)) else (bif Nat.blt pc 64 then (bif Nat.beq pc 61 then some (.goto (-55), 3, 64, 6, 0, .null) else none) else (bif Nat.blt pc 65 then (bif Nat.beq pc 64 then some (.iconst (-1), 1, 65, 0, 0, .int (-1)) else none) else (bif Nat.beq pc 65 then some (.ireturn, 1, 66, 0, 0, .null) else none))))))
def rq_T44 (pc : Nat) : Option pv_I := bif Nat.blt pc 66 then rq_U44 pc else none
def rq_U45 (pc : Nat) : Option pv_I := bif Nat.blt pc 42 then (bif Nat.blt pc 21 then (bif Nat.blt pc 8 then (bif Nat.blt pc 3 then (bif Nat.blt pc 1 then (bif Nat.beq pc 0 then some (.iload_n 3, 1, 1, 3, 0, .null) else none) else (bif Nat.beq pc 1 then some (.istore 5, 2, 3, 5, 0, .null) else none)) else (bif Nat.blt pc 4 then (bif Nat.beq pc 3 then some (.iconst 0, 1, 4, 0, 0, .int 0) else none) else (bif Nat.blt pc 6 then (bif Nat.beq pc 4 then some (.istore 6, 2, 6, 6, 0, .null) else none) else (bif Nat.beq pc 6 then some (.iload 6, 2, 8, 6, 0, .null) else none)))) else (bif Nat.blt pc 15 then (bif Nat.blt pc 9 then (bif Nat.beq pc 8 then some (.aload_n 0, 1, 9, 0, 0, .null) else none) else (bif Nat.blt pc 12 then (bif Nat.beq pc 9 then some (.getfield 159, 3, 12, 0, 2, .null) else none) else (bif Nat.beq pc 12 then some (.if_icmp .ge 70, 3, 15, 82, 0, .null) else none))) else (bif Nat.blt pc 16 then (bif Nat.beq pc 15 then some (.aload_n 0, 1, 16, 0, 0, .null) else none) else (bif Nat.blt pc 19 then (bif Nat.beq pc 16 then some (.getfield 102, 3, 19, 0, 45, .null) else none) else (bif Nat.beq pc 19 then some (.iload 6, 2, 21, 6, 0, .null) else none))))) else (bif Nat.blt pc 31 then (bif Nat.blt pc 25 then (bif Nat.blt pc 22 then (bif Nat.beq pc 21 then some (.iaload, 1, 22, 0, 0, .null) else none) else (bif Nat.blt pc 24 then (bif Nat.beq pc 22 then some (.istore 7, 2, 24, 7, 0, .null) else none) else (bif Nat.beq pc 24 then some (.aload_n 0, 1, 25, 0, 0, .null) else none))) else (bif Nat.blt pc 28 then (bif Nat.beq pc 25 then some (.getfield 29, 3, 28, 0, 8, .null) else none) else (bif Nat.blt pc 30 then (bif Nat.beq pc 28 then some (.iload 7, 2, 30, 7, 0, .null) else none) else (bif Nat.beq pc 30 then some (.baload, 1, 31, 0, 0, .null) else none)))) else (bif Nat.blt pc 38 then (bif Nat.blt pc 34 then (bif Nat.beq pc 31 then some (.ifCond .eq 45, 3, 34, 76, 0, .null) else none) else (bif Nat.blt pc 35 then (bif Nat.beq pc 34 then some (.aload_n 0, 1, 35, 0, 0, .null) else none) else (bif Nat.beq pc 35 then some (.getfield 20, 3, 38, 0, 5, .null) else none))) else (bif Nat.blt pc 40 then (bif Nat.beq pc 38 then some (.iload 7, 2, 40, 7, 0, .null) else none) else (bif Nat.blt pc 41 then (bif Nat.beq pc 40 then some (.iaload, 1, 41, 0, 0, .null) else none) else (bif Nat.beq pc 41 then some (.iload_n 1, 1, 42, 1, 0, .null) else none)))))) else (bif Nat.blt pc 65 then (bif Nat.blt pc 53 then (bif Nat.blt pc 49 then (bif Nat.blt pc 45 then (bif Nat.beq pc 42 then some (.if_icmp .ne 34, 3, 45, 76, 0, .null) else none) else (bif Nat.blt pc 46 then (bif Nat.beq pc 45 then some (.aload_n 0, 1, 46, 0, 0, .null) else none) else (bif Nat.beq pc 46 then some (.getfield 23, 3, 49, 0, 6, .null) else none))) else (bif Nat.blt pc 51 then (bif Nat.beq pc 49 then some (.iload 7, 2, 51, 7, 0, .null) else none) else (bif Nat.blt pc 52 then (bif Nat.beq pc 51 then some (.iaload, 1, 52, 0, 0, .null) else none) else (bif Nat.beq pc 52 then some (.iload_n 2, 1, 53, 2, 0, .null) else none)))) else (bif Nat.blt pc 59 then (bif Nat.blt pc 56 then (bif Nat.beq pc 53 then some (.if_icmp .ne 23, 3, 56, 76, 0, .null) else none) else (bif Nat.blt pc 57 then (bif Nat.beq pc 56 then some (.aload_n 0, 1, 57, 0, 0, .null) else none) else (bif Nat.beq pc 57 then some (.iload 5, 2, 59, 5, 0, .null) else none))) else (bif Nat.blt pc 61 then (bif Nat.beq pc 59 then some (.iload 7, 2, 61, 7, 0, .null) else none) else (bif Nat.blt pc 62 then (bif Nat.beq pc 61 then some (.iconst 0, 1, 62, 0, 0, .int 0) else none) else (bif Nat.beq pc 62 then some (.invokestatic 324, 3, 65, 43, 2, .null) else none))))) else (bif Nat.blt pc 79 then (bif Nat.blt pc 71 then (bif Nat.blt pc 68 then (bif Nat.beq pc 65 then some (.invokevirtual 328, 3, 68, 42, 2, .ref 0) else none) else (bif Nat.blt pc 70 then (bif Nat.beq pc 68 then some (.iload 7, 2, 70, 7, 0, .null) else none) else (bif Nat.beq pc 70 then some (.iconst 3, 1, 71, 0, 0, .int 3) else none))) else (bif Nat.blt pc 74 then (bif Nat.beq pc 71 then some (.invokestatic 324, 3, 74, 43, 2, .null) else none) else (bif Nat.blt pc 76 then (bif Nat.beq pc 74 then some (.istore 5, 2, 76, 5, 0, .null) else none) else (bif Nat.beq pc 76 then some (.iinc 6 1, 3, 79, 6, 0, .int 1) else none)))) else (bif Nat.blt pc 85 then (bif Nat.blt pc 82 then (bif Nat.beq pc 79 then some (.goto (-73), 3, 82, 6, 0, .null) else none) else (bif Nat.blt pc 83 then (bif Nat.beq pc 82 then some (.aload_n 0, 1, 83, 0, 0, .null) else none) else (bif Nat.beq pc 83 then some (.iload 5, 2, 85, 5, 0, .null) else none))) else (bif Nat.blt pc 87 then (bif Nat.beq pc 85 then some (.iload 4, 2, 87, 4, 0, .null) else none) else (bif Nat.blt pc 90 then (bif Nat.beq pc 87 then some (.invokevirtual 328, 3, 90, 42, 2, .ref 0) else none) else (bif Nat.beq pc 90 then some (.return_, 1, 91, 0, 0, .null) else none))))))
def rq_T45 (pc : Nat) : Option pv_I := bif Nat.blt pc 91 then rq_U45 pc else none
def rq_U46 (pc : Nat) : Option pv_I := bif Nat.blt pc 10 then (bif Nat.blt pc 3 then (bif Nat.blt pc 1 then (bif Nat.beq pc 0 then some (.aload_n 0, 1, 1, 0, 0, .null) else none) else (bif Nat.blt pc 2 then (bif Nat.beq pc 1 then some (.iload_n 1, 1, 2, 1, 0, .null) else none) else (bif Nat.beq pc 2 then some (.iconst 1, 1, 3, 0, 0, .int 1) else none))) else (bif Nat.blt pc 6 then (bif Nat.beq pc 3 then some (.invokestatic 324, 3, 6, 43, 2, .null) else none) else (bif Nat.blt pc 7 then (bif Nat.beq pc 6 then some (.iload_n 2, 1, 7, 2, 0, .null) else none) else (bif Nat.beq pc 7 then some (.invokevirtual 328, 3, 10, 42, 2, .ref 0) else none)))) else (bif Nat.blt pc 13 then (bif Nat.blt pc 11 then (bif Nat.beq pc 10 then some (.aload_n 0, 1, 11, 0, 0, .null) else none) else (bif Nat.blt pc 12 then (bif Nat.beq pc 11 then some (.iload_n 1, 1, 12, 1, 0, .null) else none) else (bif Nat.beq pc 12 then some (.iconst 2, 1, 13, 0, 0, .int 2) else none))) else (bif Nat.blt pc 17 then (bif Nat.blt pc 16 then (bif Nat.beq pc 13 then some (.invokestatic 324, 3, 16, 43, 2, .null) else none) else (bif Nat.beq pc 16 then some (.iload_n 3, 1, 17, 3, 0, .null) else none)) else (bif Nat.blt pc 20 then (bif Nat.beq pc 17 then some (.invokevirtual 328, 3, 20, 42, 2, .ref 0) else none) else (bif Nat.beq pc 20 then some (.return_, 1, 21, 0, 0, .null) else none))))
def rq_T46 (pc : Nat) : Option pv_I := bif Nat.blt pc 21 then rq_U46 pc else none
def rq_U47 (pc : Nat) : Option pv_I := bif Nat.blt pc 42 then (bif Nat.blt pc 20 then (bif Nat.blt pc 10 then (bif Nat.blt pc 3 then (bif Nat.blt pc 1 then (bif Nat.beq pc 0 then some (.iconst 0, 1, 1, 0, 0, .int 0) else none) else (bif Nat.blt pc 2 then (bif Nat.beq pc 1 then some (.istore_n 3, 1, 2, 3, 0, .null) else none) else (bif Nat.beq pc 2 then some (.iload_n 3, 1, 3, 3, 0, .null) else none))) else (bif Nat.blt pc 4 then (bif Nat.beq pc 3 then some (.aload_n 0, 1, 4, 0, 0, .null) else none) else (bif Nat.blt pc 7 then (bif Nat.beq pc 4 then some (.getfield 331, 3, 7, 0, 55, .null) else none) else (bif Nat.beq pc 7 then some (.if_icmp .ge 35, 3, 10, 42, 0, .null) else none)))) else (bif Nat.blt pc 15 then (bif Nat.blt pc 11 then (bif Nat.beq pc 10 then some (.aload_n 0, 1, 11, 0, 0, .null) else none) else (bif Nat.blt pc 14 then (bif Nat.beq pc 11 then some (.getfield 117, 3, 14, 0, 52, .null) else none) else (bif Nat.beq pc 14 then some (.iload_n 3, 1, 15, 3, 0, .null) else none))) else (bif Nat.blt pc 16 then (bif Nat.beq pc 15 then some (.iaload, 1, 16, 0, 0, .null) else none) else (bif Nat.blt pc 17 then (bif Nat.beq pc 16 then some (.iload_n 1, 1, 17, 1, 0, .null) else none) else (bif Nat.beq pc 17 then some (.if_icmp .ne 19, 3, 20, 36, 0, .null) else none))))) else (bif Nat.blt pc 30 then (bif Nat.blt pc 25 then (bif Nat.blt pc 21 then (bif Nat.beq pc 20 then some (.aload_n 0, 1, 21, 0, 0, .null) else none) else (bif Nat.blt pc 24 then (bif Nat.beq pc 21 then some (.getfield 120, 3, 24, 0, 53, .null) else none) else (bif Nat.beq pc 24 then some (.iload_n 3, 1, 25, 3, 0, .null) else none))) else (bif Nat.blt pc 26 then (bif Nat.beq pc 25 then some (.iaload, 1, 26, 0, 0, .null) else none) else (bif Nat.blt pc 27 then (bif Nat.beq pc 26 then some (.iload_n 2, 1, 27, 2, 0, .null) else none) else (bif Nat.beq pc 27 then some (.if_icmp .ne 9, 3, 30, 36, 0, .null) else none)))) else (bif Nat.blt pc 35 then (bif Nat.blt pc 33 then (bif Nat.beq pc 30 then some (.sipush 2100, 3, 33, 0, 0, .int 2100) else none) else (bif Nat.blt pc 34 then (bif Nat.beq pc 33 then some (.iload_n 3, 1, 34, 3, 0, .null) else none) else (bif Nat.beq pc 34 then some (.iadd, 1, 35, 0, 0, .null) else none))) else (bif Nat.blt pc 36 then (bif Nat.beq pc 35 then some (.ireturn, 1, 36, 0, 0, .null) else none) else (bif Nat.blt pc 39 then (bif Nat.beq pc 36 then some (.iinc 3 1, 3, 39, 3, 0, .int 1) else none) else (bif Nat.beq pc 39 then some (.goto (-37), 3, 42, 2, 0, .null) else none)))))) else (bif Nat.blt pc 62 then (bif Nat.blt pc 52 then (bif Nat.blt pc 47 then (bif Nat.blt pc 43 then (bif Nat.beq pc 42 then some (.aload_n 0, 1, 43, 0, 0, .null) else none) else (bif Nat.blt pc 46 then (bif Nat.beq pc 43 then some (.getfield 117, 3, 46, 0, 52, .null) else none) else (bif Nat.beq pc 46 then some (.aload_n 0, 1, 47, 0, 0, .null) else none))) else (bif Nat.blt pc 50 then (bif Nat.beq pc 47 then some (.getfield 331, 3, 50, 0, 55, .null) else none) else (bif Nat.blt pc 51 then (bif Nat.beq pc 50 then some (.iload_n 1, 1, 51, 1, 0, .null) else none) else (bif Nat.beq pc 51 then some (.iastore, 1, 52, 0, 0, .null) else none)))) else (bif Nat.blt pc 57 then (bif Nat.blt pc 53 then (bif Nat.beq pc 52 then some (.aload_n 0, 1, 53, 0, 0, .null) else none) else (bif Nat.blt pc 56 then (bif Nat.beq pc 53 then some (.getfield 120, 3, 56, 0, 53, .null) else none) else (bif Nat.beq pc 56 then some (.aload_n 0, 1, 57, 0, 0, .null) else none))) else (bif Nat.blt pc 60 then (bif Nat.beq pc 57 then some (.getfield 331, 3, 60, 0, 55, .null) else none) else (bif Nat.blt pc 61 then (bif Nat.beq pc 60 then some (.iload_n 2, 1, 61, 2, 0, .null) else none) else (bif Nat.beq pc 61 then some (.iastore, 1, 62, 0, 0, .null) else none))))) else (bif Nat.blt pc 72 then (bif Nat.blt pc 67 then (bif Nat.blt pc 63 then (bif Nat.beq pc 62 then some (.aload_n 0, 1, 63, 0, 0, .null) else none) else (bif Nat.blt pc 64 then (bif Nat.beq pc 63 then some (.dup, 1, 64, 0, 0, .null) else none) else (bif Nat.beq pc 64 then some (.getfield 331, 3, 67, 0, 55, .null) else none))) else (bif Nat.blt pc 68 then (bif Nat.beq pc 67 then some (.iconst 1, 1, 68, 0, 0, .int 1) else none) else (bif Nat.blt pc 69 then (bif Nat.beq pc 68 then some (.iadd, 1, 69, 0, 0, .null) else none) else (bif Nat.beq pc 69 then some (.putfield 331, 3, 72, 0, 55, .null) else none)))) else (bif Nat.blt pc 79 then (bif Nat.blt pc 75 then (bif Nat.beq pc 72 then some (.sipush 2100, 3, 75, 0, 0, .int 2100) else none) else (bif Nat.blt pc 76 then (bif Nat.beq pc 75 then some (.aload_n 0, 1, 76, 0, 0, .null) else none) else (bif Nat.beq pc 76 then some (.getfield 331, 3, 79, 0, 55, .null) else none))) else (bif Nat.blt pc 81 then (bif Nat.blt pc 80 then (bif Nat.beq pc 79 then some (.iadd, 1, 80, 0, 0, .null) else none) else (bif Nat.beq pc 80 then some (.iconst 1, 1, 81, 0, 0, .int 1) else none)) else (bif Nat.blt pc 82 then (bif Nat.beq pc 81 then some (.isub, 1, 82, 0, 0, .null) else none) else (bif Nat.beq pc 82 then some (.ireturn, 1, 83, 0, 0, .null) else none))))))
def rq_T47 (pc : Nat) : Option pv_I := bif Nat.blt pc 83 then rq_U47 pc else none
def rq_U48 (pc : Nat) : Option pv_I := bif Nat.blt pc 84 then (bif Nat.blt pc 42 then (bif Nat.blt pc 20 then (bif Nat.blt pc 8 then (bif Nat.blt pc 3 then (bif Nat.blt pc 1 then (bif Nat.beq pc 0 then some (.iload_n 1, 1, 1, 1, 0, .null) else none) else (bif Nat.blt pc 2 then (bif Nat.beq pc 1 then some (.istore_n 3, 1, 2, 3, 0, .null) else none) else (bif Nat.beq pc 2 then some (.aload_n 0, 1, 3, 0, 0, .null) else none))) else (bif Nat.blt pc 6 then (bif Nat.beq pc 3 then some (.getfield 20, 3, 6, 0, 5, .null) else none) else (bif Nat.blt pc 7 then (bif Nat.beq pc 6 then some (.iload_n 1, 1, 7, 1, 0, .null) else none) else (bif Nat.beq pc 7 then some (.iaload, 1, 8, 0, 0, .null) else none)))) else (bif Nat.blt pc 13 then (bif Nat.blt pc 10 then (bif Nat.beq pc 8 then some (.istore 4, 2, 10, 4, 0, .null) else none) else (bif Nat.blt pc 12 then (bif Nat.beq pc 10 then some (.iload 4, 2, 12, 4, 0, .null) else none) else (bif Nat.beq pc 12 then some (.iconst (-1), 1, 13, 0, 0, .int (-1)) else none))) else (bif Nat.blt pc 16 then (bif Nat.beq pc 13 then some (.if_icmp .eq 151, 3, 16, 164, 0, .null) else none) else (bif Nat.blt pc 17 then (bif Nat.beq pc 16 then some (.aload_n 0, 1, 17, 0, 0, .null) else none) else (bif Nat.beq pc 17 then some (.getfield 13, 3, 20, 0, 3, .null) else none))))) else (bif Nat.blt pc 30 then (bif Nat.blt pc 25 then (bif Nat.blt pc 22 then (bif Nat.beq pc 20 then some (.iload 4, 2, 22, 4, 0, .null) else none) else (bif Nat.blt pc 23 then (bif Nat.beq pc 22 then some (.iaload, 1, 23, 0, 0, .null) else none) else (bif Nat.beq pc 23 then some (.bipush 84, 2, 25, 0, 0, .int 84) else none))) else (bif Nat.blt pc 28 then (bif Nat.beq pc 25 then some (.if_icmp .ne 64, 3, 28, 89, 0, .null) else none) else (bif Nat.blt pc 29 then (bif Nat.beq pc 28 then some (.iload_n 2, 1, 29, 2, 0, .null) else none) else (bif Nat.beq pc 29 then some (.iconst 2, 1, 30, 0, 0, .int 2) else none)))) else (bif Nat.blt pc 37 then (bif Nat.blt pc 33 then (bif Nat.beq pc 30 then some (.if_icmp .ne 31, 3, 33, 61, 0, .null) else none) else (bif Nat.blt pc 34 then (bif Nat.beq pc 33 then some (.aload_n 0, 1, 34, 0, 0, .null) else none) else (bif Nat.beq pc 34 then some (.getfield 23, 3, 37, 0, 6, .null) else none))) else (bif Nat.blt pc 38 then (bif Nat.beq pc 37 then some (.iload_n 3, 1, 38, 3, 0, .null) else none) else (bif Nat.blt pc 39 then (bif Nat.beq pc 38 then some (.iaload, 1, 39, 0, 0, .null) else none) else (bif Nat.beq pc 39 then some (.ifCond .ne 22, 3, 42, 61, 0, .null) else none)))))) else (bif Nat.blt pc 62 then (bif Nat.blt pc 55 then (bif Nat.blt pc 48 then (bif Nat.blt pc 43 then (bif Nat.beq pc 42 then some (.aload_n 0, 1, 43, 0, 0, .null) else none) else (bif Nat.blt pc 46 then (bif Nat.beq pc 43 then some (.getfield 51, 3, 46, 0, 15, .null) else none) else (bif Nat.beq pc 46 then some (.iload 4, 2, 48, 4, 0, .null) else none))) else (bif Nat.blt pc 49 then (bif Nat.beq pc 48 then some (.baload, 1, 49, 0, 0, .null) else none) else (bif Nat.blt pc 52 then (bif Nat.beq pc 49 then some (.ifCond .eq 12, 3, 52, 61, 0, .null) else none) else (bif Nat.beq pc 52 then some (.sipush 1301, 3, 55, 0, 0, .int 1301) else none)))) else (bif Nat.blt pc 59 then (bif Nat.blt pc 56 then (bif Nat.beq pc 55 then some (.iconst 3, 1, 56, 0, 0, .int 3) else none) else (bif Nat.blt pc 58 then (bif Nat.beq pc 56 then some (.iload 4, 2, 58, 4, 0, .null) else none) else (bif Nat.beq pc 58 then some (.imul, 1, 59, 0, 0, .null) else none))) else (bif Nat.blt pc 60 then (bif Nat.beq pc 59 then some (.iadd, 1, 60, 0, 0, .null) else none) else (bif Nat.blt pc 61 then (bif Nat.beq pc 60 then some (.ireturn, 1, 61, 0, 0, .null) else none) else (bif Nat.beq pc 61 then some (.aload_n 0, 1, 62, 0, 0, .null) else none))))) else (bif Nat.blt pc 75 then (bif Nat.blt pc 68 then (bif Nat.blt pc 65 then (bif Nat.beq pc 62 then some (.getfield 54, 3, 65, 0, 16, .null) else none) else (bif Nat.blt pc 67 then (bif Nat.beq pc 65 then some (.iload 4, 2, 67, 4, 0, .null) else none) else (bif Nat.beq pc 67 then some (.baload, 1, 68, 0, 0, .null) else none))) else (bif Nat.blt pc 71 then (bif Nat.beq pc 68 then some (.ifCond .eq 21, 3, 71, 89, 0, .null) else none) else (bif Nat.blt pc 72 then (bif Nat.beq pc 71 then some (.aload_n 0, 1, 72, 0, 0, .null) else none) else (bif Nat.beq pc 72 then some (.getfield 23, 3, 75, 0, 6, .null) else none)))) else (bif Nat.blt pc 78 then (bif Nat.blt pc 76 then (bif Nat.beq pc 75 then some (.iload_n 3, 1, 76, 3, 0, .null) else none) else (bif Nat.blt pc 77 then (bif Nat.beq pc 76 then some (.iaload, 1, 77, 0, 0, .null) else none) else (bif Nat.beq pc 77 then some (.iconst 2, 1, 78, 0, 0, .int 2) else none))) else (bif Nat.blt pc 81 then (bif Nat.beq pc 78 then some (.if_icmp .ge 11, 3, 81, 89, 0, .null) else none) else (bif Nat.blt pc 82 then (bif Nat.beq pc 81 then some (.aload_n 0, 1, 82, 0, 0, .null) else none) else (bif Nat.beq pc 82 then some (.iload 4, 2, 84, 4, 0, .null) else none))))))) else (bif Nat.blt pc 123 then (bif Nat.blt pc 101 then (bif Nat.blt pc 94 then (bif Nat.blt pc 89 then (bif Nat.blt pc 85 then (bif Nat.beq pc 84 then some (.iload_n 2, 1, 85, 2, 0, .null) else none) else (bif Nat.blt pc 88 then (bif Nat.beq pc 85 then some (.invokevirtual 334, 3, 88, 47, 2, .ref 0) else none) else (bif Nat.beq pc 88 then some (.ireturn, 1, 89, 0, 0, .null) else none))) else (bif Nat.blt pc 90 then (bif Nat.beq pc 89 then some (.iload_n 2, 1, 90, 2, 0, .null) else none) else (bif Nat.blt pc 91 then (bif Nat.beq pc 90 then some (.iconst 2, 1, 91, 0, 0, .int 2) else none) else (bif Nat.beq pc 91 then some (.if_icmp .le 58, 3, 94, 149, 0, .null) else none)))) else (bif Nat.blt pc 98 then (bif Nat.blt pc 96 then (bif Nat.beq pc 94 then some (.iload 4, 2, 96, 4, 0, .null) else none) else (bif Nat.blt pc 97 then (bif Nat.beq pc 96 then some (.iload_n 2, 1, 97, 2, 0, .null) else none) else (bif Nat.beq pc 97 then some (.iconst 3, 1, 98, 0, 0, .int 3) else none))) else (bif Nat.blt pc 99 then (bif Nat.beq pc 98 then some (.isub, 1, 99, 0, 0, .null) else none) else (bif Nat.blt pc 100 then (bif Nat.beq pc 99 then some (.iconst 2, 1, 100, 0, 0, .int 2) else none) else (bif Nat.beq pc 100 then some (.idiv, 1, 101, 0, 0, .null) else none))))) else (bif Nat.blt pc 111 then (bif Nat.blt pc 106 then (bif Nat.blt pc 104 then (bif Nat.beq pc 101 then some (.if_icmp .ne 48, 3, 104, 149, 0, .null) else none) else (bif Nat.blt pc 105 then (bif Nat.beq pc 104 then some (.iload_n 2, 1, 105, 2, 0, .null) else none) else (bif Nat.beq pc 105 then some (.iconst 2, 1, 106, 0, 0, .int 2) else none))) else (bif Nat.blt pc 107 then (bif Nat.beq pc 106 then some (.irem, 1, 107, 0, 0, .null) else none) else (bif Nat.blt pc 108 then (bif Nat.beq pc 107 then some (.iconst 1, 1, 108, 0, 0, .int 1) else none) else (bif Nat.beq pc 108 then some (.if_icmp .ne 12, 3, 111, 120, 0, .null) else none)))) else (bif Nat.blt pc 117 then (bif Nat.blt pc 113 then (bif Nat.beq pc 111 then some (.iload 4, 2, 113, 4, 0, .null) else none) else (bif Nat.blt pc 114 then (bif Nat.beq pc 113 then some (.iconst 3, 1, 114, 0, 0, .int 3) else none) else (bif Nat.beq pc 114 then some (.invokestatic 324, 3, 117, 43, 2, .null) else none))) else (bif Nat.blt pc 120 then (bif Nat.beq pc 117 then some (.goto 31, 3, 120, 148, 0, .null) else none) else (bif Nat.blt pc 121 then (bif Nat.beq pc 120 then some (.aload_n 0, 1, 121, 0, 0, .null) else none) else (bif Nat.beq pc 121 then some (.iload 4, 2, 123, 4, 0, .null) else none)))))) else (bif Nat.blt pc 145 then (bif Nat.blt pc 135 then (bif Nat.blt pc 129 then (bif Nat.blt pc 124 then (bif Nat.beq pc 123 then some (.aload_n 0, 1, 124, 0, 0, .null) else none) else (bif Nat.blt pc 127 then (bif Nat.beq pc 124 then some (.getfield 13, 3, 127, 0, 3, .null) else none) else (bif Nat.beq pc 127 then some (.iload 4, 2, 129, 4, 0, .null) else none))) else (bif Nat.blt pc 130 then (bif Nat.beq pc 129 then some (.iaload, 1, 130, 0, 0, .null) else none) else (bif Nat.blt pc 132 then (bif Nat.beq pc 130 then some (.bipush 70, 2, 132, 0, 0, .int 70) else none) else (bif Nat.beq pc 132 then some (.if_icmp .ne 7, 3, 135, 139, 0, .null) else none)))) else (bif Nat.blt pc 140 then (bif Nat.blt pc 136 then (bif Nat.beq pc 135 then some (.iconst 1, 1, 136, 0, 0, .int 1) else none) else (bif Nat.blt pc 139 then (bif Nat.beq pc 136 then some (.goto 4, 3, 139, 140, 0, .null) else none) else (bif Nat.beq pc 139 then some (.iconst 0, 1, 140, 0, 0, .int 0) else none))) else (bif Nat.blt pc 141 then (bif Nat.beq pc 140 then some (.iconst 0, 1, 141, 0, 0, .int 0) else none) else (bif Nat.blt pc 144 then (bif Nat.beq pc 141 then some (.invokevirtual 337, 3, 144, 44, 3, .ref 0) else none) else (bif Nat.beq pc 144 then some (.iconst 0, 1, 145, 0, 0, .int 0) else none))))) else (bif Nat.blt pc 156 then (bif Nat.blt pc 151 then (bif Nat.blt pc 148 then (bif Nat.beq pc 145 then some (.invokestatic 324, 3, 148, 43, 2, .null) else none) else (bif Nat.blt pc 149 then (bif Nat.beq pc 148 then some (.ireturn, 1, 149, 0, 0, .null) else none) else (bif Nat.beq pc 149 then some (.iload 4, 2, 151, 4, 0, .null) else none))) else (bif Nat.blt pc 152 then (bif Nat.beq pc 151 then some (.istore_n 3, 1, 152, 3, 0, .null) else none) else (bif Nat.blt pc 153 then (bif Nat.beq pc 152 then some (.aload_n 0, 1, 153, 0, 0, .null) else none) else (bif Nat.beq pc 153 then some (.getfield 20, 3, 156, 0, 5, .null) else none)))) else (bif Nat.blt pc 161 then (bif Nat.blt pc 158 then (bif Nat.beq pc 156 then some (.iload 4, 2, 158, 4, 0, .null) else none) else (bif Nat.blt pc 159 then (bif Nat.beq pc 158 then some (.iaload, 1, 159, 0, 0, .null) else none) else (bif Nat.beq pc 159 then some (.istore 4, 2, 161, 4, 0, .null) else none))) else (bif Nat.blt pc 164 then (bif Nat.beq pc 161 then some (.goto (-151), 3, 164, 10, 0, .null) else none) else (bif Nat.blt pc 165 then (bif Nat.beq pc 164 then some (.iconst (-1), 1, 165, 0, 0, .int (-1)) else none) else (bif Nat.beq pc 165 then some (.ireturn, 1, 166, 0, 0, .null) else none)))))))
def rq_T48 (pc : Nat) : Option pv_I := bif Nat.blt pc 166 then rq_U48 pc else none
def rq_U49 (pc : Nat) : Option pv_I := bif Nat.blt pc 111 then (bif Nat.blt pc 56 then (bif Nat.blt pc 27 then (bif Nat.blt pc 11 then (bif Nat.blt pc 5 then (bif Nat.blt pc 1 then (bif Nat.beq pc 0 then some (.aload_n 0, 1, 1, 0, 0, .null) else none) else (bif Nat.blt pc 4 then (bif Nat.beq pc 1 then some (.invokevirtual 340, 3, 4, 40, 0, .ref 0) else none) else (bif Nat.beq pc 4 then some (.aload_n 0, 1, 5, 0, 0, .null) else none))) else (bif Nat.blt pc 9 then (bif Nat.blt pc 6 then (bif Nat.beq pc 5 then some (.iconst 0, 1, 6, 0, 0, .int 0) else none) else (bif Nat.beq pc 6 then some (.putfield 317, 3, 9, 0, 50, .null) else none)) else (bif Nat.blt pc 10 then (bif Nat.beq pc 9 then some (.aload_n 0, 1, 10, 0, 0, .null) else none) else (bif Nat.beq pc 10 then some (.iconst 0, 1, 11, 0, 0, .int 0) else none)))) else (bif Nat.blt pc 17 then (bif Nat.blt pc 15 then (bif Nat.blt pc 14 then (bif Nat.beq pc 11 then some (.putfield 331, 3, 14, 0, 55, .null) else none) else (bif Nat.beq pc 14 then some (.iconst 0, 1, 15, 0, 0, .int 0) else none)) else (bif Nat.blt pc 16 then (bif Nat.beq pc 15 then some (.istore_n 1, 1, 16, 1, 0, .null) else none) else (bif Nat.beq pc 16 then some (.iload_n 1, 1, 17, 1, 0, .null) else none))) else (bif Nat.blt pc 23 then (bif Nat.blt pc 20 then (bif Nat.beq pc 17 then some (.sipush 3600, 3, 20, 0, 0, .int 3600) else none) else (bif Nat.beq pc 20 then some (.if_icmp .ge 16, 3, 23, 36, 0, .null) else none)) else (bif Nat.blt pc 24 then (bif Nat.beq pc 23 then some (.aload_n 0, 1, 24, 0, 0, .null) else none) else (bif Nat.beq pc 24 then some (.getfield 114, 3, 27, 0, 49, .null) else none))))) else (bif Nat.blt pc 40 then (bif Nat.blt pc 30 then (bif Nat.blt pc 28 then (bif Nat.beq pc 27 then some (.iload_n 1, 1, 28, 1, 0, .null) else none) else (bif Nat.blt pc 29 then (bif Nat.beq pc 28 then some (.iconst (-1), 1, 29, 0, 0, .int (-1)) else none) else (bif Nat.beq pc 29 then some (.iastore, 1, 30, 0, 0, .null) else none))) else (bif Nat.blt pc 36 then (bif Nat.blt pc 33 then (bif Nat.beq pc 30 then some (.iinc 1 1, 3, 33, 1, 0, .int 1) else none) else (bif Nat.beq pc 33 then some (.goto (-17), 3, 36, 16, 0, .null) else none)) else (bif Nat.blt pc 37 then (bif Nat.beq pc 36 then some (.aload_n 0, 1, 37, 0, 0, .null) else none) else (bif Nat.beq pc 37 then some (.sipush 3599, 3, 40, 0, 0, .int 3599) else none)))) else (bif Nat.blt pc 46 then (bif Nat.blt pc 44 then (bif Nat.blt pc 43 then (bif Nat.beq pc 40 then some (.putfield 343, 3, 43, 0, 51, .null) else none) else (bif Nat.beq pc 43 then some (.aload_n 0, 1, 44, 0, 0, .null) else none)) else (bif Nat.blt pc 45 then (bif Nat.beq pc 44 then some (.iconst (-1), 1, 45, 0, 0, .int (-1)) else none) else (bif Nat.beq pc 45 then some (.iconst 0, 1, 46, 0, 0, .int 0) else none))) else (bif Nat.blt pc 50 then (bif Nat.blt pc 47 then (bif Nat.beq pc 46 then some (.aload_n 0, 1, 47, 0, 0, .null) else none) else (bif Nat.beq pc 47 then some (.getfield 343, 3, 50, 0, 51, .null) else none)) else (bif Nat.blt pc 53 then (bif Nat.beq pc 50 then some (.sipush 1300, 3, 53, 0, 0, .int 1300) else none) else (bif Nat.beq pc 53 then some (.invokevirtual 346, 3, 56, 45, 4, .ref 0) else none)))))) else (bif Nat.blt pc 83 then (bif Nat.blt pc 67 then (bif Nat.blt pc 59 then (bif Nat.blt pc 57 then (bif Nat.beq pc 56 then some (.iconst 0, 1, 57, 0, 0, .int 0) else none) else (bif Nat.blt pc 58 then (bif Nat.beq pc 57 then some (.istore_n 1, 1, 58, 1, 0, .null) else none) else (bif Nat.beq pc 58 then some (.iload_n 1, 1, 59, 1, 0, .null) else none))) else (bif Nat.blt pc 63 then (bif Nat.blt pc 60 then (bif Nat.beq pc 59 then some (.aload_n 0, 1, 60, 0, 0, .null) else none) else (bif Nat.beq pc 60 then some (.getfield 159, 3, 63, 0, 2, .null) else none)) else (bif Nat.blt pc 66 then (bif Nat.beq pc 63 then some (.if_icmp .ge 95, 3, 66, 158, 0, .null) else none) else (bif Nat.beq pc 66 then some (.aload_n 0, 1, 67, 0, 0, .null) else none)))) else (bif Nat.blt pc 75 then (bif Nat.blt pc 71 then (bif Nat.blt pc 70 then (bif Nat.beq pc 67 then some (.getfield 29, 3, 70, 0, 8, .null) else none) else (bif Nat.beq pc 70 then some (.iload_n 1, 1, 71, 1, 0, .null) else none)) else (bif Nat.blt pc 72 then (bif Nat.beq pc 71 then some (.baload, 1, 72, 0, 0, .null) else none) else (bif Nat.beq pc 72 then some (.ifCond .eq 11, 3, 75, 83, 0, .null) else none))) else (bif Nat.blt pc 77 then (bif Nat.blt pc 76 then (bif Nat.beq pc 75 then some (.aload_n 0, 1, 76, 0, 0, .null) else none) else (bif Nat.beq pc 76 then some (.iload_n 1, 1, 77, 1, 0, .null) else none)) else (bif Nat.blt pc 80 then (bif Nat.beq pc 77 then some (.invokevirtual 350, 3, 80, 51, 1, .ref 0) else none) else (bif Nat.beq pc 80 then some (.goto 8, 3, 83, 88, 0, .null) else none))))) else (bif Nat.blt pc 97 then (bif Nat.blt pc 89 then (bif Nat.blt pc 85 then (bif Nat.blt pc 84 then (bif Nat.beq pc 83 then some (.aload_n 0, 1, 84, 0, 0, .null) else none) else (bif Nat.beq pc 84 then some (.iload_n 1, 1, 85, 1, 0, .null) else none)) else (bif Nat.blt pc 88 then (bif Nat.beq pc 85 then some (.invokevirtual 353, 3, 88, 53, 1, .ref 0) else none) else (bif Nat.beq pc 88 then some (.aload_n 0, 1, 89, 0, 0, .null) else none))) else (bif Nat.blt pc 93 then (bif Nat.blt pc 90 then (bif Nat.beq pc 89 then some (.iload_n 1, 1, 90, 1, 0, .null) else none) else (bif Nat.beq pc 90 then some (.invokevirtual 356, 3, 93, 50, 1, .ref 0) else none)) else (bif Nat.blt pc 96 then (bif Nat.beq pc 93 then some (.ifCond .eq 59, 3, 96, 152, 0, .null) else none) else (bif Nat.beq pc 96 then some (.aload_n 0, 1, 97, 0, 0, .null) else none)))) else (bif Nat.blt pc 103 then (bif Nat.blt pc 99 then (bif Nat.blt pc 98 then (bif Nat.beq pc 97 then some (.iload_n 1, 1, 98, 1, 0, .null) else none) else (bif Nat.beq pc 98 then some (.iconst 0, 1, 99, 0, 0, .int 0) else none)) else (bif Nat.blt pc 102 then (bif Nat.beq pc 99 then some (.invokestatic 324, 3, 102, 43, 2, .null) else none) else (bif Nat.beq pc 102 then some (.aload_n 0, 1, 103, 0, 0, .null) else none))) else (bif Nat.blt pc 105 then (bif Nat.blt pc 104 then (bif Nat.beq pc 103 then some (.iload_n 1, 1, 104, 1, 0, .null) else none) else (bif Nat.beq pc 104 then some (.iconst 2, 1, 105, 0, 0, .int 2) else none)) else (bif Nat.blt pc 108 then (bif Nat.beq pc 105 then some (.invokevirtual 359, 3, 108, 48, 2, .ref 0) else none) else (bif Nat.beq pc 108 then some (.invokevirtual 328, 3, 111, 42, 2, .ref 0) else none))))))) else (bif Nat.blt pc 162 then (bif Nat.blt pc 137 then (bif Nat.blt pc 123 then (bif Nat.blt pc 116 then (bif Nat.blt pc 112 then (bif Nat.beq pc 111 then some (.aload_n 0, 1, 112, 0, 0, .null) else none) else (bif Nat.blt pc 115 then (bif Nat.beq pc 112 then some (.getfield 13, 3, 115, 0, 3, .null) else none) else (bif Nat.beq pc 115 then some (.iload_n 1, 1, 116, 1, 0, .null) else none))) else (bif Nat.blt pc 119 then (bif Nat.blt pc 117 then (bif Nat.beq pc 116 then some (.iaload, 1, 117, 0, 0, .null) else none) else (bif Nat.beq pc 117 then some (.bipush 61, 2, 119, 0, 0, .int 61) else none)) else (bif Nat.blt pc 122 then (bif Nat.beq pc 119 then some (.if_icmp .ne 33, 3, 122, 152, 0, .null) else none) else (bif Nat.beq pc 122 then some (.aload_n 0, 1, 123, 0, 0, .null) else none)))) else (bif Nat.blt pc 129 then (bif Nat.blt pc 125 then (bif Nat.blt pc 124 then (bif Nat.beq pc 123 then some (.iload_n 1, 1, 124, 1, 0, .null) else none) else (bif Nat.beq pc 124 then some (.iconst 1, 1, 125, 0, 0, .int 1) else none)) else (bif Nat.blt pc 128 then (bif Nat.beq pc 125 then some (.invokestatic 324, 3, 128, 43, 2, .null) else none) else (bif Nat.beq pc 128 then some (.aload_n 0, 1, 129, 0, 0, .null) else none))) else (bif Nat.blt pc 131 then (bif Nat.blt pc 130 then (bif Nat.beq pc 129 then some (.iload_n 1, 1, 130, 1, 0, .null) else none) else (bif Nat.beq pc 130 then some (.iconst 2, 1, 131, 0, 0, .int 2) else none)) else (bif Nat.blt pc 134 then (bif Nat.beq pc 131 then some (.invokevirtual 359, 3, 134, 48, 2, .ref 0) else none) else (bif Nat.beq pc 134 then some (.invokevirtual 328, 3, 137, 42, 2, .ref 0) else none))))) else (bif Nat.blt pc 146 then (bif Nat.blt pc 140 then (bif Nat.blt pc 138 then (bif Nat.beq pc 137 then some (.aload_n 0, 1, 138, 0, 0, .null) else none) else (bif Nat.blt pc 139 then (bif Nat.beq pc 138 then some (.iload_n 1, 1, 139, 1, 0, .null) else none) else (bif Nat.beq pc 139 then some (.iconst 2, 1, 140, 0, 0, .int 2) else none))) else (bif Nat.blt pc 144 then (bif Nat.blt pc 143 then (bif Nat.beq pc 140 then some (.invokestatic 324, 3, 143, 43, 2, .null) else none) else (bif Nat.beq pc 143 then some (.aload_n 0, 1, 144, 0, 0, .null) else none)) else (bif Nat.blt pc 145 then (bif Nat.beq pc 144 then some (.iload_n 1, 1, 145, 1, 0, .null) else none) else (bif Nat.beq pc 145 then some (.iconst 2, 1, 146, 0, 0, .int 2) else none)))) else (bif Nat.blt pc 158 then (bif Nat.blt pc 152 then (bif Nat.blt pc 149 then (bif Nat.beq pc 146 then some (.invokevirtual 359, 3, 149, 48, 2, .ref 0) else none) else (bif Nat.beq pc 149 then some (.invokevirtual 328, 3, 152, 42, 2, .ref 0) else none)) else (bif Nat.blt pc 155 then (bif Nat.beq pc 152 then some (.iinc 1 1, 3, 155, 1, 0, .int 1) else none) else (bif Nat.beq pc 155 then some (.goto (-97), 3, 158, 58, 0, .null) else none))) else (bif Nat.blt pc 160 then (bif Nat.blt pc 159 then (bif Nat.beq pc 158 then some (.iconst 0, 1, 159, 0, 0, .int 0) else none) else (bif Nat.beq pc 159 then some (.istore_n 1, 1, 160, 1, 0, .null) else none)) else (bif Nat.blt pc 161 then (bif Nat.beq pc 160 then some (.iload_n 1, 1, 161, 1, 0, .null) else none) else (bif Nat.beq pc 161 then some (.aload_n 0, 1, 162, 0, 0, .null) else none)))))) else (bif Nat.blt pc 189 then (bif Nat.blt pc 177 then (bif Nat.blt pc 169 then (bif Nat.blt pc 165 then (bif Nat.beq pc 162 then some (.getfield 331, 3, 165, 0, 55, .null) else none) else (bif Nat.blt pc 168 then (bif Nat.beq pc 165 then some (.if_icmp .ge 53, 3, 168, 218, 0, .null) else none) else (bif Nat.beq pc 168 then some (.aload_n 0, 1, 169, 0, 0, .null) else none))) else (bif Nat.blt pc 173 then (bif Nat.blt pc 172 then (bif Nat.beq pc 169 then some (.getfield 123, 3, 172, 0, 54, .null) else none) else (bif Nat.beq pc 172 then some (.iload_n 1, 1, 173, 1, 0, .null) else none)) else (bif Nat.blt pc 174 then (bif Nat.beq pc 173 then some (.aload_n 0, 1, 174, 0, 0, .null) else none) else (bif Nat.beq pc 174 then some (.getfield 120, 3, 177, 0, 53, .null) else none)))) else (bif Nat.blt pc 183 then (bif Nat.blt pc 179 then (bif Nat.blt pc 178 then (bif Nat.beq pc 177 then some (.iload_n 1, 1, 178, 1, 0, .null) else none) else (bif Nat.beq pc 178 then some (.iaload, 1, 179, 0, 0, .null) else none)) else (bif Nat.blt pc 182 then (bif Nat.beq pc 179 then some (.ifCond .ne 16, 3, 182, 195, 0, .null) else none) else (bif Nat.beq pc 182 then some (.aload_n 0, 1, 183, 0, 0, .null) else none))) else (bif Nat.blt pc 187 then (bif Nat.blt pc 186 then (bif Nat.beq pc 183 then some (.getfield 117, 3, 186, 0, 52, .null) else none) else (bif Nat.beq pc 186 then some (.iload_n 1, 1, 187, 1, 0, .null) else none)) else (bif Nat.blt pc 188 then (bif Nat.beq pc 187 then some (.iaload, 1, 188, 0, 0, .null) else none) else (bif Nat.beq pc 188 then some (.iconst 3, 1, 189, 0, 0, .int 3) else none))))) else (bif Nat.blt pc 203 then (bif Nat.blt pc 197 then (bif Nat.blt pc 195 then (bif Nat.blt pc 192 then (bif Nat.beq pc 189 then some (.invokestatic 324, 3, 192, 43, 2, .null) else none) else (bif Nat.beq pc 192 then some (.goto 19, 3, 195, 211, 0, .null) else none)) else (bif Nat.blt pc 196 then (bif Nat.beq pc 195 then some (.aload_n 0, 1, 196, 0, 0, .null) else none) else (bif Nat.beq pc 196 then some (.aload_n 0, 1, 197, 0, 0, .null) else none))) else (bif Nat.blt pc 201 then (bif Nat.blt pc 200 then (bif Nat.beq pc 197 then some (.getfield 117, 3, 200, 0, 52, .null) else none) else (bif Nat.beq pc 200 then some (.iload_n 1, 1, 201, 1, 0, .null) else none)) else (bif Nat.blt pc 202 then (bif Nat.beq pc 201 then some (.iaload, 1, 202, 0, 0, .null) else none) else (bif Nat.beq pc 202 then some (.aload_n 0, 1, 203, 0, 0, .null) else none)))) else (bif Nat.blt pc 211 then (bif Nat.blt pc 207 then (bif Nat.blt pc 206 then (bif Nat.beq pc 203 then some (.getfield 120, 3, 206, 0, 53, .null) else none) else (bif Nat.beq pc 206 then some (.iload_n 1, 1, 207, 1, 0, .null) else none)) else (bif Nat.blt pc 208 then (bif Nat.beq pc 207 then some (.iaload, 1, 208, 0, 0, .null) else none) else (bif Nat.beq pc 208 then some (.invokevirtual 359, 3, 211, 48, 2, .ref 0) else none))) else (bif Nat.blt pc 215 then (bif Nat.blt pc 212 then (bif Nat.beq pc 211 then some (.iastore, 1, 212, 0, 0, .null) else none) else (bif Nat.beq pc 212 then some (.iinc 1 1, 3, 215, 1, 0, .int 1) else none)) else (bif Nat.blt pc 218 then (bif Nat.beq pc 215 then some (.goto (-55), 3, 218, 160, 0, .null) else none) else (bif Nat.beq pc 218 then some (.return_, 1, 219, 0, 0, .null) else none)))))))
def rq_T49 (pc : Nat) : Option pv_I := bif Nat.blt pc 219 then rq_U49 pc else none
def rq_U50 (pc : Nat) : Option pv_I := bif Nat.blt pc 20 then (bif Nat.blt pc 8 then (bif Nat.blt pc 5 then (bif Nat.blt pc 1 then (bif Nat.beq pc 0 then some (.aload_n 0, 1, 1, 0, 0, .null) else none) else (bif Nat.blt pc 4 then (bif Nat.beq pc 1 then some (.getfield 20, 3, 4, 0, 5, .null) else none) else (bif Nat.beq pc 4 then some (.iload_n 1, 1, 5, 1, 0, .null) else none))) else (bif Nat.blt pc 6 then (bif Nat.beq pc 5 then some (.iaload, 1, 6, 0, 0, .null) else none) else (bif Nat.blt pc 7 then (bif Nat.beq pc 6 then some (.istore_n 2, 1, 7, 2, 0, .null) else none) else (bif Nat.beq pc 7 then some (.iload_n 2, 1, 8, 2, 0, .null) else none)))) else (bif Nat.blt pc 13 then (bif Nat.blt pc 9 then (bif Nat.beq pc 8 then some (.iconst (-1), 1, 9, 0, 0, .int (-1)) else none) else (bif Nat.blt pc 12 then (bif Nat.beq pc 9 then some (.if_icmp .eq 24, 3, 12, 33, 0, .null) else none) else (bif Nat.beq pc 12 then some (.aload_n 0, 1, 13, 0, 0, .null) else none))) else (bif Nat.blt pc 17 then (bif Nat.blt pc 16 then (bif Nat.beq pc 13 then some (.getfield 13, 3, 16, 0, 3, .null) else none) else (bif Nat.beq pc 16 then some (.iload_n 2, 1, 17, 2, 0, .null) else none)) else (bif Nat.blt pc 18 then (bif Nat.beq pc 17 then some (.iaload, 1, 18, 0, 0, .null) else none) else (bif Nat.beq pc 18 then some (.bipush 84, 2, 20, 0, 0, .int 84) else none))))) else (bif Nat.blt pc 33 then (bif Nat.blt pc 27 then (bif Nat.blt pc 23 then (bif Nat.beq pc 20 then some (.if_icmp .eq 13, 3, 23, 33, 0, .null) else none) else (bif Nat.blt pc 24 then (bif Nat.beq pc 23 then some (.aload_n 0, 1, 24, 0, 0, .null) else none) else (bif Nat.beq pc 24 then some (.getfield 20, 3, 27, 0, 5, .null) else none))) else (bif Nat.blt pc 29 then (bif Nat.blt pc 28 then (bif Nat.beq pc 27 then some (.iload_n 2, 1, 28, 2, 0, .null) else none) else (bif Nat.beq pc 28 then some (.iaload, 1, 29, 0, 0, .null) else none)) else (bif Nat.blt pc 30 then (bif Nat.beq pc 29 then some (.istore_n 2, 1, 30, 2, 0, .null) else none) else (bif Nat.beq pc 30 then some (.goto (-23), 3, 33, 7, 0, .null) else none)))) else (bif Nat.blt pc 38 then (bif Nat.blt pc 34 then (bif Nat.beq pc 33 then some (.iload_n 2, 1, 34, 2, 0, .null) else none) else (bif Nat.blt pc 35 then (bif Nat.beq pc 34 then some (.iconst (-1), 1, 35, 0, 0, .int (-1)) else none) else (bif Nat.beq pc 35 then some (.if_icmp .eq 7, 3, 38, 42, 0, .null) else none))) else (bif Nat.blt pc 42 then (bif Nat.blt pc 39 then (bif Nat.beq pc 38 then some (.iconst 1, 1, 39, 0, 0, .int 1) else none) else (bif Nat.beq pc 39 then some (.goto 4, 3, 42, 43, 0, .null) else none)) else (bif Nat.blt pc 43 then (bif Nat.beq pc 42 then some (.iconst 0, 1, 43, 0, 0, .int 0) else none) else (bif Nat.beq pc 43 then some (.ireturn, 1, 44, 0, 0, .null) else none)))))
def rq_T50 (pc : Nat) : Option pv_I := bif Nat.blt pc 44 then rq_U50 pc else none
def rq_U51 (pc : Nat) : Option pv_I := bif Nat.blt pc 384 then (bif Nat.blt pc 229 then (bif Nat.blt pc 160 then (bif Nat.blt pc 28 then (bif Nat.blt pc 13 then (bif Nat.blt pc 6 then (bif Nat.blt pc 2 then (bif Nat.blt pc 1 then (bif Nat.beq pc 0 then some (.iload_n 1, 1, 1, 1, 0, .null) else none) else (bif Nat.beq pc 1 then some (.iconst 0, 1, 2, 0, 0, .int 0) else none)) else (bif Nat.blt pc 5 then (bif Nat.beq pc 2 then some (.invokestatic 324, 3, 5, 43, 2, .null) else none) else (bif Nat.beq pc 5 then some (.istore_n 2, 1, 6, 2, 0, .null) else none))) else (bif Nat.blt pc 8 then (bif Nat.blt pc 7 then (bif Nat.beq pc 6 then some (.iload_n 1, 1, 7, 1, 0, .null) else none) else (bif Nat.beq pc 7 then some (.iconst 3, 1, 8, 0, 0, .int 3) else none)) else (bif Nat.blt pc 11 then (bif Nat.beq pc 8 then some (.invokestatic 324, 3, 11, 43, 2, .null) else none) else (bif Nat.blt pc 12 then (bif Nat.beq pc 11 then some (.istore_n 3, 1, 12, 3, 0, .null) else none) else (bif Nat.beq pc 12 then some (.aload_n 0, 1, 13, 0, 0, .null) else none))))) else (bif Nat.blt pc 21 then (bif Nat.blt pc 15 then (bif Nat.blt pc 14 then (bif Nat.beq pc 13 then some (.iload_n 1, 1, 14, 1, 0, .null) else none) else (bif Nat.beq pc 14 then some (.iconst 0, 1, 15, 0, 0, .int 0) else none)) else (bif Nat.blt pc 16 then (bif Nat.beq pc 15 then some (.iconst 0, 1, 16, 0, 0, .int 0) else none) else (bif Nat.blt pc 19 then (bif Nat.beq pc 16 then some (.invokevirtual 337, 3, 19, 44, 3, .ref 0) else none) else (bif Nat.beq pc 19 then some (.istore 4, 2, 21, 4, 0, .null) else none)))) else (bif Nat.blt pc 23 then (bif Nat.blt pc 22 then (bif Nat.beq pc 21 then some (.aload_n 0, 1, 22, 0, 0, .null) else none) else (bif Nat.beq pc 22 then some (.iload_n 1, 1, 23, 1, 0, .null) else none)) else (bif Nat.blt pc 24 then (bif Nat.beq pc 23 then some (.iconst 0, 1, 24, 0, 0, .int 0) else none) else (bif Nat.blt pc 25 then (bif Nat.beq pc 24 then some (.iconst 1, 1, 25, 0, 0, .int 1) else none) else (bif Nat.beq pc 25 then some (.invokevirtual 337, 3, 28, 44, 3, .ref 0) else none)))))) else (bif Nat.blt pc 141 then (bif Nat.blt pc 36 then (bif Nat.blt pc 31 then (bif Nat.blt pc 30 then (bif Nat.beq pc 28 then some (.istore 5, 2, 30, 5, 0, .null) else none) else (bif Nat.beq pc 30 then some (.aload_n 0, 1, 31, 0, 0, .null) else none)) else (bif Nat.blt pc 34 then (bif Nat.beq pc 31 then some (.getfield 13, 3, 34, 0, 3, .null) else none) else (bif Nat.blt pc 35 then (bif Nat.beq pc 34 then some (.iload_n 1, 1, 35, 1, 0, .null) else none) else (bif Nat.beq pc 35 then some (.iaload, 1, 36, 0, 0, .null) else none)))) else (bif Nat.blt pc 137 then (bif Nat.blt pc 136 then (bif Nat.beq pc 36 then some (.lookupswitch 512 #[(36, 122), (37, 122), (58, 151), (59, 100), (68, 298), (70, 341), (73, 176), (83, 411), (84, 422), (87, 255), (123, 140)], 100, 136, 0, 0, .null) else none) else (bif Nat.beq pc 136 then some (.aload_n 0, 1, 137, 0, 0, .null) else none)) else (bif Nat.blt pc 138 then (bif Nat.beq pc 137 then some (.iload_n 2, 1, 138, 2, 0, .null) else none) else (bif Nat.blt pc 140 then (bif Nat.beq pc 138 then some (.iload 4, 2, 140, 4, 0, .null) else none) else (bif Nat.beq pc 140 then some (.iconst 0, 1, 141, 0, 0, .int 0) else none))))) else (bif Nat.blt pc 151 then (bif Nat.blt pc 147 then (bif Nat.blt pc 144 then (bif Nat.beq pc 141 then some (.invokestatic 324, 3, 144, 43, 2, .null) else none) else (bif Nat.beq pc 144 then some (.invokevirtual 328, 3, 147, 42, 2, .ref 0) else none)) else (bif Nat.blt pc 148 then (bif Nat.beq pc 147 then some (.aload_n 0, 1, 148, 0, 0, .null) else none) else (bif Nat.blt pc 150 then (bif Nat.beq pc 148 then some (.iload 4, 2, 150, 4, 0, .null) else none) else (bif Nat.beq pc 150 then some (.iload_n 3, 1, 151, 3, 0, .null) else none)))) else (bif Nat.blt pc 155 then (bif Nat.blt pc 152 then (bif Nat.beq pc 151 then some (.iload_n 3, 1, 152, 3, 0, .null) else none) else (bif Nat.beq pc 152 then some (.invokevirtual 362, 3, 155, 46, 3, .ref 0) else none)) else (bif Nat.blt pc 158 then (bif Nat.beq pc 155 then some (.goto 505, 3, 158, 660, 0, .null) else none) else (bif Nat.blt pc 159 then (bif Nat.beq pc 158 then some (.aload_n 0, 1, 159, 0, 0, .null) else none) else (bif Nat.beq pc 159 then some (.iload_n 2, 1, 160, 2, 0, .null) else none))))))) else (bif Nat.blt pc 192 then (bif Nat.blt pc 177 then (bif Nat.blt pc 168 then (bif Nat.blt pc 163 then (bif Nat.blt pc 161 then (bif Nat.beq pc 160 then some (.iload_n 3, 1, 161, 3, 0, .null) else none) else (bif Nat.beq pc 161 then some (.bipush 20, 2, 163, 0, 0, .int 20) else none)) else (bif Nat.blt pc 164 then (bif Nat.beq pc 163 then some (.aload_n 0, 1, 164, 0, 0, .null) else none) else (bif Nat.blt pc 167 then (bif Nat.beq pc 164 then some (.getfield 26, 3, 167, 0, 7, .null) else none) else (bif Nat.beq pc 167 then some (.iload_n 1, 1, 168, 1, 0, .null) else none)))) else (bif Nat.blt pc 170 then (bif Nat.blt pc 169 then (bif Nat.beq pc 168 then some (.iaload, 1, 169, 0, 0, .null) else none) else (bif Nat.beq pc 169 then some (.iadd, 1, 170, 0, 0, .null) else none)) else (bif Nat.blt pc 173 then (bif Nat.beq pc 170 then some (.invokevirtual 320, 3, 173, 41, 3, .ref 0) else none) else (bif Nat.blt pc 176 then (bif Nat.beq pc 173 then some (.goto 487, 3, 176, 660, 0, .null) else none) else (bif Nat.beq pc 176 then some (.aload_n 0, 1, 177, 0, 0, .null) else none))))) else (bif Nat.blt pc 184 then (bif Nat.blt pc 179 then (bif Nat.blt pc 178 then (bif Nat.beq pc 177 then some (.iload_n 1, 1, 178, 1, 0, .null) else none) else (bif Nat.beq pc 178 then some (.iconst 0, 1, 179, 0, 0, .int 0) else none)) else (bif Nat.blt pc 180 then (bif Nat.beq pc 179 then some (.iload_n 2, 1, 180, 2, 0, .null) else none) else (bif Nat.blt pc 181 then (bif Nat.beq pc 180 then some (.iload_n 3, 1, 181, 3, 0, .null) else none) else (bif Nat.beq pc 181 then some (.invokevirtual 346, 3, 184, 45, 4, .ref 0) else none)))) else (bif Nat.blt pc 188 then (bif Nat.blt pc 187 then (bif Nat.beq pc 184 then some (.goto 476, 3, 187, 660, 0, .null) else none) else (bif Nat.beq pc 187 then some (.aload_n 0, 1, 188, 0, 0, .null) else none)) else (bif Nat.blt pc 189 then (bif Nat.beq pc 188 then some (.iload_n 2, 1, 189, 2, 0, .null) else none) else (bif Nat.blt pc 191 then (bif Nat.beq pc 189 then some (.iload 5, 2, 191, 5, 0, .null) else none) else (bif Nat.beq pc 191 then some (.iconst 0, 1, 192, 0, 0, .int 0) else none)))))) else (bif Nat.blt pc 213 then (bif Nat.blt pc 202 then (bif Nat.blt pc 198 then (bif Nat.blt pc 195 then (bif Nat.beq pc 192 then some (.invokestatic 324, 3, 195, 43, 2, .null) else none) else (bif Nat.beq pc 195 then some (.invokevirtual 328, 3, 198, 42, 2, .ref 0) else none)) else (bif Nat.blt pc 199 then (bif Nat.beq pc 198 then some (.aload_n 0, 1, 199, 0, 0, .null) else none) else (bif Nat.blt pc 201 then (bif Nat.beq pc 199 then some (.iload 5, 2, 201, 5, 0, .null) else none) else (bif Nat.beq pc 201 then some (.iconst 3, 1, 202, 0, 0, .int 3) else none)))) else (bif Nat.blt pc 206 then (bif Nat.blt pc 205 then (bif Nat.beq pc 202 then some (.invokestatic 324, 3, 205, 43, 2, .null) else none) else (bif Nat.beq pc 205 then some (.iload_n 3, 1, 206, 3, 0, .null) else none)) else (bif Nat.blt pc 209 then (bif Nat.beq pc 206 then some (.invokevirtual 328, 3, 209, 42, 2, .ref 0) else none) else (bif Nat.blt pc 212 then (bif Nat.beq pc 209 then some (.goto 451, 3, 212, 660, 0, .null) else none) else (bif Nat.beq pc 212 then some (.aload_n 0, 1, 213, 0, 0, .null) else none))))) else (bif Nat.blt pc 221 then (bif Nat.blt pc 215 then (bif Nat.blt pc 214 then (bif Nat.beq pc 213 then some (.iload_n 1, 1, 214, 1, 0, .null) else none) else (bif Nat.beq pc 214 then some (.iconst 1, 1, 215, 0, 0, .int 1) else none)) else (bif Nat.blt pc 216 then (bif Nat.beq pc 215 then some (.iconst 1, 1, 216, 0, 0, .int 1) else none) else (bif Nat.blt pc 219 then (bif Nat.beq pc 216 then some (.invokevirtual 337, 3, 219, 44, 3, .ref 0) else none) else (bif Nat.beq pc 219 then some (.istore 6, 2, 221, 6, 0, .null) else none)))) else (bif Nat.blt pc 223 then (bif Nat.blt pc 222 then (bif Nat.beq pc 221 then some (.aload_n 0, 1, 222, 0, 0, .null) else none) else (bif Nat.beq pc 222 then some (.iload_n 2, 1, 223, 2, 0, .null) else none)) else (bif Nat.blt pc 225 then (bif Nat.beq pc 223 then some (.iload 4, 2, 225, 4, 0, .null) else none) else (bif Nat.blt pc 226 then (bif Nat.beq pc 225 then some (.iconst 0, 1, 226, 0, 0, .int 0) else none) else (bif Nat.beq pc 226 then some (.invokestatic 324, 3, 229, 43, 2, .null) else none)))))))) else (bif Nat.blt pc 307 then (bif Nat.blt pc 268 then (bif Nat.blt pc 248 then (bif Nat.blt pc 238 then (bif Nat.blt pc 233 then (bif Nat.blt pc 232 then (bif Nat.beq pc 229 then some (.invokevirtual 328, 3, 232, 42, 2, .ref 0) else none) else (bif Nat.beq pc 232 then some (.aload_n 0, 1, 233, 0, 0, .null) else none)) else (bif Nat.blt pc 235 then (bif Nat.beq pc 233 then some (.iload 4, 2, 235, 4, 0, .null) else none) else (bif Nat.blt pc 237 then (bif Nat.beq pc 235 then some (.iload 5, 2, 237, 5, 0, .null) else none) else (bif Nat.beq pc 237 then some (.iconst 0, 1, 238, 0, 0, .int 0) else none)))) else (bif Nat.blt pc 243 then (bif Nat.blt pc 241 then (bif Nat.beq pc 238 then some (.invokestatic 324, 3, 241, 43, 2, .null) else none) else (bif Nat.beq pc 241 then some (.iload 6, 2, 243, 6, 0, .null) else none)) else (bif Nat.blt pc 244 then (bif Nat.beq pc 243 then some (.iconst (-1), 1, 244, 0, 0, .int (-1)) else none) else (bif Nat.blt pc 247 then (bif Nat.beq pc 244 then some (.if_icmp .ne 7, 3, 247, 251, 0, .null) else none) else (bif Nat.beq pc 247 then some (.iload_n 3, 1, 248, 3, 0, .null) else none))))) else (bif Nat.blt pc 260 then (bif Nat.blt pc 253 then (bif Nat.blt pc 251 then (bif Nat.beq pc 248 then some (.goto 9, 3, 251, 257, 0, .null) else none) else (bif Nat.beq pc 251 then some (.iload 6, 2, 253, 6, 0, .null) else none)) else (bif Nat.blt pc 254 then (bif Nat.beq pc 253 then some (.iconst 0, 1, 254, 0, 0, .int 0) else none) else (bif Nat.blt pc 257 then (bif Nat.beq pc 254 then some (.invokestatic 324, 3, 257, 43, 2, .null) else none) else (bif Nat.beq pc 257 then some (.invokevirtual 362, 3, 260, 46, 3, .ref 0) else none)))) else (bif Nat.blt pc 263 then (bif Nat.blt pc 261 then (bif Nat.beq pc 260 then some (.aload_n 0, 1, 261, 0, 0, .null) else none) else (bif Nat.beq pc 261 then some (.iload 5, 2, 263, 5, 0, .null) else none)) else (bif Nat.blt pc 264 then (bif Nat.beq pc 263 then some (.iconst 3, 1, 264, 0, 0, .int 3) else none) else (bif Nat.blt pc 267 then (bif Nat.beq pc 264 then some (.invokestatic 324, 3, 267, 43, 2, .null) else none) else (bif Nat.beq pc 267 then some (.iload_n 3, 1, 268, 3, 0, .null) else none)))))) else (bif Nat.blt pc 288 then (bif Nat.blt pc 278 then (bif Nat.blt pc 273 then (bif Nat.blt pc 271 then (bif Nat.beq pc 268 then some (.invokevirtual 328, 3, 271, 42, 2, .ref 0) else none) else (bif Nat.beq pc 271 then some (.iload 6, 2, 273, 6, 0, .null) else none)) else (bif Nat.blt pc 274 then (bif Nat.beq pc 273 then some (.iconst (-1), 1, 274, 0, 0, .int (-1)) else none) else (bif Nat.blt pc 277 then (bif Nat.beq pc 274 then some (.if_icmp .eq 386, 3, 277, 660, 0, .null) else none) else (bif Nat.beq pc 277 then some (.aload_n 0, 1, 278, 0, 0, .null) else none)))) else (bif Nat.blt pc 281 then (bif Nat.blt pc 280 then (bif Nat.beq pc 278 then some (.iload 6, 2, 280, 6, 0, .null) else none) else (bif Nat.beq pc 280 then some (.iconst 3, 1, 281, 0, 0, .int 3) else none)) else (bif Nat.blt pc 284 then (bif Nat.beq pc 281 then some (.invokestatic 324, 3, 284, 43, 2, .null) else none) else (bif Nat.blt pc 285 then (bif Nat.beq pc 284 then some (.iload_n 3, 1, 285, 3, 0, .null) else none) else (bif Nat.beq pc 285 then some (.invokevirtual 328, 3, 288, 42, 2, .ref 0) else none))))) else (bif Nat.blt pc 296 then (bif Nat.blt pc 292 then (bif Nat.blt pc 291 then (bif Nat.beq pc 288 then some (.goto 372, 3, 291, 660, 0, .null) else none) else (bif Nat.beq pc 291 then some (.aload_n 0, 1, 292, 0, 0, .null) else none)) else (bif Nat.blt pc 293 then (bif Nat.beq pc 292 then some (.iload_n 2, 1, 293, 2, 0, .null) else none) else (bif Nat.blt pc 295 then (bif Nat.beq pc 293 then some (.iload 4, 2, 295, 4, 0, .null) else none) else (bif Nat.beq pc 295 then some (.iconst 0, 1, 296, 0, 0, .int 0) else none)))) else (bif Nat.blt pc 302 then (bif Nat.blt pc 299 then (bif Nat.beq pc 296 then some (.invokestatic 324, 3, 299, 43, 2, .null) else none) else (bif Nat.beq pc 299 then some (.invokevirtual 328, 3, 302, 42, 2, .ref 0) else none)) else (bif Nat.blt pc 303 then (bif Nat.beq pc 302 then some (.aload_n 0, 1, 303, 0, 0, .null) else none) else (bif Nat.blt pc 305 then (bif Nat.beq pc 303 then some (.iload 4, 2, 305, 4, 0, .null) else none) else (bif Nat.beq pc 305 then some (.iload 5, 2, 307, 5, 0, .null) else none))))))) else (bif Nat.blt pc 346 then (bif Nat.blt pc 325 then (bif Nat.blt pc 316 then (bif Nat.blt pc 311 then (bif Nat.blt pc 308 then (bif Nat.beq pc 307 then some (.iconst 0, 1, 308, 0, 0, .int 0) else none) else (bif Nat.beq pc 308 then some (.invokestatic 324, 3, 311, 43, 2, .null) else none)) else (bif Nat.blt pc 312 then (bif Nat.beq pc 311 then some (.iload_n 3, 1, 312, 3, 0, .null) else none) else (bif Nat.blt pc 315 then (bif Nat.beq pc 312 then some (.invokevirtual 362, 3, 315, 46, 3, .ref 0) else none) else (bif Nat.beq pc 315 then some (.aload_n 0, 1, 316, 0, 0, .null) else none)))) else (bif Nat.blt pc 319 then (bif Nat.blt pc 318 then (bif Nat.beq pc 316 then some (.iload 5, 2, 318, 5, 0, .null) else none) else (bif Nat.beq pc 318 then some (.iconst 3, 1, 319, 0, 0, .int 3) else none)) else (bif Nat.blt pc 322 then (bif Nat.beq pc 319 then some (.invokestatic 324, 3, 322, 43, 2, .null) else none) else (bif Nat.blt pc 324 then (bif Nat.beq pc 322 then some (.iload 4, 2, 324, 4, 0, .null) else none) else (bif Nat.beq pc 324 then some (.iconst 0, 1, 325, 0, 0, .int 0) else none))))) else (bif Nat.blt pc 336 then (bif Nat.blt pc 331 then (bif Nat.blt pc 328 then (bif Nat.beq pc 325 then some (.invokestatic 324, 3, 328, 43, 2, .null) else none) else (bif Nat.beq pc 328 then some (.invokevirtual 328, 3, 331, 42, 2, .ref 0) else none)) else (bif Nat.blt pc 334 then (bif Nat.beq pc 331 then some (.goto 329, 3, 334, 660, 0, .null) else none) else (bif Nat.blt pc 335 then (bif Nat.beq pc 334 then some (.aload_n 0, 1, 335, 0, 0, .null) else none) else (bif Nat.beq pc 335 then some (.iload_n 2, 1, 336, 2, 0, .null) else none)))) else (bif Nat.blt pc 339 then (bif Nat.blt pc 338 then (bif Nat.beq pc 336 then some (.iload 5, 2, 338, 5, 0, .null) else none) else (bif Nat.beq pc 338 then some (.iconst 0, 1, 339, 0, 0, .int 0) else none)) else (bif Nat.blt pc 342 then (bif Nat.beq pc 339 then some (.invokestatic 324, 3, 342, 43, 2, .null) else none) else (bif Nat.blt pc 345 then (bif Nat.beq pc 342 then some (.invokevirtual 328, 3, 345, 42, 2, .ref 0) else none) else (bif Nat.beq pc 345 then some (.aload_n 0, 1, 346, 0, 0, .null) else none)))))) else (bif Nat.blt pc 366 then (bif Nat.blt pc 355 then (bif Nat.blt pc 349 then (bif Nat.blt pc 348 then (bif Nat.beq pc 346 then some (.iload 5, 2, 348, 5, 0, .null) else none) else (bif Nat.beq pc 348 then some (.iconst 3, 1, 349, 0, 0, .int 3) else none)) else (bif Nat.blt pc 352 then (bif Nat.beq pc 349 then some (.invokestatic 324, 3, 352, 43, 2, .null) else none) else (bif Nat.blt pc 354 then (bif Nat.beq pc 352 then some (.iload 4, 2, 354, 4, 0, .null) else none) else (bif Nat.beq pc 354 then some (.iconst 0, 1, 355, 0, 0, .int 0) else none)))) else (bif Nat.blt pc 361 then (bif Nat.blt pc 358 then (bif Nat.beq pc 355 then some (.invokestatic 324, 3, 358, 43, 2, .null) else none) else (bif Nat.beq pc 358 then some (.invokevirtual 328, 3, 361, 42, 2, .ref 0) else none)) else (bif Nat.blt pc 362 then (bif Nat.beq pc 361 then some (.aload_n 0, 1, 362, 0, 0, .null) else none) else (bif Nat.blt pc 364 then (bif Nat.beq pc 362 then some (.iload 4, 2, 364, 4, 0, .null) else none) else (bif Nat.beq pc 364 then some (.iload 5, 2, 366, 5, 0, .null) else none))))) else (bif Nat.blt pc 377 then (bif Nat.blt pc 370 then (bif Nat.blt pc 367 then (bif Nat.beq pc 366 then some (.iconst 0, 1, 367, 0, 0, .int 0) else none) else (bif Nat.beq pc 367 then some (.invokestatic 324, 3, 370, 43, 2, .null) else none)) else (bif Nat.blt pc 371 then (bif Nat.beq pc 370 then some (.iload_n 3, 1, 371, 3, 0, .null) else none) else (bif Nat.blt pc 374 then (bif Nat.beq pc 371 then some (.invokevirtual 362, 3, 374, 46, 3, .ref 0) else none) else (bif Nat.beq pc 374 then some (.goto 286, 3, 377, 660, 0, .null) else none)))) else (bif Nat.blt pc 379 then (bif Nat.blt pc 378 then (bif Nat.beq pc 377 then some (.aload_n 0, 1, 378, 0, 0, .null) else none) else (bif Nat.beq pc 378 then some (.iload_n 1, 1, 379, 1, 0, .null) else none)) else (bif Nat.blt pc 380 then (bif Nat.beq pc 379 then some (.iconst 1, 1, 380, 0, 0, .int 1) else none) else (bif Nat.blt pc 381 then (bif Nat.beq pc 380 then some (.iconst 0, 1, 381, 0, 0, .int 0) else none) else (bif Nat.beq pc 381 then some (.invokevirtual 337, 3, 384, 44, 3, .ref 0) else none))))))))) else (bif Nat.blt pc 527 then (bif Nat.blt pc 462 then (bif Nat.blt pc 420 then (bif Nat.blt pc 402 then (bif Nat.blt pc 391 then (bif Nat.blt pc 387 then (bif Nat.blt pc 386 then (bif Nat.beq pc 384 then some (.istore 6, 2, 386, 6, 0, .null) else none) else (bif Nat.beq pc 386 then some (.aload_n 0, 1, 387, 0, 0, .null) else none)) else (bif Nat.blt pc 388 then (bif Nat.beq pc 387 then some (.iload_n 2, 1, 388, 2, 0, .null) else none) else (bif Nat.blt pc 390 then (bif Nat.beq pc 388 then some (.iload 4, 2, 390, 4, 0, .null) else none) else (bif Nat.beq pc 390 then some (.iconst 0, 1, 391, 0, 0, .int 0) else none)))) else (bif Nat.blt pc 397 then (bif Nat.blt pc 394 then (bif Nat.beq pc 391 then some (.invokestatic 324, 3, 394, 43, 2, .null) else none) else (bif Nat.beq pc 394 then some (.invokevirtual 328, 3, 397, 42, 2, .ref 0) else none)) else (bif Nat.blt pc 398 then (bif Nat.beq pc 397 then some (.aload_n 0, 1, 398, 0, 0, .null) else none) else (bif Nat.blt pc 400 then (bif Nat.beq pc 398 then some (.iload 4, 2, 400, 4, 0, .null) else none) else (bif Nat.beq pc 400 then some (.iload 5, 2, 402, 5, 0, .null) else none))))) else (bif Nat.blt pc 411 then (bif Nat.blt pc 406 then (bif Nat.blt pc 403 then (bif Nat.beq pc 402 then some (.iconst 0, 1, 403, 0, 0, .int 0) else none) else (bif Nat.beq pc 403 then some (.invokestatic 324, 3, 406, 43, 2, .null) else none)) else (bif Nat.blt pc 407 then (bif Nat.beq pc 406 then some (.iload_n 3, 1, 407, 3, 0, .null) else none) else (bif Nat.blt pc 410 then (bif Nat.beq pc 407 then some (.invokevirtual 362, 3, 410, 46, 3, .ref 0) else none) else (bif Nat.beq pc 410 then some (.aload_n 0, 1, 411, 0, 0, .null) else none)))) else (bif Nat.blt pc 414 then (bif Nat.blt pc 413 then (bif Nat.beq pc 411 then some (.iload 5, 2, 413, 5, 0, .null) else none) else (bif Nat.beq pc 413 then some (.iconst 3, 1, 414, 0, 0, .int 3) else none)) else (bif Nat.blt pc 417 then (bif Nat.beq pc 414 then some (.invokestatic 324, 3, 417, 43, 2, .null) else none) else (bif Nat.blt pc 419 then (bif Nat.beq pc 417 then some (.iload 6, 2, 419, 6, 0, .null) else none) else (bif Nat.beq pc 419 then some (.iconst 0, 1, 420, 0, 0, .int 0) else none)))))) else (bif Nat.blt pc 441 then (bif Nat.blt pc 431 then (bif Nat.blt pc 426 then (bif Nat.blt pc 423 then (bif Nat.beq pc 420 then some (.invokestatic 324, 3, 423, 43, 2, .null) else none) else (bif Nat.beq pc 423 then some (.invokevirtual 328, 3, 426, 42, 2, .ref 0) else none)) else (bif Nat.blt pc 427 then (bif Nat.beq pc 426 then some (.aload_n 0, 1, 427, 0, 0, .null) else none) else (bif Nat.blt pc 429 then (bif Nat.beq pc 427 then some (.iload 6, 2, 429, 6, 0, .null) else none) else (bif Nat.beq pc 429 then some (.iload 4, 2, 431, 4, 0, .null) else none)))) else (bif Nat.blt pc 435 then (bif Nat.blt pc 432 then (bif Nat.beq pc 431 then some (.iconst 0, 1, 432, 0, 0, .int 0) else none) else (bif Nat.beq pc 432 then some (.invokestatic 324, 3, 435, 43, 2, .null) else none)) else (bif Nat.blt pc 437 then (bif Nat.beq pc 435 then some (.iload 4, 2, 437, 4, 0, .null) else none) else (bif Nat.blt pc 438 then (bif Nat.beq pc 437 then some (.iconst 0, 1, 438, 0, 0, .int 0) else none) else (bif Nat.beq pc 438 then some (.invokestatic 324, 3, 441, 43, 2, .null) else none))))) else (bif Nat.blt pc 451 then (bif Nat.blt pc 447 then (bif Nat.blt pc 444 then (bif Nat.beq pc 441 then some (.invokevirtual 362, 3, 444, 46, 3, .ref 0) else none) else (bif Nat.beq pc 444 then some (.goto 216, 3, 447, 660, 0, .null) else none)) else (bif Nat.blt pc 448 then (bif Nat.beq pc 447 then some (.aload_n 0, 1, 448, 0, 0, .null) else none) else (bif Nat.blt pc 449 then (bif Nat.beq pc 448 then some (.iload_n 1, 1, 449, 1, 0, .null) else none) else (bif Nat.beq pc 449 then some (.iload 4, 2, 451, 4, 0, .null) else none)))) else (bif Nat.blt pc 455 then (bif Nat.blt pc 452 then (bif Nat.beq pc 451 then some (.iload_n 3, 1, 452, 3, 0, .null) else none) else (bif Nat.beq pc 452 then some (.invokevirtual 365, 3, 455, 52, 3, .ref 0) else none)) else (bif Nat.blt pc 458 then (bif Nat.beq pc 455 then some (.goto 205, 3, 458, 660, 0, .null) else none) else (bif Nat.blt pc 459 then (bif Nat.beq pc 458 then some (.aload_n 0, 1, 459, 0, 0, .null) else none) else (bif Nat.beq pc 459 then some (.getfield 54, 3, 462, 0, 16, .null) else none))))))) else (bif Nat.blt pc 494 then (bif Nat.blt pc 479 then (bif Nat.blt pc 469 then (bif Nat.blt pc 464 then (bif Nat.blt pc 463 then (bif Nat.beq pc 462 then some (.iload_n 1, 1, 463, 1, 0, .null) else none) else (bif Nat.beq pc 463 then some (.baload, 1, 464, 0, 0, .null) else none)) else (bif Nat.blt pc 467 then (bif Nat.beq pc 464 then some (.ifCond .eq 12, 3, 467, 476, 0, .null) else none) else (bif Nat.blt pc 468 then (bif Nat.beq pc 467 then some (.aload_n 0, 1, 468, 0, 0, .null) else none) else (bif Nat.beq pc 468 then some (.iload_n 1, 1, 469, 1, 0, .null) else none)))) else (bif Nat.blt pc 473 then (bif Nat.blt pc 470 then (bif Nat.beq pc 469 then some (.iconst 0, 1, 470, 0, 0, .int 0) else none) else (bif Nat.beq pc 470 then some (.invokevirtual 334, 3, 473, 47, 2, .ref 0) else none)) else (bif Nat.blt pc 476 then (bif Nat.beq pc 473 then some (.goto 4, 3, 476, 477, 0, .null) else none) else (bif Nat.blt pc 477 then (bif Nat.beq pc 476 then some (.iload_n 3, 1, 477, 3, 0, .null) else none) else (bif Nat.beq pc 477 then some (.istore 6, 2, 479, 6, 0, .null) else none))))) else (bif Nat.blt pc 485 then (bif Nat.blt pc 481 then (bif Nat.blt pc 480 then (bif Nat.beq pc 479 then some (.aload_n 0, 1, 480, 0, 0, .null) else none) else (bif Nat.beq pc 480 then some (.iload_n 1, 1, 481, 1, 0, .null) else none)) else (bif Nat.blt pc 482 then (bif Nat.beq pc 481 then some (.iconst 0, 1, 482, 0, 0, .int 0) else none) else (bif Nat.blt pc 483 then (bif Nat.beq pc 482 then some (.iload_n 2, 1, 483, 2, 0, .null) else none) else (bif Nat.beq pc 483 then some (.iload 6, 2, 485, 6, 0, .null) else none)))) else (bif Nat.blt pc 489 then (bif Nat.blt pc 488 then (bif Nat.beq pc 485 then some (.invokevirtual 346, 3, 488, 45, 4, .ref 0) else none) else (bif Nat.beq pc 488 then some (.aload_n 0, 1, 489, 0, 0, .null) else none)) else (bif Nat.blt pc 492 then (bif Nat.beq pc 489 then some (.getfield 51, 3, 492, 0, 15, .null) else none) else (bif Nat.blt pc 493 then (bif Nat.beq pc 492 then some (.iload_n 1, 1, 493, 1, 0, .null) else none) else (bif Nat.beq pc 493 then some (.baload, 1, 494, 0, 0, .null) else none)))))) else (bif Nat.blt pc 509 then (bif Nat.blt pc 503 then (bif Nat.blt pc 498 then (bif Nat.blt pc 497 then (bif Nat.beq pc 494 then some (.ifCond .eq 18, 3, 497, 512, 0, .null) else none) else (bif Nat.beq pc 497 then some (.aload_n 0, 1, 498, 0, 0, .null) else none)) else (bif Nat.blt pc 499 then (bif Nat.beq pc 498 then some (.iload_n 1, 1, 499, 1, 0, .null) else none) else (bif Nat.blt pc 500 then (bif Nat.beq pc 499 then some (.iconst 1, 1, 500, 0, 0, .int 1) else none) else (bif Nat.beq pc 500 then some (.sipush 1301, 3, 503, 0, 0, .int 1301) else none)))) else (bif Nat.blt pc 505 then (bif Nat.blt pc 504 then (bif Nat.beq pc 503 then some (.iconst 3, 1, 504, 0, 0, .int 3) else none) else (bif Nat.beq pc 504 then some (.iload_n 1, 1, 505, 1, 0, .null) else none)) else (bif Nat.blt pc 506 then (bif Nat.beq pc 505 then some (.imul, 1, 506, 0, 0, .null) else none) else (bif Nat.blt pc 507 then (bif Nat.beq pc 506 then some (.iadd, 1, 507, 0, 0, .null) else none) else (bif Nat.beq pc 507 then some (.iload 6, 2, 509, 6, 0, .null) else none))))) else (bif Nat.blt pc 518 then (bif Nat.blt pc 513 then (bif Nat.blt pc 512 then (bif Nat.beq pc 509 then some (.invokevirtual 346, 3, 512, 45, 4, .ref 0) else none) else (bif Nat.beq pc 512 then some (.aload_n 0, 1, 513, 0, 0, .null) else none)) else (bif Nat.blt pc 516 then (bif Nat.beq pc 513 then some (.getfield 54, 3, 516, 0, 16, .null) else none) else (bif Nat.blt pc 517 then (bif Nat.beq pc 516 then some (.iload_n 1, 1, 517, 1, 0, .null) else none) else (bif Nat.beq pc 517 then some (.baload, 1, 518, 0, 0, .null) else none)))) else (bif Nat.blt pc 522 then (bif Nat.blt pc 521 then (bif Nat.beq pc 518 then some (.ifCond .eq 142, 3, 521, 660, 0, .null) else none) else (bif Nat.beq pc 521 then some (.aload_n 0, 1, 522, 0, 0, .null) else none)) else (bif Nat.blt pc 523 then (bif Nat.beq pc 522 then some (.iload_n 1, 1, 523, 1, 0, .null) else none) else (bif Nat.blt pc 524 then (bif Nat.beq pc 523 then some (.iconst 2, 1, 524, 0, 0, .int 2) else none) else (bif Nat.beq pc 524 then some (.sipush 1301, 3, 527, 0, 0, .int 1301) else none)))))))) else (bif Nat.blt pc 592 then (bif Nat.blt pc 556 then (bif Nat.blt pc 539 then (bif Nat.blt pc 532 then (bif Nat.blt pc 529 then (bif Nat.blt pc 528 then (bif Nat.beq pc 527 then some (.iconst 3, 1, 528, 0, 0, .int 3) else none) else (bif Nat.beq pc 528 then some (.iload_n 1, 1, 529, 1, 0, .null) else none)) else (bif Nat.blt pc 530 then (bif Nat.beq pc 529 then some (.imul, 1, 530, 0, 0, .null) else none) else (bif Nat.blt pc 531 then (bif Nat.beq pc 530 then some (.iadd, 1, 531, 0, 0, .null) else none) else (bif Nat.beq pc 531 then some (.iconst 1, 1, 532, 0, 0, .int 1) else none)))) else (bif Nat.blt pc 536 then (bif Nat.blt pc 533 then (bif Nat.beq pc 532 then some (.iadd, 1, 533, 0, 0, .null) else none) else (bif Nat.beq pc 533 then some (.sipush 1301, 3, 536, 0, 0, .int 1301) else none)) else (bif Nat.blt pc 537 then (bif Nat.beq pc 536 then some (.iconst 3, 1, 537, 0, 0, .int 3) else none) else (bif Nat.blt pc 538 then (bif Nat.beq pc 537 then some (.iload_n 1, 1, 538, 1, 0, .null) else none) else (bif Nat.beq pc 538 then some (.imul, 1, 539, 0, 0, .null) else none))))) else (bif Nat.blt pc 548 then (bif Nat.blt pc 541 then (bif Nat.blt pc 540 then (bif Nat.beq pc 539 then some (.iadd, 1, 540, 0, 0, .null) else none) else (bif Nat.beq pc 540 then some (.iconst 2, 1, 541, 0, 0, .int 2) else none)) else (bif Nat.blt pc 542 then (bif Nat.beq pc 541 then some (.iadd, 1, 542, 0, 0, .null) else none) else (bif Nat.blt pc 545 then (bif Nat.beq pc 542 then some (.invokevirtual 346, 3, 545, 45, 4, .ref 0) else none) else (bif Nat.beq pc 545 then some (.goto 115, 3, 548, 660, 0, .null) else none)))) else (bif Nat.blt pc 552 then (bif Nat.blt pc 549 then (bif Nat.beq pc 548 then some (.aload_n 0, 1, 549, 0, 0, .null) else none) else (bif Nat.beq pc 549 then some (.getfield 13, 3, 552, 0, 3, .null) else none)) else (bif Nat.blt pc 553 then (bif Nat.beq pc 552 then some (.iload_n 1, 1, 553, 1, 0, .null) else none) else (bif Nat.blt pc 554 then (bif Nat.beq pc 553 then some (.iaload, 1, 554, 0, 0, .null) else none) else (bif Nat.beq pc 554 then some (.bipush 82, 2, 556, 0, 0, .int 82) else none)))))) else (bif Nat.blt pc 575 then (bif Nat.blt pc 567 then (bif Nat.blt pc 560 then (bif Nat.blt pc 559 then (bif Nat.beq pc 556 then some (.if_icmp .ne 7, 3, 559, 563, 0, .null) else none) else (bif Nat.beq pc 559 then some (.iconst 1, 1, 560, 0, 0, .int 1) else none)) else (bif Nat.blt pc 563 then (bif Nat.beq pc 560 then some (.goto 52, 3, 563, 612, 0, .null) else none) else (bif Nat.blt pc 564 then (bif Nat.beq pc 563 then some (.aload_n 0, 1, 564, 0, 0, .null) else none) else (bif Nat.beq pc 564 then some (.getfield 13, 3, 567, 0, 3, .null) else none)))) else (bif Nat.blt pc 569 then (bif Nat.blt pc 568 then (bif Nat.beq pc 567 then some (.iload_n 1, 1, 568, 1, 0, .null) else none) else (bif Nat.beq pc 568 then some (.iaload, 1, 569, 0, 0, .null) else none)) else (bif Nat.blt pc 571 then (bif Nat.beq pc 569 then some (.bipush 88, 2, 571, 0, 0, .int 88) else none) else (bif Nat.blt pc 574 then (bif Nat.beq pc 571 then some (.if_icmp .ne 7, 3, 574, 578, 0, .null) else none) else (bif Nat.beq pc 574 then some (.iconst 2, 1, 575, 0, 0, .int 2) else none))))) else (bif Nat.blt pc 584 then (bif Nat.blt pc 579 then (bif Nat.blt pc 578 then (bif Nat.beq pc 575 then some (.goto 37, 3, 578, 612, 0, .null) else none) else (bif Nat.beq pc 578 then some (.aload_n 0, 1, 579, 0, 0, .null) else none)) else (bif Nat.blt pc 582 then (bif Nat.beq pc 579 then some (.getfield 13, 3, 582, 0, 3, .null) else none) else (bif Nat.blt pc 583 then (bif Nat.beq pc 582 then some (.iload_n 1, 1, 583, 1, 0, .null) else none) else (bif Nat.beq pc 583 then some (.iaload, 1, 584, 0, 0, .null) else none)))) else (bif Nat.blt pc 589 then (bif Nat.blt pc 586 then (bif Nat.beq pc 584 then some (.bipush 66, 2, 586, 0, 0, .int 66) else none) else (bif Nat.beq pc 586 then some (.if_icmp .ne 16, 3, 589, 602, 0, .null) else none)) else (bif Nat.blt pc 590 then (bif Nat.beq pc 589 then some (.iconst 3, 1, 590, 0, 0, .int 3) else none) else (bif Nat.blt pc 591 then (bif Nat.beq pc 590 then some (.iconst 2, 1, 591, 0, 0, .int 2) else none) else (bif Nat.beq pc 591 then some (.aload_n 0, 1, 592, 0, 0, .null) else none))))))) else (bif Nat.blt pc 623 then (bif Nat.blt pc 608 then (bif Nat.blt pc 599 then (bif Nat.blt pc 596 then (bif Nat.blt pc 595 then (bif Nat.beq pc 592 then some (.getfield 42, 3, 595, 0, 12, .null) else none) else (bif Nat.beq pc 595 then some (.iload_n 1, 1, 596, 1, 0, .null) else none)) else (bif Nat.blt pc 597 then (bif Nat.beq pc 596 then some (.iaload, 1, 597, 0, 0, .null) else none) else (bif Nat.blt pc 598 then (bif Nat.beq pc 597 then some (.imul, 1, 598, 0, 0, .null) else none) else (bif Nat.beq pc 598 then some (.iadd, 1, 599, 0, 0, .null) else none)))) else (bif Nat.blt pc 603 then (bif Nat.blt pc 602 then (bif Nat.beq pc 599 then some (.goto 13, 3, 602, 612, 0, .null) else none) else (bif Nat.beq pc 602 then some (.iconst 4, 1, 603, 0, 0, .int 4) else none)) else (bif Nat.blt pc 604 then (bif Nat.beq pc 603 then some (.iconst 2, 1, 604, 0, 0, .int 2) else none) else (bif Nat.blt pc 605 then (bif Nat.beq pc 604 then some (.aload_n 0, 1, 605, 0, 0, .null) else none) else (bif Nat.beq pc 605 then some (.getfield 42, 3, 608, 0, 12, .null) else none))))) else (bif Nat.blt pc 614 then (bif Nat.blt pc 610 then (bif Nat.blt pc 609 then (bif Nat.beq pc 608 then some (.iload_n 1, 1, 609, 1, 0, .null) else none) else (bif Nat.beq pc 609 then some (.iaload, 1, 610, 0, 0, .null) else none)) else (bif Nat.blt pc 611 then (bif Nat.beq pc 610 then some (.imul, 1, 611, 0, 0, .null) else none) else (bif Nat.blt pc 612 then (bif Nat.beq pc 611 then some (.iadd, 1, 612, 0, 0, .null) else none) else (bif Nat.beq pc 612 then some (.istore 6, 2, 614, 6, 0, .null) else none)))) else (bif Nat.blt pc 616 then (bif Nat.blt pc 615 then (bif Nat.beq pc 614 then some (.aload_n 0, 1, 615, 0, 0, .null) else none) else (bif Nat.beq pc 615 then some (.iload_n 1, 1, 616, 1, 0, .null) else none)) else (bif Nat.blt pc 618 then (bif Nat.beq pc 616 then some (.iload 6, 2, 618, 6, 0, .null) else none) else (bif Nat.blt pc 621 then (bif Nat.beq pc 618 then some (.invokevirtual 359, 3, 621, 48, 2, .ref 0) else none) else (bif Nat.beq pc 621 then some (.istore 7, 2, 623, 7, 0, .null) else none)))))) else (bif Nat.blt pc 641 then (bif Nat.blt pc 631 then (bif Nat.blt pc 626 then (bif Nat.blt pc 625 then (bif Nat.beq pc 623 then some (.iload 4, 2, 625, 4, 0, .null) else none) else (bif Nat.beq pc 625 then some (.iconst (-1), 1, 626, 0, 0, .int (-1)) else none)) else (bif Nat.blt pc 629 then (bif Nat.beq pc 626 then some (.if_icmp .ne 13, 3, 629, 639, 0, .null) else none) else (bif Nat.blt pc 630 then (bif Nat.beq pc 629 then some (.aload_n 0, 1, 630, 0, 0, .null) else none) else (bif Nat.beq pc 630 then some (.iload_n 2, 1, 631, 2, 0, .null) else none)))) else (bif Nat.blt pc 636 then (bif Nat.blt pc 633 then (bif Nat.beq pc 631 then some (.iload 7, 2, 633, 7, 0, .null) else none) else (bif Nat.beq pc 633 then some (.invokevirtual 328, 3, 636, 42, 2, .ref 0) else none)) else (bif Nat.blt pc 639 then (bif Nat.beq pc 636 then some (.goto 24, 3, 639, 660, 0, .null) else none) else (bif Nat.blt pc 640 then (bif Nat.beq pc 639 then some (.aload_n 0, 1, 640, 0, 0, .null) else none) else (bif Nat.beq pc 640 then some (.iload_n 2, 1, 641, 2, 0, .null) else none))))) else (bif Nat.blt pc 651 then (bif Nat.blt pc 644 then (bif Nat.blt pc 643 then (bif Nat.beq pc 641 then some (.iload 4, 2, 643, 4, 0, .null) else none) else (bif Nat.beq pc 643 then some (.iconst 0, 1, 644, 0, 0, .int 0) else none)) else (bif Nat.blt pc 647 then (bif Nat.beq pc 644 then some (.invokestatic 324, 3, 647, 43, 2, .null) else none) else (bif Nat.blt pc 650 then (bif Nat.beq pc 647 then some (.invokevirtual 328, 3, 650, 42, 2, .ref 0) else none) else (bif Nat.beq pc 650 then some (.aload_n 0, 1, 651, 0, 0, .null) else none)))) else (bif Nat.blt pc 655 then (bif Nat.blt pc 653 then (bif Nat.beq pc 651 then some (.iload 4, 2, 653, 4, 0, .null) else none) else (bif Nat.beq pc 653 then some (.iload 7, 2, 655, 7, 0, .null) else none)) else (bif Nat.blt pc 657 then (bif Nat.beq pc 655 then some (.iload 7, 2, 657, 7, 0, .null) else none) else (bif Nat.blt pc 660 then (bif Nat.beq pc 657 then some (.invokevirtual 362, 3, 660, 46, 3, .ref 0) else none) else (bif Nat.beq pc 660 then some (.return_, 1, 661, 0, 0, .null) else none)))))))))
def rq_T51 (pc : Nat) : Option pv_I := bif Nat.blt pc 661 then rq_U51 pc else none
def rq_U52 (pc : Nat) : Option pv_I := bif Nat.blt pc 77 then (bif Nat.blt pc 38 then (bif Nat.blt pc 17 then (bif Nat.blt pc 7 then (bif Nat.blt pc 2 then (bif Nat.blt pc 1 then (bif Nat.beq pc 0 then some (.aload_n 0, 1, 1, 0, 0, .null) else none) else (bif Nat.beq pc 1 then some (.iload_n 1, 1, 2, 1, 0, .null) else none)) else (bif Nat.blt pc 3 then (bif Nat.beq pc 2 then some (.iconst 0, 1, 3, 0, 0, .int 0) else none) else (bif Nat.blt pc 6 then (bif Nat.beq pc 3 then some (.invokestatic 324, 3, 6, 43, 2, .null) else none) else (bif Nat.beq pc 6 then some (.iload_n 2, 1, 7, 2, 0, .null) else none)))) else (bif Nat.blt pc 11 then (bif Nat.blt pc 8 then (bif Nat.beq pc 7 then some (.iconst 0, 1, 8, 0, 0, .int 0) else none) else (bif Nat.beq pc 8 then some (.invokestatic 324, 3, 11, 43, 2, .null) else none)) else (bif Nat.blt pc 14 then (bif Nat.beq pc 11 then some (.invokevirtual 328, 3, 14, 42, 2, .ref 0) else none) else (bif Nat.blt pc 15 then (bif Nat.beq pc 14 then some (.iconst (-1), 1, 15, 0, 0, .int (-1)) else none) else (bif Nat.beq pc 15 then some (.istore 4, 2, 17, 4, 0, .null) else none))))) else (bif Nat.blt pc 26 then (bif Nat.blt pc 20 then (bif Nat.blt pc 18 then (bif Nat.beq pc 17 then some (.iconst 0, 1, 18, 0, 0, .int 0) else none) else (bif Nat.beq pc 18 then some (.istore 5, 2, 20, 5, 0, .null) else none)) else (bif Nat.blt pc 22 then (bif Nat.beq pc 20 then some (.iload 5, 2, 22, 5, 0, .null) else none) else (bif Nat.blt pc 23 then (bif Nat.beq pc 22 then some (.aload_n 0, 1, 23, 0, 0, .null) else none) else (bif Nat.beq pc 23 then some (.getfield 159, 3, 26, 0, 2, .null) else none)))) else (bif Nat.blt pc 33 then (bif Nat.blt pc 29 then (bif Nat.beq pc 26 then some (.if_icmp .ge 92, 3, 29, 118, 0, .null) else none) else (bif Nat.blt pc 30 then (bif Nat.beq pc 29 then some (.aload_n 0, 1, 30, 0, 0, .null) else none) else (bif Nat.beq pc 30 then some (.getfield 102, 3, 33, 0, 45, .null) else none))) else (bif Nat.blt pc 35 then (bif Nat.beq pc 33 then some (.iload 5, 2, 35, 5, 0, .null) else none) else (bif Nat.blt pc 36 then (bif Nat.beq pc 35 then some (.iaload, 1, 36, 0, 0, .null) else none) else (bif Nat.beq pc 36 then some (.istore 6, 2, 38, 6, 0, .null) else none)))))) else (bif Nat.blt pc 56 then (bif Nat.blt pc 48 then (bif Nat.blt pc 42 then (bif Nat.blt pc 39 then (bif Nat.beq pc 38 then some (.aload_n 0, 1, 39, 0, 0, .null) else none) else (bif Nat.beq pc 39 then some (.getfield 29, 3, 42, 0, 8, .null) else none)) else (bif Nat.blt pc 44 then (bif Nat.beq pc 42 then some (.iload 6, 2, 44, 6, 0, .null) else none) else (bif Nat.blt pc 45 then (bif Nat.beq pc 44 then some (.baload, 1, 45, 0, 0, .null) else none) else (bif Nat.beq pc 45 then some (.ifCond .eq 67, 3, 48, 112, 0, .null) else none)))) else (bif Nat.blt pc 52 then (bif Nat.blt pc 49 then (bif Nat.beq pc 48 then some (.aload_n 0, 1, 49, 0, 0, .null) else none) else (bif Nat.beq pc 49 then some (.getfield 20, 3, 52, 0, 5, .null) else none)) else (bif Nat.blt pc 54 then (bif Nat.beq pc 52 then some (.iload 6, 2, 54, 6, 0, .null) else none) else (bif Nat.blt pc 55 then (bif Nat.beq pc 54 then some (.iaload, 1, 55, 0, 0, .null) else none) else (bif Nat.beq pc 55 then some (.iload_n 1, 1, 56, 1, 0, .null) else none))))) else (bif Nat.blt pc 66 then (bif Nat.blt pc 60 then (bif Nat.blt pc 59 then (bif Nat.beq pc 56 then some (.if_icmp .ne 56, 3, 59, 112, 0, .null) else none) else (bif Nat.beq pc 59 then some (.aload_n 0, 1, 60, 0, 0, .null) else none)) else (bif Nat.blt pc 63 then (bif Nat.beq pc 60 then some (.getfield 45, 3, 63, 0, 13, .null) else none) else (bif Nat.blt pc 65 then (bif Nat.beq pc 63 then some (.iload 6, 2, 65, 6, 0, .null) else none) else (bif Nat.beq pc 65 then some (.baload, 1, 66, 0, 0, .null) else none)))) else (bif Nat.blt pc 71 then (bif Nat.blt pc 69 then (bif Nat.beq pc 66 then some (.ifCond .eq 20, 3, 69, 86, 0, .null) else none) else (bif Nat.blt pc 70 then (bif Nat.beq pc 69 then some (.aload_n 0, 1, 70, 0, 0, .null) else none) else (bif Nat.beq pc 70 then some (.iload_n 2, 1, 71, 2, 0, .null) else none))) else (bif Nat.blt pc 73 then (bif Nat.beq pc 71 then some (.iload 6, 2, 73, 6, 0, .null) else none) else (bif Nat.blt pc 74 then (bif Nat.beq pc 73 then some (.iconst 0, 1, 74, 0, 0, .int 0) else none) else (bif Nat.beq pc 74 then some (.invokestatic 324, 3, 77, 43, 2, .null) else none))))))) else (bif Nat.blt pc 121 then (bif Nat.blt pc 97 then (bif Nat.blt pc 88 then (bif Nat.blt pc 80 then (bif Nat.blt pc 79 then (bif Nat.beq pc 77 then some (.iload 6, 2, 79, 6, 0, .null) else none) else (bif Nat.beq pc 79 then some (.iconst 0, 1, 80, 0, 0, .int 0) else none)) else (bif Nat.blt pc 83 then (bif Nat.beq pc 80 then some (.invokestatic 324, 3, 83, 43, 2, .null) else none) else (bif Nat.blt pc 86 then (bif Nat.beq pc 83 then some (.invokevirtual 362, 3, 86, 46, 3, .ref 0) else none) else (bif Nat.beq pc 86 then some (.iload 4, 2, 88, 4, 0, .null) else none)))) else (bif Nat.blt pc 92 then (bif Nat.blt pc 89 then (bif Nat.beq pc 88 then some (.iconst (-1), 1, 89, 0, 0, .int (-1)) else none) else (bif Nat.beq pc 89 then some (.if_icmp .eq 15, 3, 92, 104, 0, .null) else none)) else (bif Nat.blt pc 93 then (bif Nat.beq pc 92 then some (.aload_n 0, 1, 93, 0, 0, .null) else none) else (bif Nat.blt pc 95 then (bif Nat.beq pc 93 then some (.iload 4, 2, 95, 4, 0, .null) else none) else (bif Nat.beq pc 95 then some (.iload 6, 2, 97, 6, 0, .null) else none))))) else (bif Nat.blt pc 107 then (bif Nat.blt pc 101 then (bif Nat.blt pc 98 then (bif Nat.beq pc 97 then some (.iconst 0, 1, 98, 0, 0, .int 0) else none) else (bif Nat.beq pc 98 then some (.invokestatic 324, 3, 101, 43, 2, .null) else none)) else (bif Nat.blt pc 104 then (bif Nat.beq pc 101 then some (.invokevirtual 328, 3, 104, 42, 2, .ref 0) else none) else (bif Nat.blt pc 106 then (bif Nat.beq pc 104 then some (.iload 6, 2, 106, 6, 0, .null) else none) else (bif Nat.beq pc 106 then some (.iconst 3, 1, 107, 0, 0, .int 3) else none)))) else (bif Nat.blt pc 115 then (bif Nat.blt pc 110 then (bif Nat.beq pc 107 then some (.invokestatic 324, 3, 110, 43, 2, .null) else none) else (bif Nat.blt pc 112 then (bif Nat.beq pc 110 then some (.istore 4, 2, 112, 4, 0, .null) else none) else (bif Nat.beq pc 112 then some (.iinc 5 1, 3, 115, 5, 0, .int 1) else none))) else (bif Nat.blt pc 118 then (bif Nat.beq pc 115 then some (.goto (-95), 3, 118, 20, 0, .null) else none) else (bif Nat.blt pc 120 then (bif Nat.beq pc 118 then some (.iload 4, 2, 120, 4, 0, .null) else none) else (bif Nat.beq pc 120 then some (.iconst (-1), 1, 121, 0, 0, .int (-1)) else none)))))) else (bif Nat.blt pc 140 then (bif Nat.blt pc 131 then (bif Nat.blt pc 125 then (bif Nat.blt pc 124 then (bif Nat.beq pc 121 then some (.if_icmp .eq 10, 3, 124, 131, 0, .null) else none) else (bif Nat.beq pc 124 then some (.aload_n 0, 1, 125, 0, 0, .null) else none)) else (bif Nat.blt pc 127 then (bif Nat.beq pc 125 then some (.iload 4, 2, 127, 4, 0, .null) else none) else (bif Nat.blt pc 128 then (bif Nat.beq pc 127 then some (.iload_n 3, 1, 128, 3, 0, .null) else none) else (bif Nat.beq pc 128 then some (.invokevirtual 328, 3, 131, 42, 2, .ref 0) else none)))) else (bif Nat.blt pc 135 then (bif Nat.blt pc 132 then (bif Nat.beq pc 131 then some (.aload_n 0, 1, 132, 0, 0, .null) else none) else (bif Nat.beq pc 132 then some (.getfield 93, 3, 135, 0, 42, .null) else none)) else (bif Nat.blt pc 136 then (bif Nat.beq pc 135 then some (.iload_n 1, 1, 136, 1, 0, .null) else none) else (bif Nat.blt pc 137 then (bif Nat.beq pc 136 then some (.baload, 1, 137, 0, 0, .null) else none) else (bif Nat.beq pc 137 then some (.ifCond .ne 12, 3, 140, 149, 0, .null) else none))))) else (bif Nat.blt pc 149 then (bif Nat.blt pc 144 then (bif Nat.blt pc 141 then (bif Nat.beq pc 140 then some (.aload_n 0, 1, 141, 0, 0, .null) else none) else (bif Nat.beq pc 141 then some (.getfield 48, 3, 144, 0, 14, .null) else none)) else (bif Nat.blt pc 145 then (bif Nat.beq pc 144 then some (.iload_n 1, 1, 145, 1, 0, .null) else none) else (bif Nat.blt pc 146 then (bif Nat.beq pc 145 then some (.baload, 1, 146, 0, 0, .null) else none) else (bif Nat.beq pc 146 then some (.ifCond .ne 10, 3, 149, 156, 0, .null) else none)))) else (bif Nat.blt pc 152 then (bif Nat.blt pc 150 then (bif Nat.beq pc 149 then some (.aload_n 0, 1, 150, 0, 0, .null) else none) else (bif Nat.blt pc 151 then (bif Nat.beq pc 150 then some (.iload_n 2, 1, 151, 2, 0, .null) else none) else (bif Nat.beq pc 151 then some (.iload_n 3, 1, 152, 3, 0, .null) else none))) else (bif Nat.blt pc 153 then (bif Nat.beq pc 152 then some (.iload_n 3, 1, 153, 3, 0, .null) else none) else (bif Nat.blt pc 156 then (bif Nat.beq pc 153 then some (.invokevirtual 362, 3, 156, 46, 3, .ref 0) else none) else (bif Nat.beq pc 156 then some (.return_, 1, 157, 0, 0, .null) else none)))))))
def rq_T52 (pc : Nat) : Option pv_I := bif Nat.blt pc 157 then rq_U52 pc else none
def rq_U53 (pc : Nat) : Option pv_I := bif Nat.blt pc 214 then (bif Nat.blt pc 131 then (bif Nat.blt pc 31 then (bif Nat.blt pc 14 then (bif Nat.blt pc 7 then (bif Nat.blt pc 2 then (bif Nat.blt pc 1 then (bif Nat.beq pc 0 then some (.iload_n 1, 1, 1, 1, 0, .null) else none) else (bif Nat.beq pc 1 then some (.iconst 0, 1, 2, 0, 0, .int 0) else none)) else (bif Nat.blt pc 5 then (bif Nat.beq pc 2 then some (.invokestatic 324, 3, 5, 43, 2, .null) else none) else (bif Nat.blt pc 6 then (bif Nat.beq pc 5 then some (.istore_n 2, 1, 6, 2, 0, .null) else none) else (bif Nat.beq pc 6 then some (.iload_n 1, 1, 7, 1, 0, .null) else none)))) else (bif Nat.blt pc 11 then (bif Nat.blt pc 8 then (bif Nat.beq pc 7 then some (.iconst 1, 1, 8, 0, 0, .int 1) else none) else (bif Nat.beq pc 8 then some (.invokestatic 324, 3, 11, 43, 2, .null) else none)) else (bif Nat.blt pc 12 then (bif Nat.beq pc 11 then some (.istore_n 3, 1, 12, 3, 0, .null) else none) else (bif Nat.blt pc 13 then (bif Nat.beq pc 12 then some (.iload_n 1, 1, 13, 1, 0, .null) else none) else (bif Nat.beq pc 13 then some (.iconst 2, 1, 14, 0, 0, .int 2) else none))))) else (bif Nat.blt pc 22 then (bif Nat.blt pc 19 then (bif Nat.blt pc 17 then (bif Nat.beq pc 14 then some (.invokestatic 324, 3, 17, 43, 2, .null) else none) else (bif Nat.beq pc 17 then some (.istore 4, 2, 19, 4, 0, .null) else none)) else (bif Nat.blt pc 20 then (bif Nat.beq pc 19 then some (.aload_n 0, 1, 20, 0, 0, .null) else none) else (bif Nat.blt pc 21 then (bif Nat.beq pc 20 then some (.iload_n 1, 1, 21, 1, 0, .null) else none) else (bif Nat.beq pc 21 then some (.iconst 0, 1, 22, 0, 0, .int 0) else none)))) else (bif Nat.blt pc 28 then (bif Nat.blt pc 23 then (bif Nat.beq pc 22 then some (.iconst 0, 1, 23, 0, 0, .int 0) else none) else (bif Nat.blt pc 26 then (bif Nat.beq pc 23 then some (.invokevirtual 337, 3, 26, 44, 3, .ref 0) else none) else (bif Nat.beq pc 26 then some (.istore 5, 2, 28, 5, 0, .null) else none))) else (bif Nat.blt pc 29 then (bif Nat.beq pc 28 then some (.aload_n 0, 1, 29, 0, 0, .null) else none) else (bif Nat.blt pc 30 then (bif Nat.beq pc 29 then some (.iload_n 1, 1, 30, 1, 0, .null) else none) else (bif Nat.beq pc 30 then some (.iconst 1, 1, 31, 0, 0, .int 1) else none)))))) else (bif Nat.blt pc 110 then (bif Nat.blt pc 41 then (bif Nat.blt pc 35 then (bif Nat.blt pc 32 then (bif Nat.beq pc 31 then some (.iconst 0, 1, 32, 0, 0, .int 0) else none) else (bif Nat.beq pc 32 then some (.invokevirtual 337, 3, 35, 44, 3, .ref 0) else none)) else (bif Nat.blt pc 37 then (bif Nat.beq pc 35 then some (.istore 6, 2, 37, 6, 0, .null) else none) else (bif Nat.blt pc 38 then (bif Nat.beq pc 37 then some (.aload_n 0, 1, 38, 0, 0, .null) else none) else (bif Nat.beq pc 38 then some (.getfield 13, 3, 41, 0, 3, .null) else none)))) else (bif Nat.blt pc 43 then (bif Nat.blt pc 42 then (bif Nat.beq pc 41 then some (.iload_n 1, 1, 42, 1, 0, .null) else none) else (bif Nat.beq pc 42 then some (.iaload, 1, 43, 0, 0, .null) else none)) else (bif Nat.blt pc 108 then (bif Nat.beq pc 43 then some (.lookupswitch 306 #[(33, 84), (38, 107), (48, 65), (49, 75), (61, 239), (63, 180), (124, 144)], 65, 108, 0, 0, .null) else none) else (bif Nat.blt pc 109 then (bif Nat.beq pc 108 then some (.aload_n 0, 1, 109, 0, 0, .null) else none) else (bif Nat.beq pc 109 then some (.iload_n 2, 1, 110, 2, 0, .null) else none))))) else (bif Nat.blt pc 120 then (bif Nat.blt pc 115 then (bif Nat.blt pc 112 then (bif Nat.beq pc 110 then some (.iload 4, 2, 112, 4, 0, .null) else none) else (bif Nat.beq pc 112 then some (.invokevirtual 328, 3, 115, 42, 2, .ref 0) else none)) else (bif Nat.blt pc 118 then (bif Nat.beq pc 115 then some (.goto 247, 3, 118, 362, 0, .null) else none) else (bif Nat.blt pc 119 then (bif Nat.beq pc 118 then some (.aload_n 0, 1, 119, 0, 0, .null) else none) else (bif Nat.beq pc 119 then some (.iload_n 2, 1, 120, 2, 0, .null) else none)))) else (bif Nat.blt pc 127 then (bif Nat.blt pc 121 then (bif Nat.beq pc 120 then some (.iload_n 3, 1, 121, 3, 0, .null) else none) else (bif Nat.blt pc 124 then (bif Nat.beq pc 121 then some (.invokevirtual 328, 3, 124, 42, 2, .ref 0) else none) else (bif Nat.beq pc 124 then some (.goto 238, 3, 127, 362, 0, .null) else none))) else (bif Nat.blt pc 128 then (bif Nat.beq pc 127 then some (.aload_n 0, 1, 128, 0, 0, .null) else none) else (bif Nat.blt pc 129 then (bif Nat.beq pc 128 then some (.iload_n 2, 1, 129, 2, 0, .null) else none) else (bif Nat.beq pc 129 then some (.iload 5, 2, 131, 5, 0, .null) else none))))))) else (bif Nat.blt pc 172 then (bif Nat.blt pc 151 then (bif Nat.blt pc 141 then (bif Nat.blt pc 135 then (bif Nat.blt pc 132 then (bif Nat.beq pc 131 then some (.iconst 0, 1, 132, 0, 0, .int 0) else none) else (bif Nat.beq pc 132 then some (.invokestatic 324, 3, 135, 43, 2, .null) else none)) else (bif Nat.blt pc 138 then (bif Nat.beq pc 135 then some (.invokevirtual 328, 3, 138, 42, 2, .ref 0) else none) else (bif Nat.blt pc 139 then (bif Nat.beq pc 138 then some (.aload_n 0, 1, 139, 0, 0, .null) else none) else (bif Nat.beq pc 139 then some (.iload 5, 2, 141, 5, 0, .null) else none)))) else (bif Nat.blt pc 144 then (bif Nat.blt pc 143 then (bif Nat.beq pc 141 then some (.iload 4, 2, 143, 4, 0, .null) else none) else (bif Nat.beq pc 143 then some (.iload_n 3, 1, 144, 3, 0, .null) else none)) else (bif Nat.blt pc 147 then (bif Nat.beq pc 144 then some (.invokevirtual 362, 3, 147, 46, 3, .ref 0) else none) else (bif Nat.blt pc 150 then (bif Nat.beq pc 147 then some (.goto 215, 3, 150, 362, 0, .null) else none) else (bif Nat.beq pc 150 then some (.aload_n 0, 1, 151, 0, 0, .null) else none))))) else (bif Nat.blt pc 161 then (bif Nat.blt pc 154 then (bif Nat.blt pc 152 then (bif Nat.beq pc 151 then some (.iload_n 2, 1, 152, 2, 0, .null) else none) else (bif Nat.beq pc 152 then some (.iload 5, 2, 154, 5, 0, .null) else none)) else (bif Nat.blt pc 155 then (bif Nat.beq pc 154 then some (.iconst 0, 1, 155, 0, 0, .int 0) else none) else (bif Nat.blt pc 158 then (bif Nat.beq pc 155 then some (.invokestatic 324, 3, 158, 43, 2, .null) else none) else (bif Nat.beq pc 158 then some (.invokevirtual 328, 3, 161, 42, 2, .ref 0) else none)))) else (bif Nat.blt pc 166 then (bif Nat.blt pc 162 then (bif Nat.beq pc 161 then some (.aload_n 0, 1, 162, 0, 0, .null) else none) else (bif Nat.blt pc 164 then (bif Nat.beq pc 162 then some (.iload 5, 2, 164, 5, 0, .null) else none) else (bif Nat.beq pc 164 then some (.iload 6, 2, 166, 6, 0, .null) else none))) else (bif Nat.blt pc 167 then (bif Nat.beq pc 166 then some (.iconst 0, 1, 167, 0, 0, .int 0) else none) else (bif Nat.blt pc 170 then (bif Nat.beq pc 167 then some (.invokestatic 324, 3, 170, 43, 2, .null) else none) else (bif Nat.beq pc 170 then some (.iload 4, 2, 172, 4, 0, .null) else none)))))) else (bif Nat.blt pc 192 then (bif Nat.blt pc 181 then (bif Nat.blt pc 176 then (bif Nat.blt pc 175 then (bif Nat.beq pc 172 then some (.invokevirtual 362, 3, 175, 46, 3, .ref 0) else none) else (bif Nat.beq pc 175 then some (.aload_n 0, 1, 176, 0, 0, .null) else none)) else (bif Nat.blt pc 178 then (bif Nat.beq pc 176 then some (.iload 6, 2, 178, 6, 0, .null) else none) else (bif Nat.blt pc 179 then (bif Nat.beq pc 178 then some (.iload_n 3, 1, 179, 3, 0, .null) else none) else (bif Nat.beq pc 179 then some (.iload 4, 2, 181, 4, 0, .null) else none)))) else (bif Nat.blt pc 188 then (bif Nat.blt pc 184 then (bif Nat.beq pc 181 then some (.invokevirtual 362, 3, 184, 46, 3, .ref 0) else none) else (bif Nat.blt pc 187 then (bif Nat.beq pc 184 then some (.goto 178, 3, 187, 362, 0, .null) else none) else (bif Nat.beq pc 187 then some (.aload_n 0, 1, 188, 0, 0, .null) else none))) else (bif Nat.blt pc 189 then (bif Nat.beq pc 188 then some (.iload_n 2, 1, 189, 2, 0, .null) else none) else (bif Nat.blt pc 191 then (bif Nat.beq pc 189 then some (.iload 5, 2, 191, 5, 0, .null) else none) else (bif Nat.beq pc 191 then some (.iconst 0, 1, 192, 0, 0, .int 0) else none))))) else (bif Nat.blt pc 202 then (bif Nat.blt pc 198 then (bif Nat.blt pc 195 then (bif Nat.beq pc 192 then some (.invokestatic 324, 3, 195, 43, 2, .null) else none) else (bif Nat.beq pc 195 then some (.invokevirtual 328, 3, 198, 42, 2, .ref 0) else none)) else (bif Nat.blt pc 199 then (bif Nat.beq pc 198 then some (.aload_n 0, 1, 199, 0, 0, .null) else none) else (bif Nat.blt pc 201 then (bif Nat.beq pc 199 then some (.iload 5, 2, 201, 5, 0, .null) else none) else (bif Nat.beq pc 201 then some (.iload_n 3, 1, 202, 3, 0, .null) else none)))) else (bif Nat.blt pc 208 then (bif Nat.blt pc 204 then (bif Nat.beq pc 202 then some (.iload 6, 2, 204, 6, 0, .null) else none) else (bif Nat.blt pc 205 then (bif Nat.beq pc 204 then some (.iconst 0, 1, 205, 0, 0, .int 0) else none) else (bif Nat.beq pc 205 then some (.invokestatic 324, 3, 208, 43, 2, .null) else none))) else (bif Nat.blt pc 211 then (bif Nat.beq pc 208 then some (.invokevirtual 362, 3, 211, 46, 3, .ref 0) else none) else (bif Nat.blt pc 212 then (bif Nat.beq pc 211 then some (.aload_n 0, 1, 212, 0, 0, .null) else none) else (bif Nat.beq pc 212 then some (.iload 6, 2, 214, 6, 0, .null) else none)))))))) else (bif Nat.blt pc 293 then (bif Nat.blt pc 252 then (bif Nat.blt pc 232 then (bif Nat.blt pc 224 then (bif Nat.blt pc 217 then (bif Nat.blt pc 215 then (bif Nat.beq pc 214 then some (.iload_n 3, 1, 215, 3, 0, .null) else none) else (bif Nat.beq pc 215 then some (.iload 4, 2, 217, 4, 0, .null) else none)) else (bif Nat.blt pc 220 then (bif Nat.beq pc 217 then some (.invokevirtual 362, 3, 220, 46, 3, .ref 0) else none) else (bif Nat.blt pc 223 then (bif Nat.beq pc 220 then some (.goto 142, 3, 223, 362, 0, .null) else none) else (bif Nat.beq pc 223 then some (.aload_n 0, 1, 224, 0, 0, .null) else none)))) else (bif Nat.blt pc 226 then (bif Nat.blt pc 225 then (bif Nat.beq pc 224 then some (.iload_n 1, 1, 225, 1, 0, .null) else none) else (bif Nat.beq pc 225 then some (.iconst 2, 1, 226, 0, 0, .int 2) else none)) else (bif Nat.blt pc 227 then (bif Nat.beq pc 226 then some (.iconst 0, 1, 227, 0, 0, .int 0) else none) else (bif Nat.blt pc 230 then (bif Nat.beq pc 227 then some (.invokevirtual 337, 3, 230, 44, 3, .ref 0) else none) else (bif Nat.beq pc 230 then some (.istore 7, 2, 232, 7, 0, .null) else none))))) else (bif Nat.blt pc 240 then (bif Nat.blt pc 234 then (bif Nat.blt pc 233 then (bif Nat.beq pc 232 then some (.aload_n 0, 1, 233, 0, 0, .null) else none) else (bif Nat.beq pc 233 then some (.iload_n 2, 1, 234, 2, 0, .null) else none)) else (bif Nat.blt pc 236 then (bif Nat.beq pc 234 then some (.iload 5, 2, 236, 5, 0, .null) else none) else (bif Nat.blt pc 237 then (bif Nat.beq pc 236 then some (.iconst 0, 1, 237, 0, 0, .int 0) else none) else (bif Nat.beq pc 237 then some (.invokestatic 324, 3, 240, 43, 2, .null) else none)))) else (bif Nat.blt pc 246 then (bif Nat.blt pc 243 then (bif Nat.beq pc 240 then some (.invokevirtual 328, 3, 243, 42, 2, .ref 0) else none) else (bif Nat.blt pc 244 then (bif Nat.beq pc 243 then some (.aload_n 0, 1, 244, 0, 0, .null) else none) else (bif Nat.beq pc 244 then some (.iload 5, 2, 246, 5, 0, .null) else none))) else (bif Nat.blt pc 248 then (bif Nat.beq pc 246 then some (.iload 6, 2, 248, 6, 0, .null) else none) else (bif Nat.blt pc 249 then (bif Nat.beq pc 248 then some (.iconst 0, 1, 249, 0, 0, .int 0) else none) else (bif Nat.beq pc 249 then some (.invokestatic 324, 3, 252, 43, 2, .null) else none)))))) else (bif Nat.blt pc 271 then (bif Nat.blt pc 262 then (bif Nat.blt pc 255 then (bif Nat.blt pc 254 then (bif Nat.beq pc 252 then some (.iload 7, 2, 254, 7, 0, .null) else none) else (bif Nat.beq pc 254 then some (.iconst 0, 1, 255, 0, 0, .int 0) else none)) else (bif Nat.blt pc 258 then (bif Nat.beq pc 255 then some (.invokestatic 324, 3, 258, 43, 2, .null) else none) else (bif Nat.blt pc 261 then (bif Nat.beq pc 258 then some (.invokevirtual 362, 3, 261, 46, 3, .ref 0) else none) else (bif Nat.beq pc 261 then some (.aload_n 0, 1, 262, 0, 0, .null) else none)))) else (bif Nat.blt pc 265 then (bif Nat.blt pc 264 then (bif Nat.beq pc 262 then some (.iload 6, 2, 264, 6, 0, .null) else none) else (bif Nat.beq pc 264 then some (.iload_n 3, 1, 265, 3, 0, .null) else none)) else (bif Nat.blt pc 267 then (bif Nat.beq pc 265 then some (.iload 4, 2, 267, 4, 0, .null) else none) else (bif Nat.blt pc 270 then (bif Nat.beq pc 267 then some (.invokevirtual 362, 3, 270, 46, 3, .ref 0) else none) else (bif Nat.beq pc 270 then some (.aload_n 0, 1, 271, 0, 0, .null) else none))))) else (bif Nat.blt pc 282 then (bif Nat.blt pc 274 then (bif Nat.blt pc 273 then (bif Nat.beq pc 271 then some (.iload 7, 2, 273, 7, 0, .null) else none) else (bif Nat.beq pc 273 then some (.iload_n 3, 1, 274, 3, 0, .null) else none)) else (bif Nat.blt pc 276 then (bif Nat.beq pc 274 then some (.iload 4, 2, 276, 4, 0, .null) else none) else (bif Nat.blt pc 279 then (bif Nat.beq pc 276 then some (.invokevirtual 362, 3, 279, 46, 3, .ref 0) else none) else (bif Nat.beq pc 279 then some (.goto 83, 3, 282, 362, 0, .null) else none)))) else (bif Nat.blt pc 286 then (bif Nat.blt pc 283 then (bif Nat.beq pc 282 then some (.aload_n 0, 1, 283, 0, 0, .null) else none) else (bif Nat.blt pc 284 then (bif Nat.beq pc 283 then some (.iload_n 2, 1, 284, 2, 0, .null) else none) else (bif Nat.beq pc 284 then some (.iload 5, 2, 286, 5, 0, .null) else none))) else (bif Nat.blt pc 287 then (bif Nat.beq pc 286 then some (.iconst 0, 1, 287, 0, 0, .int 0) else none) else (bif Nat.blt pc 290 then (bif Nat.beq pc 287 then some (.invokestatic 324, 3, 290, 43, 2, .null) else none) else (bif Nat.beq pc 290 then some (.invokevirtual 328, 3, 293, 42, 2, .ref 0) else none))))))) else (bif Nat.blt pc 327 then (bif Nat.blt pc 310 then (bif Nat.blt pc 301 then (bif Nat.blt pc 296 then (bif Nat.blt pc 294 then (bif Nat.beq pc 293 then some (.aload_n 0, 1, 294, 0, 0, .null) else none) else (bif Nat.beq pc 294 then some (.iload 5, 2, 296, 5, 0, .null) else none)) else (bif Nat.blt pc 297 then (bif Nat.beq pc 296 then some (.iload_n 1, 1, 297, 1, 0, .null) else none) else (bif Nat.blt pc 298 then (bif Nat.beq pc 297 then some (.iconst 3, 1, 298, 0, 0, .int 3) else none) else (bif Nat.beq pc 298 then some (.invokestatic 324, 3, 301, 43, 2, .null) else none)))) else (bif Nat.blt pc 303 then (bif Nat.blt pc 302 then (bif Nat.beq pc 301 then some (.iload_n 1, 1, 302, 1, 0, .null) else none) else (bif Nat.beq pc 302 then some (.iconst 4, 1, 303, 0, 0, .int 4) else none)) else (bif Nat.blt pc 306 then (bif Nat.beq pc 303 then some (.invokestatic 324, 3, 306, 43, 2, .null) else none) else (bif Nat.blt pc 309 then (bif Nat.beq pc 306 then some (.invokevirtual 362, 3, 309, 46, 3, .ref 0) else none) else (bif Nat.beq pc 309 then some (.aload_n 0, 1, 310, 0, 0, .null) else none))))) else (bif Nat.blt pc 317 then (bif Nat.blt pc 312 then (bif Nat.blt pc 311 then (bif Nat.beq pc 310 then some (.iload_n 1, 1, 311, 1, 0, .null) else none) else (bif Nat.beq pc 311 then some (.iconst 3, 1, 312, 0, 0, .int 3) else none)) else (bif Nat.blt pc 315 then (bif Nat.beq pc 312 then some (.invokestatic 324, 3, 315, 43, 2, .null) else none) else (bif Nat.blt pc 316 then (bif Nat.beq pc 315 then some (.iload_n 3, 1, 316, 3, 0, .null) else none) else (bif Nat.beq pc 316 then some (.iconst 1, 1, 317, 0, 0, .int 1) else none)))) else (bif Nat.blt pc 322 then (bif Nat.blt pc 318 then (bif Nat.beq pc 317 then some (.aload_n 0, 1, 318, 0, 0, .null) else none) else (bif Nat.blt pc 321 then (bif Nat.beq pc 318 then some (.getfield 26, 3, 321, 0, 7, .null) else none) else (bif Nat.beq pc 321 then some (.iload_n 1, 1, 322, 1, 0, .null) else none))) else (bif Nat.blt pc 323 then (bif Nat.beq pc 322 then some (.iaload, 1, 323, 0, 0, .null) else none) else (bif Nat.blt pc 324 then (bif Nat.beq pc 323 then some (.iadd, 1, 324, 0, 0, .null) else none) else (bif Nat.beq pc 324 then some (.invokevirtual 320, 3, 327, 41, 3, .ref 0) else none)))))) else (bif Nat.blt pc 343 then (bif Nat.blt pc 335 then (bif Nat.blt pc 329 then (bif Nat.blt pc 328 then (bif Nat.beq pc 327 then some (.aload_n 0, 1, 328, 0, 0, .null) else none) else (bif Nat.beq pc 328 then some (.iload_n 1, 1, 329, 1, 0, .null) else none)) else (bif Nat.blt pc 330 then (bif Nat.beq pc 329 then some (.iconst 4, 1, 330, 0, 0, .int 4) else none) else (bif Nat.blt pc 333 then (bif Nat.beq pc 330 then some (.invokestatic 324, 3, 333, 43, 2, .null) else none) else (bif Nat.beq pc 333 then some (.iload 4, 2, 335, 4, 0, .null) else none)))) else (bif Nat.blt pc 340 then (bif Nat.blt pc 336 then (bif Nat.beq pc 335 then some (.iconst 1, 1, 336, 0, 0, .int 1) else none) else (bif Nat.blt pc 337 then (bif Nat.beq pc 336 then some (.aload_n 0, 1, 337, 0, 0, .null) else none) else (bif Nat.beq pc 337 then some (.getfield 26, 3, 340, 0, 7, .null) else none))) else (bif Nat.blt pc 341 then (bif Nat.beq pc 340 then some (.iload_n 1, 1, 341, 1, 0, .null) else none) else (bif Nat.blt pc 342 then (bif Nat.beq pc 341 then some (.iaload, 1, 342, 0, 0, .null) else none) else (bif Nat.beq pc 342 then some (.iadd, 1, 343, 0, 0, .null) else none))))) else (bif Nat.blt pc 352 then (bif Nat.blt pc 349 then (bif Nat.blt pc 346 then (bif Nat.beq pc 343 then some (.invokevirtual 320, 3, 346, 41, 3, .ref 0) else none) else (bif Nat.beq pc 346 then some (.goto 16, 3, 349, 362, 0, .null) else none)) else (bif Nat.blt pc 350 then (bif Nat.beq pc 349 then some (.aload_n 0, 1, 350, 0, 0, .null) else none) else (bif Nat.blt pc 351 then (bif Nat.beq pc 350 then some (.iload_n 2, 1, 351, 2, 0, .null) else none) else (bif Nat.beq pc 351 then some (.iload_n 3, 1, 352, 3, 0, .null) else none)))) else (bif Nat.blt pc 357 then (bif Nat.blt pc 355 then (bif Nat.beq pc 352 then some (.invokevirtual 328, 3, 355, 42, 2, .ref 0) else none) else (bif Nat.blt pc 356 then (bif Nat.beq pc 355 then some (.aload_n 0, 1, 356, 0, 0, .null) else none) else (bif Nat.beq pc 356 then some (.iload_n 2, 1, 357, 2, 0, .null) else none))) else (bif Nat.blt pc 359 then (bif Nat.beq pc 357 then some (.iload 4, 2, 359, 4, 0, .null) else none) else (bif Nat.blt pc 362 then (bif Nat.beq pc 359 then some (.invokevirtual 328, 3, 362, 42, 2, .ref 0) else none) else (bif Nat.beq pc 362 then some (.return_, 1, 363, 0, 0, .null) else none))))))))
def rq_T53 (pc : Nat) : Option pv_I := bif Nat.blt pc 363 then rq_U53 pc else none
def rq_U54 (pc : Nat) : Option pv_I := bif Nat.blt pc 23 then (bif Nat.blt pc 10 then (bif Nat.blt pc 4 then (bif Nat.blt pc 2 then (bif Nat.blt pc 1 then (bif Nat.beq pc 0 then some (.aload_n 1, 1, 1, 1, 0, .null) else none) else (bif Nat.beq pc 1 then some (.iload_n 2, 1, 2, 2, 0, .null) else none)) else (bif Nat.blt pc 3 then (bif Nat.beq pc 2 then some (.iload_n 3, 1, 3, 3, 0, .null) else none) else (bif Nat.beq pc 3 then some (.iadd, 1, 4, 0, 0, .null) else none))) else (bif Nat.blt pc 7 then (bif Nat.blt pc 5 then (bif Nat.beq pc 4 then some (.baload, 1, 5, 0, 0, .null) else none) else (bif Nat.beq pc 5 then some (.iload 4, 2, 7, 4, 0, .null) else none)) else (bif Nat.blt pc 8 then (bif Nat.beq pc 7 then some (.ishr, 1, 8, 0, 0, .null) else none) else (bif Nat.blt pc 9 then (bif Nat.beq pc 8 then some (.iconst 1, 1, 9, 0, 0, .int 1) else none) else (bif Nat.beq pc 9 then some (.iand, 1, 10, 0, 0, .null) else none))))) else (bif Nat.blt pc 17 then (bif Nat.blt pc 14 then (bif Nat.blt pc 13 then (bif Nat.beq pc 10 then some (.ifCond .ne 41, 3, 13, 51, 0, .null) else none) else (bif Nat.beq pc 13 then some (.aload_n 1, 1, 14, 1, 0, .null) else none)) else (bif Nat.blt pc 15 then (bif Nat.beq pc 14 then some (.iload_n 2, 1, 15, 2, 0, .null) else none) else (bif Nat.blt pc 16 then (bif Nat.beq pc 15 then some (.iload_n 3, 1, 16, 3, 0, .null) else none) else (bif Nat.beq pc 16 then some (.iadd, 1, 17, 0, 0, .null) else none)))) else (bif Nat.blt pc 19 then (bif Nat.blt pc 18 then (bif Nat.beq pc 17 then some (.dup2, 1, 18, 0, 0, .null) else none) else (bif Nat.beq pc 18 then some (.baload, 1, 19, 0, 0, .null) else none)) else (bif Nat.blt pc 20 then (bif Nat.beq pc 19 then some (.iconst 1, 1, 20, 0, 0, .int 1) else none) else (bif Nat.blt pc 22 then (bif Nat.beq pc 20 then some (.iload 4, 2, 22, 4, 0, .null) else none) else (bif Nat.beq pc 22 then some (.ishl, 1, 23, 0, 0, .null) else none)))))) else (bif Nat.blt pc 37 then (bif Nat.blt pc 30 then (bif Nat.blt pc 25 then (bif Nat.blt pc 24 then (bif Nat.beq pc 23 then some (.ior, 1, 24, 0, 0, .null) else none) else (bif Nat.beq pc 24 then some (.i2b, 1, 25, 0, 0, .null) else none)) else (bif Nat.blt pc 26 then (bif Nat.beq pc 25 then some (.bastore, 1, 26, 0, 0, .null) else none) else (bif Nat.blt pc 27 then (bif Nat.beq pc 26 then some (.aload_n 0, 1, 27, 0, 0, .null) else none) else (bif Nat.beq pc 27 then some (.getfield 136, 3, 30, 0, 59, .null) else none)))) else (bif Nat.blt pc 34 then (bif Nat.blt pc 31 then (bif Nat.beq pc 30 then some (.aload_n 0, 1, 31, 0, 0, .null) else none) else (bif Nat.beq pc 31 then some (.getfield 368, 3, 34, 0, 60, .null) else none)) else (bif Nat.blt pc 35 then (bif Nat.beq pc 34 then some (.iconst 2, 1, 35, 0, 0, .int 2) else none) else (bif Nat.blt pc 36 then (bif Nat.beq pc 35 then some (.iload_n 3, 1, 36, 3, 0, .null) else none) else (bif Nat.beq pc 36 then some (.imul, 1, 37, 0, 0, .null) else none))))) else (bif Nat.blt pc 43 then (bif Nat.blt pc 40 then (bif Nat.blt pc 39 then (bif Nat.beq pc 37 then some (.iload 4, 2, 39, 4, 0, .null) else none) else (bif Nat.beq pc 39 then some (.iadd, 1, 40, 0, 0, .null) else none)) else (bif Nat.blt pc 41 then (bif Nat.beq pc 40 then some (.iastore, 1, 41, 0, 0, .null) else none) else (bif Nat.blt pc 42 then (bif Nat.beq pc 41 then some (.aload_n 0, 1, 42, 0, 0, .null) else none) else (bif Nat.beq pc 42 then some (.dup, 1, 43, 0, 0, .null) else none)))) else (bif Nat.blt pc 47 then (bif Nat.blt pc 46 then (bif Nat.beq pc 43 then some (.getfield 368, 3, 46, 0, 60, .null) else none) else (bif Nat.beq pc 46 then some (.iconst 1, 1, 47, 0, 0, .int 1) else none)) else (bif Nat.blt pc 48 then (bif Nat.beq pc 47 then some (.iadd, 1, 48, 0, 0, .null) else none) else (bif Nat.blt pc 51 then (bif Nat.beq pc 48 then some (.putfield 368, 3, 51, 0, 60, .null) else none) else (bif Nat.beq pc 51 then some (.return_, 1, 52, 0, 0, .null) else none))))))
def rq_T54 (pc : Nat) : Option pv_I := bif Nat.blt pc 52 then rq_U54 pc else none
def rq_U55 (pc : Nat) : Option pv_I := bif Nat.blt pc 78 then (bif Nat.blt pc 39 then (bif Nat.blt pc 20 then (bif Nat.blt pc 11 then (bif Nat.blt pc 4 then (bif Nat.blt pc 1 then (bif Nat.beq pc 0 then some (.iload_n 1, 1, 1, 1, 0, .null) else none) else (bif Nat.beq pc 1 then some (.sipush 1301, 3, 4, 0, 0, .int 1301) else none)) else (bif Nat.blt pc 7 then (bif Nat.beq pc 4 then some (.if_icmp .lt 37, 3, 7, 41, 0, .null) else none) else (bif Nat.blt pc 8 then (bif Nat.beq pc 7 then some (.iload_n 1, 1, 8, 1, 0, .null) else none) else (bif Nat.beq pc 8 then some (.sipush 2100, 3, 11, 0, 0, .int 2100) else none)))) else (bif Nat.blt pc 15 then (bif Nat.blt pc 14 then (bif Nat.beq pc 11 then some (.if_icmp .ge 30, 3, 14, 41, 0, .null) else none) else (bif Nat.beq pc 14 then some (.iload_n 1, 1, 15, 1, 0, .null) else none)) else (bif Nat.blt pc 18 then (bif Nat.beq pc 15 then some (.sipush 1301, 3, 18, 0, 0, .int 1301) else none) else (bif Nat.blt pc 19 then (bif Nat.beq pc 18 then some (.isub, 1, 19, 0, 0, .null) else none) else (bif Nat.beq pc 19 then some (.iconst 3, 1, 20, 0, 0, .int 3) else none))))) else (bif Nat.blt pc 29 then (bif Nat.blt pc 22 then (bif Nat.blt pc 21 then (bif Nat.beq pc 20 then some (.idiv, 1, 21, 0, 0, .null) else none) else (bif Nat.beq pc 21 then some (.iload_n 2, 1, 22, 2, 0, .null) else none)) else (bif Nat.blt pc 25 then (bif Nat.beq pc 22 then some (.if_icmp .ne 19, 3, 25, 41, 0, .null) else none) else (bif Nat.blt pc 26 then (bif Nat.beq pc 25 then some (.iload_n 1, 1, 26, 1, 0, .null) else none) else (bif Nat.beq pc 26 then some (.sipush 1301, 3, 29, 0, 0, .int 1301) else none)))) else (bif Nat.blt pc 32 then (bif Nat.blt pc 30 then (bif Nat.beq pc 29 then some (.isub, 1, 30, 0, 0, .null) else none) else (bif Nat.blt pc 31 then (bif Nat.beq pc 30 then some (.iconst 3, 1, 31, 0, 0, .int 3) else none) else (bif Nat.beq pc 31 then some (.irem, 1, 32, 0, 0, .null) else none))) else (bif Nat.blt pc 35 then (bif Nat.beq pc 32 then some (.ifCond .le 7, 3, 35, 39, 0, .null) else none) else (bif Nat.blt pc 36 then (bif Nat.beq pc 35 then some (.iconst 1, 1, 36, 0, 0, .int 1) else none) else (bif Nat.beq pc 36 then some (.goto 4, 3, 39, 40, 0, .null) else none)))))) else (bif Nat.blt pc 55 then (bif Nat.blt pc 48 then (bif Nat.blt pc 41 then (bif Nat.blt pc 40 then (bif Nat.beq pc 39 then some (.iconst 0, 1, 40, 0, 0, .int 0) else none) else (bif Nat.beq pc 40 then some (.ireturn, 1, 41, 0, 0, .null) else none)) else (bif Nat.blt pc 42 then (bif Nat.beq pc 41 then some (.iload_n 1, 1, 42, 1, 0, .null) else none) else (bif Nat.blt pc 45 then (bif Nat.beq pc 42 then some (.sipush 1300, 3, 45, 0, 0, .int 1300) else none) else (bif Nat.beq pc 45 then some (.if_icmp .ge 9, 3, 48, 54, 0, .null) else none)))) else (bif Nat.blt pc 50 then (bif Nat.blt pc 49 then (bif Nat.beq pc 48 then some (.iload_n 1, 1, 49, 1, 0, .null) else none) else (bif Nat.beq pc 49 then some (.iconst 5, 1, 50, 0, 0, .int 5) else none)) else (bif Nat.blt pc 51 then (bif Nat.beq pc 50 then some (.idiv, 1, 51, 0, 0, .null) else none) else (bif Nat.blt pc 54 then (bif Nat.beq pc 51 then some (.goto 55, 3, 54, 106, 0, .null) else none) else (bif Nat.beq pc 54 then some (.iload_n 1, 1, 55, 1, 0, .null) else none))))) else (bif Nat.blt pc 68 then (bif Nat.blt pc 61 then (bif Nat.blt pc 58 then (bif Nat.beq pc 55 then some (.sipush 1301, 3, 58, 0, 0, .int 1301) else none) else (bif Nat.beq pc 58 then some (.if_icmp .lt 20, 3, 61, 78, 0, .null) else none)) else (bif Nat.blt pc 62 then (bif Nat.beq pc 61 then some (.iload_n 1, 1, 62, 1, 0, .null) else none) else (bif Nat.blt pc 65 then (bif Nat.beq pc 62 then some (.sipush 2100, 3, 65, 0, 0, .int 2100) else none) else (bif Nat.beq pc 65 then some (.if_icmp .ge 13, 3, 68, 78, 0, .null) else none)))) else (bif Nat.blt pc 73 then (bif Nat.blt pc 69 then (bif Nat.beq pc 68 then some (.iload_n 1, 1, 69, 1, 0, .null) else none) else (bif Nat.blt pc 72 then (bif Nat.beq pc 69 then some (.sipush 1301, 3, 72, 0, 0, .int 1301) else none) else (bif Nat.beq pc 72 then some (.isub, 1, 73, 0, 0, .null) else none))) else (bif Nat.blt pc 74 then (bif Nat.beq pc 73 then some (.iconst 3, 1, 74, 0, 0, .int 3) else none) else (bif Nat.blt pc 75 then (bif Nat.beq pc 74 then some (.idiv, 1, 75, 0, 0, .null) else none) else (bif Nat.beq pc 75 then some (.goto 31, 3, 78, 106, 0, .null) else none))))))) else (bif Nat.blt pc 117 then (bif Nat.blt pc 100 then (bif Nat.blt pc 89 then (bif Nat.blt pc 82 then (bif Nat.blt pc 79 then (bif Nat.beq pc 78 then some (.iload_n 1, 1, 79, 1, 0, .null) else none) else (bif Nat.beq pc 79 then some (.sipush 2100, 3, 82, 0, 0, .int 2100) else none)) else (bif Nat.blt pc 85 then (bif Nat.beq pc 82 then some (.if_icmp .lt 23, 3, 85, 105, 0, .null) else none) else (bif Nat.blt pc 86 then (bif Nat.beq pc 85 then some (.iload_n 1, 1, 86, 1, 0, .null) else none) else (bif Nat.beq pc 86 then some (.sipush 3599, 3, 89, 0, 0, .int 3599) else none)))) else (bif Nat.blt pc 93 then (bif Nat.blt pc 92 then (bif Nat.beq pc 89 then some (.if_icmp .ge 16, 3, 92, 105, 0, .null) else none) else (bif Nat.beq pc 92 then some (.aload_n 0, 1, 93, 0, 0, .null) else none)) else (bif Nat.blt pc 96 then (bif Nat.beq pc 93 then some (.getfield 117, 3, 96, 0, 52, .null) else none) else (bif Nat.blt pc 97 then (bif Nat.beq pc 96 then some (.iload_n 1, 1, 97, 1, 0, .null) else none) else (bif Nat.beq pc 97 then some (.sipush 2100, 3, 100, 0, 0, .int 2100) else none))))) else (bif Nat.blt pc 107 then (bif Nat.blt pc 102 then (bif Nat.blt pc 101 then (bif Nat.beq pc 100 then some (.isub, 1, 101, 0, 0, .null) else none) else (bif Nat.beq pc 101 then some (.iaload, 1, 102, 0, 0, .null) else none)) else (bif Nat.blt pc 105 then (bif Nat.beq pc 102 then some (.goto 4, 3, 105, 106, 0, .null) else none) else (bif Nat.blt pc 106 then (bif Nat.beq pc 105 then some (.iconst (-1), 1, 106, 0, 0, .int (-1)) else none) else (bif Nat.beq pc 106 then some (.istore_n 3, 1, 107, 3, 0, .null) else none)))) else (bif Nat.blt pc 112 then (bif Nat.blt pc 108 then (bif Nat.beq pc 107 then some (.iload_n 3, 1, 108, 3, 0, .null) else none) else (bif Nat.blt pc 109 then (bif Nat.beq pc 108 then some (.iconst (-1), 1, 109, 0, 0, .int (-1)) else none) else (bif Nat.beq pc 109 then some (.if_icmp .eq 23, 3, 112, 132, 0, .null) else none))) else (bif Nat.blt pc 113 then (bif Nat.beq pc 112 then some (.aload_n 0, 1, 113, 0, 0, .null) else none) else (bif Nat.blt pc 116 then (bif Nat.beq pc 113 then some (.getfield 20, 3, 116, 0, 5, .null) else none) else (bif Nat.beq pc 116 then some (.iload_n 3, 1, 117, 3, 0, .null) else none)))))) else (bif Nat.blt pc 134 then (bif Nat.blt pc 126 then (bif Nat.blt pc 119 then (bif Nat.blt pc 118 then (bif Nat.beq pc 117 then some (.iaload, 1, 118, 0, 0, .null) else none) else (bif Nat.beq pc 118 then some (.iload_n 2, 1, 119, 2, 0, .null) else none)) else (bif Nat.blt pc 122 then (bif Nat.beq pc 119 then some (.if_icmp .eq 13, 3, 122, 132, 0, .null) else none) else (bif Nat.blt pc 123 then (bif Nat.beq pc 122 then some (.aload_n 0, 1, 123, 0, 0, .null) else none) else (bif Nat.beq pc 123 then some (.getfield 20, 3, 126, 0, 5, .null) else none)))) else (bif Nat.blt pc 129 then (bif Nat.blt pc 127 then (bif Nat.beq pc 126 then some (.iload_n 3, 1, 127, 3, 0, .null) else none) else (bif Nat.blt pc 128 then (bif Nat.beq pc 127 then some (.iaload, 1, 128, 0, 0, .null) else none) else (bif Nat.beq pc 128 then some (.istore_n 3, 1, 129, 3, 0, .null) else none))) else (bif Nat.blt pc 132 then (bif Nat.beq pc 129 then some (.goto (-22), 3, 132, 107, 0, .null) else none) else (bif Nat.blt pc 133 then (bif Nat.beq pc 132 then some (.iload_n 3, 1, 133, 3, 0, .null) else none) else (bif Nat.beq pc 133 then some (.iconst (-1), 1, 134, 0, 0, .int (-1)) else none))))) else (bif Nat.blt pc 143 then (bif Nat.blt pc 138 then (bif Nat.blt pc 137 then (bif Nat.beq pc 134 then some (.if_icmp .eq 17, 3, 137, 151, 0, .null) else none) else (bif Nat.beq pc 137 then some (.aload_n 0, 1, 138, 0, 0, .null) else none)) else (bif Nat.blt pc 141 then (bif Nat.beq pc 138 then some (.getfield 23, 3, 141, 0, 6, .null) else none) else (bif Nat.blt pc 142 then (bif Nat.beq pc 141 then some (.iload_n 3, 1, 142, 3, 0, .null) else none) else (bif Nat.beq pc 142 then some (.iaload, 1, 143, 0, 0, .null) else none)))) else (bif Nat.blt pc 148 then (bif Nat.blt pc 144 then (bif Nat.beq pc 143 then some (.iconst 2, 1, 144, 0, 0, .int 2) else none) else (bif Nat.blt pc 147 then (bif Nat.beq pc 144 then some (.if_icmp .ne 7, 3, 147, 151, 0, .null) else none) else (bif Nat.beq pc 147 then some (.iconst 1, 1, 148, 0, 0, .int 1) else none))) else (bif Nat.blt pc 151 then (bif Nat.beq pc 148 then some (.goto 4, 3, 151, 152, 0, .null) else none) else (bif Nat.blt pc 152 then (bif Nat.beq pc 151 then some (.iconst 0, 1, 152, 0, 0, .int 0) else none) else (bif Nat.beq pc 152 then some (.ireturn, 1, 153, 0, 0, .null) else none)))))))
def rq_T55 (pc : Nat) : Option pv_I := bif Nat.blt pc 153 then rq_U55 pc else none
def rq_U56 (pc : Nat) : Option pv_I := bif Nat.blt pc 131 then (bif Nat.blt pc 66 then (bif Nat.blt pc 31 then (bif Nat.blt pc 17 then (bif Nat.blt pc 8 then (bif Nat.blt pc 4 then (bif Nat.blt pc 1 then (bif Nat.beq pc 0 then some (.aload_n 0, 1, 1, 0, 0, .null) else none) else (bif Nat.beq pc 1 then some (.getfield 368, 3, 4, 0, 60, .null) else none)) else (bif Nat.blt pc 7 then (bif Nat.beq pc 4 then some (.ifCond .le 261, 3, 7, 265, 0, .null) else none) else (bif Nat.beq pc 7 then some (.aload_n 0, 1, 8, 0, 0, .null) else none))) else (bif Nat.blt pc 12 then (bif Nat.blt pc 9 then (bif Nat.beq pc 8 then some (.dup, 1, 9, 0, 0, .null) else none) else (bif Nat.beq pc 9 then some (.getfield 368, 3, 12, 0, 60, .null) else none)) else (bif Nat.blt pc 13 then (bif Nat.beq pc 12 then some (.iconst 1, 1, 13, 0, 0, .int 1) else none) else (bif Nat.blt pc 14 then (bif Nat.beq pc 13 then some (.isub, 1, 14, 0, 0, .null) else none) else (bif Nat.beq pc 14 then some (.putfield 368, 3, 17, 0, 60, .null) else none))))) else (bif Nat.blt pc 25 then (bif Nat.blt pc 21 then (bif Nat.blt pc 18 then (bif Nat.beq pc 17 then some (.aload_n 0, 1, 18, 0, 0, .null) else none) else (bif Nat.beq pc 18 then some (.getfield 136, 3, 21, 0, 59, .null) else none)) else (bif Nat.blt pc 22 then (bif Nat.beq pc 21 then some (.aload_n 0, 1, 22, 0, 0, .null) else none) else (bif Nat.beq pc 22 then some (.getfield 368, 3, 25, 0, 60, .null) else none))) else (bif Nat.blt pc 27 then (bif Nat.blt pc 26 then (bif Nat.beq pc 25 then some (.iaload, 1, 26, 0, 0, .null) else none) else (bif Nat.beq pc 26 then some (.iconst 2, 1, 27, 0, 0, .int 2) else none)) else (bif Nat.blt pc 28 then (bif Nat.beq pc 27 then some (.idiv, 1, 28, 0, 0, .null) else none) else (bif Nat.blt pc 30 then (bif Nat.beq pc 28 then some (.istore 5, 2, 30, 5, 0, .null) else none) else (bif Nat.beq pc 30 then some (.aload_n 0, 1, 31, 0, 0, .null) else none)))))) else (bif Nat.blt pc 46 then (bif Nat.blt pc 39 then (bif Nat.blt pc 35 then (bif Nat.blt pc 34 then (bif Nat.beq pc 31 then some (.getfield 136, 3, 34, 0, 59, .null) else none) else (bif Nat.beq pc 34 then some (.aload_n 0, 1, 35, 0, 0, .null) else none)) else (bif Nat.blt pc 38 then (bif Nat.beq pc 35 then some (.getfield 368, 3, 38, 0, 60, .null) else none) else (bif Nat.beq pc 38 then some (.iaload, 1, 39, 0, 0, .null) else none))) else (bif Nat.blt pc 41 then (bif Nat.blt pc 40 then (bif Nat.beq pc 39 then some (.iconst 2, 1, 40, 0, 0, .int 2) else none) else (bif Nat.beq pc 40 then some (.irem, 1, 41, 0, 0, .null) else none)) else (bif Nat.blt pc 43 then (bif Nat.beq pc 41 then some (.istore 6, 2, 43, 6, 0, .null) else none) else (bif Nat.blt pc 45 then (bif Nat.beq pc 43 then some (.iload 4, 2, 45, 4, 0, .null) else none) else (bif Nat.beq pc 45 then some (.iconst (-1), 1, 46, 0, 0, .int (-1)) else none))))) else (bif Nat.blt pc 54 then (bif Nat.blt pc 50 then (bif Nat.blt pc 49 then (bif Nat.beq pc 46 then some (.if_icmp .eq 14, 3, 49, 60, 0, .null) else none) else (bif Nat.beq pc 49 then some (.aload_n 0, 1, 50, 0, 0, .null) else none)) else (bif Nat.blt pc 52 then (bif Nat.beq pc 50 then some (.iload 5, 2, 52, 5, 0, .null) else none) else (bif Nat.beq pc 52 then some (.iload 4, 2, 54, 4, 0, .null) else none))) else (bif Nat.blt pc 60 then (bif Nat.blt pc 57 then (bif Nat.beq pc 54 then some (.invokevirtual 371, 3, 57, 55, 2, .ref 0) else none) else (bif Nat.beq pc 57 then some (.ifCond .eq 205, 3, 60, 262, 0, .null) else none)) else (bif Nat.blt pc 61 then (bif Nat.beq pc 60 then some (.aload_n 0, 1, 61, 0, 0, .null) else none) else (bif Nat.blt pc 64 then (bif Nat.beq pc 61 then some (.getfield 114, 3, 64, 0, 49, .null) else none) else (bif Nat.beq pc 64 then some (.iload 5, 2, 66, 5, 0, .null) else none))))))) else (bif Nat.blt pc 96 then (bif Nat.blt pc 82 then (bif Nat.blt pc 72 then (bif Nat.blt pc 69 then (bif Nat.blt pc 67 then (bif Nat.beq pc 66 then some (.iaload, 1, 67, 0, 0, .null) else none) else (bif Nat.beq pc 67 then some (.istore 7, 2, 69, 7, 0, .null) else none)) else (bif Nat.blt pc 71 then (bif Nat.beq pc 69 then some (.iload 7, 2, 71, 7, 0, .null) else none) else (bif Nat.beq pc 71 then some (.iconst (-1), 1, 72, 0, 0, .int (-1)) else none))) else (bif Nat.blt pc 76 then (bif Nat.blt pc 75 then (bif Nat.beq pc 72 then some (.if_icmp .eq 64, 3, 75, 136, 0, .null) else none) else (bif Nat.beq pc 75 then some (.aload_n 0, 1, 76, 0, 0, .null) else none)) else (bif Nat.blt pc 79 then (bif Nat.beq pc 76 then some (.getfield 108, 3, 79, 0, 47, .null) else none) else (bif Nat.blt pc 81 then (bif Nat.beq pc 79 then some (.iload 7, 2, 81, 7, 0, .null) else none) else (bif Nat.beq pc 81 then some (.iaload, 1, 82, 0, 0, .null) else none))))) else (bif Nat.blt pc 87 then (bif Nat.blt pc 85 then (bif Nat.blt pc 84 then (bif Nat.beq pc 82 then some (.istore 8, 2, 84, 8, 0, .null) else none) else (bif Nat.beq pc 84 then some (.aload_n 0, 1, 85, 0, 0, .null) else none)) else (bif Nat.blt pc 86 then (bif Nat.beq pc 85 then some (.aload_n 2, 1, 86, 2, 0, .null) else none) else (bif Nat.beq pc 86 then some (.iload_n 3, 1, 87, 3, 0, .null) else none))) else (bif Nat.blt pc 91 then (bif Nat.blt pc 88 then (bif Nat.beq pc 87 then some (.aload_n 0, 1, 88, 0, 0, .null) else none) else (bif Nat.beq pc 88 then some (.getfield 105, 3, 91, 0, 46, .null) else none)) else (bif Nat.blt pc 93 then (bif Nat.beq pc 91 then some (.iload 7, 2, 93, 7, 0, .null) else none) else (bif Nat.blt pc 94 then (bif Nat.beq pc 93 then some (.iaload, 1, 94, 0, 0, .null) else none) else (bif Nat.beq pc 94 then some (.iload 8, 2, 96, 8, 0, .null) else none)))))) else (bif Nat.blt pc 111 then (bif Nat.blt pc 102 then (bif Nat.blt pc 98 then (bif Nat.blt pc 97 then (bif Nat.beq pc 96 then some (.iconst 1, 1, 97, 0, 0, .int 1) else none) else (bif Nat.beq pc 97 then some (.iload_n 1, 1, 98, 1, 0, .null) else none)) else (bif Nat.blt pc 99 then (bif Nat.beq pc 98 then some (.iadd, 1, 99, 0, 0, .null) else none) else (bif Nat.beq pc 99 then some (.if_icmp .ne 7, 3, 102, 106, 0, .null) else none))) else (bif Nat.blt pc 106 then (bif Nat.blt pc 103 then (bif Nat.beq pc 102 then some (.iconst 1, 1, 103, 0, 0, .int 1) else none) else (bif Nat.beq pc 103 then some (.goto 18, 3, 106, 121, 0, .null) else none)) else (bif Nat.blt pc 108 then (bif Nat.beq pc 106 then some (.iload 8, 2, 108, 8, 0, .null) else none) else (bif Nat.blt pc 110 then (bif Nat.beq pc 108 then some (.bipush 20, 2, 110, 0, 0, .int 20) else none) else (bif Nat.beq pc 110 then some (.iload_n 1, 1, 111, 1, 0, .null) else none))))) else (bif Nat.blt pc 121 then (bif Nat.blt pc 115 then (bif Nat.blt pc 112 then (bif Nat.beq pc 111 then some (.iadd, 1, 112, 0, 0, .null) else none) else (bif Nat.beq pc 112 then some (.if_icmp .ne 7, 3, 115, 119, 0, .null) else none)) else (bif Nat.blt pc 116 then (bif Nat.beq pc 115 then some (.iconst 0, 1, 116, 0, 0, .int 0) else none) else (bif Nat.blt pc 119 then (bif Nat.beq pc 116 then some (.goto 5, 3, 119, 121, 0, .null) else none) else (bif Nat.beq pc 119 then some (.iload 6, 2, 121, 6, 0, .null) else none)))) else (bif Nat.blt pc 125 then (bif Nat.blt pc 124 then (bif Nat.beq pc 121 then some (.invokevirtual 375, 3, 124, 54, 4, .ref 0) else none) else (bif Nat.beq pc 124 then some (.aload_n 0, 1, 125, 0, 0, .null) else none)) else (bif Nat.blt pc 128 then (bif Nat.beq pc 125 then some (.getfield 111, 3, 128, 0, 48, .null) else none) else (bif Nat.blt pc 130 then (bif Nat.beq pc 128 then some (.iload 7, 2, 130, 7, 0, .null) else none) else (bif Nat.beq pc 130 then some (.iaload, 1, 131, 0, 0, .null) else none)))))))) else (bif Nat.blt pc 199 then (bif Nat.blt pc 170 then (bif Nat.blt pc 153 then (bif Nat.blt pc 141 then (bif Nat.blt pc 136 then (bif Nat.blt pc 133 then (bif Nat.beq pc 131 then some (.istore 7, 2, 133, 7, 0, .null) else none) else (bif Nat.beq pc 133 then some (.goto (-64), 3, 136, 69, 0, .null) else none)) else (bif Nat.blt pc 138 then (bif Nat.beq pc 136 then some (.iload 5, 2, 138, 5, 0, .null) else none) else (bif Nat.beq pc 138 then some (.sipush 2100, 3, 141, 0, 0, .int 2100) else none))) else (bif Nat.blt pc 146 then (bif Nat.blt pc 144 then (bif Nat.beq pc 141 then some (.if_icmp .lt 121, 3, 144, 262, 0, .null) else none) else (bif Nat.beq pc 144 then some (.iload 5, 2, 146, 5, 0, .null) else none)) else (bif Nat.blt pc 149 then (bif Nat.beq pc 146 then some (.sipush 2100, 3, 149, 0, 0, .int 2100) else none) else (bif Nat.blt pc 150 then (bif Nat.beq pc 149 then some (.aload_n 0, 1, 150, 0, 0, .null) else none) else (bif Nat.beq pc 150 then some (.getfield 331, 3, 153, 0, 55, .null) else none))))) else (bif Nat.blt pc 161 then (bif Nat.blt pc 157 then (bif Nat.blt pc 154 then (bif Nat.beq pc 153 then some (.iadd, 1, 154, 0, 0, .null) else none) else (bif Nat.beq pc 154 then some (.if_icmp .ge 108, 3, 157, 262, 0, .null) else none)) else (bif Nat.blt pc 158 then (bif Nat.beq pc 157 then some (.aload_n 0, 1, 158, 0, 0, .null) else none) else (bif Nat.beq pc 158 then some (.getfield 117, 3, 161, 0, 52, .null) else none))) else (bif Nat.blt pc 166 then (bif Nat.blt pc 163 then (bif Nat.beq pc 161 then some (.iload 5, 2, 163, 5, 0, .null) else none) else (bif Nat.beq pc 163 then some (.sipush 2100, 3, 166, 0, 0, .int 2100) else none)) else (bif Nat.blt pc 167 then (bif Nat.beq pc 166 then some (.isub, 1, 167, 0, 0, .null) else none) else (bif Nat.blt pc 168 then (bif Nat.beq pc 167 then some (.iaload, 1, 168, 0, 0, .null) else none) else (bif Nat.beq pc 168 then some (.istore 7, 2, 170, 7, 0, .null) else none)))))) else (bif Nat.blt pc 182 then (bif Nat.blt pc 176 then (bif Nat.blt pc 172 then (bif Nat.blt pc 171 then (bif Nat.beq pc 170 then some (.aload_n 0, 1, 171, 0, 0, .null) else none) else (bif Nat.beq pc 171 then some (.aload_n 2, 1, 172, 2, 0, .null) else none)) else (bif Nat.blt pc 173 then (bif Nat.beq pc 172 then some (.iload_n 3, 1, 173, 3, 0, .null) else none) else (bif Nat.beq pc 173 then some (.sipush 1301, 3, 176, 0, 0, .int 1301) else none))) else (bif Nat.blt pc 179 then (bif Nat.blt pc 177 then (bif Nat.beq pc 176 then some (.iconst 3, 1, 177, 0, 0, .int 3) else none) else (bif Nat.beq pc 177 then some (.iload 7, 2, 179, 7, 0, .null) else none)) else (bif Nat.blt pc 180 then (bif Nat.beq pc 179 then some (.imul, 1, 180, 0, 0, .null) else none) else (bif Nat.blt pc 181 then (bif Nat.beq pc 180 then some (.iadd, 1, 181, 0, 0, .null) else none) else (bif Nat.beq pc 181 then some (.iconst 1, 1, 182, 0, 0, .int 1) else none))))) else (bif Nat.blt pc 192 then (bif Nat.blt pc 185 then (bif Nat.blt pc 183 then (bif Nat.beq pc 182 then some (.iadd, 1, 183, 0, 0, .null) else none) else (bif Nat.beq pc 183 then some (.iload 6, 2, 185, 6, 0, .null) else none)) else (bif Nat.blt pc 188 then (bif Nat.beq pc 185 then some (.invokevirtual 375, 3, 188, 54, 4, .ref 0) else none) else (bif Nat.blt pc 189 then (bif Nat.beq pc 188 then some (.aload_n 0, 1, 189, 0, 0, .null) else none) else (bif Nat.beq pc 189 then some (.getfield 133, 3, 192, 0, 58, .null) else none)))) else (bif Nat.blt pc 195 then (bif Nat.blt pc 193 then (bif Nat.beq pc 192 then some (.iconst 2, 1, 193, 0, 0, .int 2) else none) else (bif Nat.beq pc 193 then some (.iload 7, 2, 195, 7, 0, .null) else none)) else (bif Nat.blt pc 196 then (bif Nat.beq pc 195 then some (.imul, 1, 196, 0, 0, .null) else none) else (bif Nat.blt pc 198 then (bif Nat.beq pc 196 then some (.iload 6, 2, 198, 6, 0, .null) else none) else (bif Nat.beq pc 198 then some (.iadd, 1, 199, 0, 0, .null) else none))))))) else (bif Nat.blt pc 231 then (bif Nat.blt pc 215 then (bif Nat.blt pc 205 then (bif Nat.blt pc 202 then (bif Nat.blt pc 200 then (bif Nat.beq pc 199 then some (.baload, 1, 200, 0, 0, .null) else none) else (bif Nat.beq pc 200 then some (.istore 8, 2, 202, 8, 0, .null) else none)) else (bif Nat.blt pc 203 then (bif Nat.beq pc 202 then some (.iconst 0, 1, 203, 0, 0, .int 0) else none) else (bif Nat.beq pc 203 then some (.istore 9, 2, 205, 9, 0, .null) else none))) else (bif Nat.blt pc 208 then (bif Nat.blt pc 207 then (bif Nat.beq pc 205 then some (.iload 9, 2, 207, 9, 0, .null) else none) else (bif Nat.beq pc 207 then some (.iconst 2, 1, 208, 0, 0, .int 2) else none)) else (bif Nat.blt pc 211 then (bif Nat.beq pc 208 then some (.if_icmp .ge 54, 3, 211, 262, 0, .null) else none) else (bif Nat.blt pc 212 then (bif Nat.beq pc 211 then some (.aload_n 0, 1, 212, 0, 0, .null) else none) else (bif Nat.beq pc 212 then some (.getfield 123, 3, 215, 0, 54, .null) else none))))) else (bif Nat.blt pc 222 then (bif Nat.blt pc 220 then (bif Nat.blt pc 217 then (bif Nat.beq pc 215 then some (.iload 5, 2, 217, 5, 0, .null) else none) else (bif Nat.beq pc 217 then some (.sipush 2100, 3, 220, 0, 0, .int 2100) else none)) else (bif Nat.blt pc 221 then (bif Nat.beq pc 220 then some (.isub, 1, 221, 0, 0, .null) else none) else (bif Nat.beq pc 221 then some (.iaload, 1, 222, 0, 0, .null) else none))) else (bif Nat.blt pc 226 then (bif Nat.blt pc 223 then (bif Nat.beq pc 222 then some (.iconst (-1), 1, 223, 0, 0, .int (-1)) else none) else (bif Nat.beq pc 223 then some (.if_icmp .eq 39, 3, 226, 262, 0, .null) else none)) else (bif Nat.blt pc 228 then (bif Nat.beq pc 226 then some (.iload 8, 2, 228, 8, 0, .null) else none) else (bif Nat.blt pc 230 then (bif Nat.beq pc 228 then some (.iload 9, 2, 230, 9, 0, .null) else none) else (bif Nat.beq pc 230 then some (.ishr, 1, 231, 0, 0, .null) else none)))))) else (bif Nat.blt pc 244 then (bif Nat.blt pc 237 then (bif Nat.blt pc 233 then (bif Nat.blt pc 232 then (bif Nat.beq pc 231 then some (.iconst 1, 1, 232, 0, 0, .int 1) else none) else (bif Nat.beq pc 232 then some (.iand, 1, 233, 0, 0, .null) else none)) else (bif Nat.blt pc 234 then (bif Nat.beq pc 233 then some (.iconst 1, 1, 234, 0, 0, .int 1) else none) else (bif Nat.beq pc 234 then some (.if_icmp .ne 22, 3, 237, 256, 0, .null) else none))) else (bif Nat.blt pc 239 then (bif Nat.blt pc 238 then (bif Nat.beq pc 237 then some (.aload_n 0, 1, 238, 0, 0, .null) else none) else (bif Nat.beq pc 238 then some (.aload_n 2, 1, 239, 2, 0, .null) else none)) else (bif Nat.blt pc 240 then (bif Nat.beq pc 239 then some (.iload_n 3, 1, 240, 3, 0, .null) else none) else (bif Nat.blt pc 241 then (bif Nat.beq pc 240 then some (.aload_n 0, 1, 241, 0, 0, .null) else none) else (bif Nat.beq pc 241 then some (.getfield 123, 3, 244, 0, 54, .null) else none))))) else (bif Nat.blt pc 253 then (bif Nat.blt pc 249 then (bif Nat.blt pc 246 then (bif Nat.beq pc 244 then some (.iload 5, 2, 246, 5, 0, .null) else none) else (bif Nat.beq pc 246 then some (.sipush 2100, 3, 249, 0, 0, .int 2100) else none)) else (bif Nat.blt pc 250 then (bif Nat.beq pc 249 then some (.isub, 1, 250, 0, 0, .null) else none) else (bif Nat.blt pc 251 then (bif Nat.beq pc 250 then some (.iaload, 1, 251, 0, 0, .null) else none) else (bif Nat.beq pc 251 then some (.iload 9, 2, 253, 9, 0, .null) else none)))) else (bif Nat.blt pc 259 then (bif Nat.blt pc 256 then (bif Nat.beq pc 253 then some (.invokevirtual 375, 3, 256, 54, 4, .ref 0) else none) else (bif Nat.beq pc 256 then some (.iinc 9 1, 3, 259, 9, 0, .int 1) else none)) else (bif Nat.blt pc 262 then (bif Nat.beq pc 259 then some (.goto (-54), 3, 262, 205, 0, .null) else none) else (bif Nat.blt pc 265 then (bif Nat.beq pc 262 then some (.goto (-262), 3, 265, 0, 0, .null) else none) else (bif Nat.beq pc 265 then some (.return_, 1, 266, 0, 0, .null) else none))))))))
def rq_T56 (pc : Nat) : Option pv_I := bif Nat.blt pc 266 then rq_U56 pc else none
def rq_U57 (pc : Nat) : Option pv_I := bif Nat.blt pc 111 then (bif Nat.blt pc 53 then (bif Nat.blt pc 26 then (bif Nat.blt pc 11 then (bif Nat.blt pc 3 then (bif Nat.blt pc 1 then (bif Nat.beq pc 0 then some (.iconst 0, 1, 1, 0, 0, .int 0) else none) else (bif Nat.blt pc 2 then (bif Nat.beq pc 1 then some (.istore_n 1, 1, 2, 1, 0, .null) else none) else (bif Nat.beq pc 2 then some (.iload_n 1, 1, 3, 1, 0, .null) else none))) else (bif Nat.blt pc 7 then (bif Nat.blt pc 4 then (bif Nat.beq pc 3 then some (.aload_n 0, 1, 4, 0, 0, .null) else none) else (bif Nat.beq pc 4 then some (.getfield 162, 3, 7, 0, 19, .null) else none)) else (bif Nat.blt pc 10 then (bif Nat.beq pc 7 then some (.if_icmp .gt 215, 3, 10, 222, 0, .null) else none) else (bif Nat.beq pc 10 then some (.iload_n 1, 1, 11, 1, 0, .null) else none)))) else (bif Nat.blt pc 20 then (bif Nat.blt pc 15 then (bif Nat.blt pc 12 then (bif Nat.beq pc 11 then some (.aload_n 0, 1, 12, 0, 0, .null) else none) else (bif Nat.beq pc 12 then some (.getfield 162, 3, 15, 0, 19, .null) else none)) else (bif Nat.blt pc 18 then (bif Nat.beq pc 15 then some (.if_icmp .ne 8, 3, 18, 23, 0, .null) else none) else (bif Nat.beq pc 18 then some (.bipush 100, 2, 20, 0, 0, .int 100) else none))) else (bif Nat.blt pc 24 then (bif Nat.blt pc 23 then (bif Nat.beq pc 20 then some (.goto 4, 3, 23, 24, 0, .null) else none) else (bif Nat.beq pc 23 then some (.iload_n 1, 1, 24, 1, 0, .null) else none)) else (bif Nat.blt pc 25 then (bif Nat.beq pc 24 then some (.istore_n 2, 1, 25, 2, 0, .null) else none) else (bif Nat.beq pc 25 then some (.aload_n 0, 1, 26, 0, 0, .null) else none))))) else (bif Nat.blt pc 39 then (bif Nat.blt pc 32 then (bif Nat.blt pc 30 then (bif Nat.blt pc 29 then (bif Nat.beq pc 26 then some (.getfield 159, 3, 29, 0, 2, .null) else none) else (bif Nat.beq pc 29 then some (.iconst 1, 1, 30, 0, 0, .int 1) else none)) else (bif Nat.blt pc 31 then (bif Nat.beq pc 30 then some (.isub, 1, 31, 0, 0, .null) else none) else (bif Nat.beq pc 31 then some (.istore_n 3, 1, 32, 3, 0, .null) else none))) else (bif Nat.blt pc 36 then (bif Nat.blt pc 33 then (bif Nat.beq pc 32 then some (.iload_n 3, 1, 33, 3, 0, .null) else none) else (bif Nat.beq pc 33 then some (.ifCond .lt 125, 3, 36, 158, 0, .null) else none)) else (bif Nat.blt pc 37 then (bif Nat.beq pc 36 then some (.iconst 0, 1, 37, 0, 0, .int 0) else none) else (bif Nat.beq pc 37 then some (.istore 4, 2, 39, 4, 0, .null) else none)))) else (bif Nat.blt pc 46 then (bif Nat.blt pc 42 then (bif Nat.blt pc 41 then (bif Nat.beq pc 39 then some (.iload 4, 2, 41, 4, 0, .null) else none) else (bif Nat.beq pc 41 then some (.iconst 2, 1, 42, 0, 0, .int 2) else none)) else (bif Nat.blt pc 45 then (bif Nat.beq pc 42 then some (.if_icmp .ge 110, 3, 45, 152, 0, .null) else none) else (bif Nat.beq pc 45 then some (.aload_n 0, 1, 46, 0, 0, .null) else none))) else (bif Nat.blt pc 50 then (bif Nat.blt pc 49 then (bif Nat.beq pc 46 then some (.getfield 13, 3, 49, 0, 3, .null) else none) else (bif Nat.beq pc 49 then some (.iload_n 3, 1, 50, 3, 0, .null) else none)) else (bif Nat.blt pc 51 then (bif Nat.beq pc 50 then some (.iaload, 1, 51, 0, 0, .null) else none) else (bif Nat.beq pc 51 then some (.bipush 84, 2, 53, 0, 0, .int 84) else none)))))) else (bif Nat.blt pc 84 then (bif Nat.blt pc 68 then (bif Nat.blt pc 61 then (bif Nat.blt pc 57 then (bif Nat.blt pc 56 then (bif Nat.beq pc 53 then some (.if_icmp .ne 99, 3, 56, 152, 0, .null) else none) else (bif Nat.beq pc 56 then some (.aload_n 0, 1, 57, 0, 0, .null) else none)) else (bif Nat.blt pc 60 then (bif Nat.beq pc 57 then some (.getfield 54, 3, 60, 0, 16, .null) else none) else (bif Nat.beq pc 60 then some (.iload_n 3, 1, 61, 3, 0, .null) else none))) else (bif Nat.blt pc 65 then (bif Nat.blt pc 62 then (bif Nat.beq pc 61 then some (.baload, 1, 62, 0, 0, .null) else none) else (bif Nat.beq pc 62 then some (.ifCond .eq 90, 3, 65, 152, 0, .null) else none)) else (bif Nat.blt pc 66 then (bif Nat.beq pc 65 then some (.iconst 0, 1, 66, 0, 0, .int 0) else none) else (bif Nat.beq pc 66 then some (.istore 5, 2, 68, 5, 0, .null) else none)))) else (bif Nat.blt pc 77 then (bif Nat.blt pc 73 then (bif Nat.blt pc 70 then (bif Nat.beq pc 68 then some (.iload 5, 2, 70, 5, 0, .null) else none) else (bif Nat.beq pc 70 then some (.sipush 3600, 3, 73, 0, 0, .int 3600) else none)) else (bif Nat.blt pc 76 then (bif Nat.beq pc 73 then some (.if_icmp .ge 17, 3, 76, 90, 0, .null) else none) else (bif Nat.beq pc 76 then some (.aload_n 0, 1, 77, 0, 0, .null) else none))) else (bif Nat.blt pc 82 then (bif Nat.blt pc 80 then (bif Nat.beq pc 77 then some (.getfield 130, 3, 80, 0, 57, .null) else none) else (bif Nat.beq pc 80 then some (.iload 5, 2, 82, 5, 0, .null) else none)) else (bif Nat.blt pc 83 then (bif Nat.beq pc 82 then some (.iconst 0, 1, 83, 0, 0, .int 0) else none) else (bif Nat.beq pc 83 then some (.bastore, 1, 84, 0, 0, .null) else none))))) else (bif Nat.blt pc 100 then (bif Nat.blt pc 92 then (bif Nat.blt pc 90 then (bif Nat.blt pc 87 then (bif Nat.beq pc 84 then some (.iinc 5 1, 3, 87, 5, 0, .int 1) else none) else (bif Nat.beq pc 87 then some (.goto (-19), 3, 90, 68, 0, .null) else none)) else (bif Nat.blt pc 91 then (bif Nat.beq pc 90 then some (.aload_n 0, 1, 91, 0, 0, .null) else none) else (bif Nat.beq pc 91 then some (.aload_n 0, 1, 92, 0, 0, .null) else none))) else (bif Nat.blt pc 96 then (bif Nat.blt pc 95 then (bif Nat.beq pc 92 then some (.getfield 130, 3, 95, 0, 57, .null) else none) else (bif Nat.beq pc 95 then some (.iconst 0, 1, 96, 0, 0, .int 0) else none)) else (bif Nat.blt pc 99 then (bif Nat.beq pc 96 then some (.sipush 1301, 3, 99, 0, 0, .int 1301) else none) else (bif Nat.beq pc 99 then some (.iconst 3, 1, 100, 0, 0, .int 3) else none)))) else (bif Nat.blt pc 104 then (bif Nat.blt pc 102 then (bif Nat.blt pc 101 then (bif Nat.beq pc 100 then some (.iload_n 3, 1, 101, 3, 0, .null) else none) else (bif Nat.beq pc 101 then some (.imul, 1, 102, 0, 0, .null) else none)) else (bif Nat.blt pc 103 then (bif Nat.beq pc 102 then some (.iadd, 1, 103, 0, 0, .null) else none) else (bif Nat.beq pc 103 then some (.iconst 1, 1, 104, 0, 0, .int 1) else none))) else (bif Nat.blt pc 107 then (bif Nat.blt pc 105 then (bif Nat.beq pc 104 then some (.iadd, 1, 105, 0, 0, .null) else none) else (bif Nat.beq pc 105 then some (.iload 4, 2, 107, 4, 0, .null) else none)) else (bif Nat.blt pc 110 then (bif Nat.beq pc 107 then some (.invokevirtual 375, 3, 110, 54, 4, .ref 0) else none) else (bif Nat.beq pc 110 then some (.aload_n 0, 1, 111, 0, 0, .null) else none))))))) else (bif Nat.blt pc 164 then (bif Nat.blt pc 138 then (bif Nat.blt pc 125 then (bif Nat.blt pc 117 then (bif Nat.blt pc 113 then (bif Nat.blt pc 112 then (bif Nat.beq pc 111 then some (.iload_n 2, 1, 112, 2, 0, .null) else none) else (bif Nat.beq pc 112 then some (.aload_n 0, 1, 113, 0, 0, .null) else none)) else (bif Nat.blt pc 116 then (bif Nat.beq pc 113 then some (.getfield 130, 3, 116, 0, 57, .null) else none) else (bif Nat.beq pc 116 then some (.iconst 0, 1, 117, 0, 0, .int 0) else none))) else (bif Nat.blt pc 121 then (bif Nat.blt pc 118 then (bif Nat.beq pc 117 then some (.iload_n 3, 1, 118, 3, 0, .null) else none) else (bif Nat.beq pc 118 then some (.invokevirtual 379, 3, 121, 56, 4, .ref 0) else none)) else (bif Nat.blt pc 122 then (bif Nat.beq pc 121 then some (.aload_n 0, 1, 122, 0, 0, .null) else none) else (bif Nat.beq pc 122 then some (.getfield 133, 3, 125, 0, 58, .null) else none)))) else (bif Nat.blt pc 130 then (bif Nat.blt pc 127 then (bif Nat.blt pc 126 then (bif Nat.beq pc 125 then some (.iconst 2, 1, 126, 0, 0, .int 2) else none) else (bif Nat.beq pc 126 then some (.iload_n 3, 1, 127, 3, 0, .null) else none)) else (bif Nat.blt pc 128 then (bif Nat.beq pc 127 then some (.imul, 1, 128, 0, 0, .null) else none) else (bif Nat.beq pc 128 then some (.iload 4, 2, 130, 4, 0, .null) else none))) else (bif Nat.blt pc 132 then (bif Nat.blt pc 131 then (bif Nat.beq pc 130 then some (.iadd, 1, 131, 0, 0, .null) else none) else (bif Nat.beq pc 131 then some (.aload_n 0, 1, 132, 0, 0, .null) else none)) else (bif Nat.blt pc 135 then (bif Nat.beq pc 132 then some (.getfield 130, 3, 135, 0, 57, .null) else none) else (bif Nat.beq pc 135 then some (.sipush 1301, 3, 138, 0, 0, .int 1301) else none))))) else (bif Nat.blt pc 146 then (bif Nat.blt pc 142 then (bif Nat.blt pc 140 then (bif Nat.blt pc 139 then (bif Nat.beq pc 138 then some (.iconst 3, 1, 139, 0, 0, .int 3) else none) else (bif Nat.beq pc 139 then some (.iload_n 3, 1, 140, 3, 0, .null) else none)) else (bif Nat.blt pc 141 then (bif Nat.beq pc 140 then some (.imul, 1, 141, 0, 0, .null) else none) else (bif Nat.beq pc 141 then some (.iadd, 1, 142, 0, 0, .null) else none))) else (bif Nat.blt pc 144 then (bif Nat.blt pc 143 then (bif Nat.beq pc 142 then some (.iconst 2, 1, 143, 0, 0, .int 2) else none) else (bif Nat.beq pc 143 then some (.iadd, 1, 144, 0, 0, .null) else none)) else (bif Nat.blt pc 145 then (bif Nat.beq pc 144 then some (.baload, 1, 145, 0, 0, .null) else none) else (bif Nat.beq pc 145 then some (.bastore, 1, 146, 0, 0, .null) else none)))) else (bif Nat.blt pc 158 then (bif Nat.blt pc 152 then (bif Nat.blt pc 149 then (bif Nat.beq pc 146 then some (.iinc 4 1, 3, 149, 4, 0, .int 1) else none) else (bif Nat.beq pc 149 then some (.goto (-110), 3, 152, 39, 0, .null) else none)) else (bif Nat.blt pc 155 then (bif Nat.beq pc 152 then some (.iinc 3 (-1), 3, 155, 3, 0, .int (-1)) else none) else (bif Nat.beq pc 155 then some (.goto (-123), 3, 158, 32, 0, .null) else none))) else (bif Nat.blt pc 162 then (bif Nat.blt pc 161 then (bif Nat.beq pc 158 then some (.sipush 3600, 3, 161, 0, 0, .int 3600) else none) else (bif Nat.beq pc 161 then some (.iload_n 1, 1, 162, 1, 0, .null) else none)) else (bif Nat.blt pc 163 then (bif Nat.beq pc 162 then some (.imul, 1, 163, 0, 0, .null) else none) else (bif Nat.beq pc 163 then some (.istore_n 3, 1, 164, 3, 0, .null) else none)))))) else (bif Nat.blt pc 193 then (bif Nat.blt pc 180 then (bif Nat.blt pc 172 then (bif Nat.blt pc 167 then (bif Nat.blt pc 165 then (bif Nat.beq pc 164 then some (.iconst 0, 1, 165, 0, 0, .int 0) else none) else (bif Nat.beq pc 165 then some (.istore 4, 2, 167, 4, 0, .null) else none)) else (bif Nat.blt pc 169 then (bif Nat.beq pc 167 then some (.iload 4, 2, 169, 4, 0, .null) else none) else (bif Nat.beq pc 169 then some (.sipush 3600, 3, 172, 0, 0, .int 3600) else none))) else (bif Nat.blt pc 176 then (bif Nat.blt pc 175 then (bif Nat.beq pc 172 then some (.if_icmp .ge 19, 3, 175, 191, 0, .null) else none) else (bif Nat.beq pc 175 then some (.aload_n 0, 1, 176, 0, 0, .null) else none)) else (bif Nat.blt pc 179 then (bif Nat.beq pc 176 then some (.getfield 127, 3, 179, 0, 56, .null) else none) else (bif Nat.beq pc 179 then some (.iload_n 3, 1, 180, 3, 0, .null) else none)))) else (bif Nat.blt pc 185 then (bif Nat.blt pc 183 then (bif Nat.blt pc 182 then (bif Nat.beq pc 180 then some (.iload 4, 2, 182, 4, 0, .null) else none) else (bif Nat.beq pc 182 then some (.iadd, 1, 183, 0, 0, .null) else none)) else (bif Nat.blt pc 184 then (bif Nat.beq pc 183 then some (.iconst 0, 1, 184, 0, 0, .int 0) else none) else (bif Nat.beq pc 184 then some (.bastore, 1, 185, 0, 0, .null) else none))) else (bif Nat.blt pc 191 then (bif Nat.blt pc 188 then (bif Nat.beq pc 185 then some (.iinc 4 1, 3, 188, 4, 0, .int 1) else none) else (bif Nat.beq pc 188 then some (.goto (-21), 3, 191, 167, 0, .null) else none)) else (bif Nat.blt pc 192 then (bif Nat.beq pc 191 then some (.aload_n 0, 1, 192, 0, 0, .null) else none) else (bif Nat.beq pc 192 then some (.aload_n 0, 1, 193, 0, 0, .null) else none))))) else (bif Nat.blt pc 207 then (bif Nat.blt pc 201 then (bif Nat.blt pc 197 then (bif Nat.blt pc 196 then (bif Nat.beq pc 193 then some (.getfield 127, 3, 196, 0, 56, .null) else none) else (bif Nat.beq pc 196 then some (.iload_n 3, 1, 197, 3, 0, .null) else none)) else (bif Nat.blt pc 198 then (bif Nat.beq pc 197 then some (.aload_n 0, 1, 198, 0, 0, .null) else none) else (bif Nat.beq pc 198 then some (.getfield 343, 3, 201, 0, 51, .null) else none))) else (bif Nat.blt pc 205 then (bif Nat.blt pc 202 then (bif Nat.beq pc 201 then some (.iconst 0, 1, 202, 0, 0, .int 0) else none) else (bif Nat.beq pc 202 then some (.invokevirtual 375, 3, 205, 54, 4, .ref 0) else none)) else (bif Nat.blt pc 206 then (bif Nat.beq pc 205 then some (.aload_n 0, 1, 206, 0, 0, .null) else none) else (bif Nat.beq pc 206 then some (.iload_n 2, 1, 207, 2, 0, .null) else none)))) else (bif Nat.blt pc 213 then (bif Nat.blt pc 211 then (bif Nat.blt pc 208 then (bif Nat.beq pc 207 then some (.aload_n 0, 1, 208, 0, 0, .null) else none) else (bif Nat.beq pc 208 then some (.getfield 127, 3, 211, 0, 56, .null) else none)) else (bif Nat.blt pc 212 then (bif Nat.beq pc 211 then some (.iload_n 3, 1, 212, 3, 0, .null) else none) else (bif Nat.beq pc 212 then some (.iconst (-1), 1, 213, 0, 0, .int (-1)) else none))) else (bif Nat.blt pc 219 then (bif Nat.blt pc 216 then (bif Nat.beq pc 213 then some (.invokevirtual 379, 3, 216, 56, 4, .ref 0) else none) else (bif Nat.beq pc 216 then some (.iinc 1 1, 3, 219, 1, 0, .int 1) else none)) else (bif Nat.blt pc 222 then (bif Nat.beq pc 219 then some (.goto (-217), 3, 222, 2, 0, .null) else none) else (bif Nat.beq pc 222 then some (.return_, 1, 223, 0, 0, .null) else none)))))))
def rq_T57 (pc : Nat) : Option pv_I := bif Nat.blt pc 223 then rq_U57 pc else none
def rq_U58 (pc : Nat) : Option pv_I := bif Nat.blt pc 26 then (bif Nat.blt pc 11 then (bif Nat.blt pc 5 then (bif Nat.blt pc 1 then (bif Nat.beq pc 0 then some (.aload_n 0, 1, 1, 0, 0, .null) else none) else (bif Nat.blt pc 4 then (bif Nat.beq pc 1 then some (.invokevirtual 383, 3, 4, 2, 0, .ref 0) else none) else (bif Nat.beq pc 4 then some (.istore_n 1, 1, 5, 1, 0, .null) else none))) else (bif Nat.blt pc 7 then (bif Nat.blt pc 6 then (bif Nat.beq pc 5 then some (.aload_n 0, 1, 6, 0, 0, .null) else none) else (bif Nat.beq pc 6 then some (.iload_n 1, 1, 7, 1, 0, .null) else none)) else (bif Nat.blt pc 10 then (bif Nat.beq pc 7 then some (.invokevirtual 386, 3, 10, 39, 1, .ref 0) else none) else (bif Nat.beq pc 10 then some (.aload_n 0, 1, 11, 0, 0, .null) else none)))) else (bif Nat.blt pc 18 then (bif Nat.blt pc 12 then (bif Nat.beq pc 11 then some (.aload_n 0, 1, 12, 0, 0, .null) else none) else (bif Nat.blt pc 15 then (bif Nat.beq pc 12 then some (.getfield 180, 3, 15, 0, 28, .null) else none) else (bif Nat.beq pc 15 then some (.putfield 139, 3, 18, 0, 61, .null) else none))) else (bif Nat.blt pc 22 then (bif Nat.blt pc 19 then (bif Nat.beq pc 18 then some (.aload_n 0, 1, 19, 0, 0, .null) else none) else (bif Nat.beq pc 19 then some (.getfield 180, 3, 22, 0, 28, .null) else none)) else (bif Nat.blt pc 23 then (bif Nat.beq pc 22 then some (.iconst (-1), 1, 23, 0, 0, .int (-1)) else none) else (bif Nat.beq pc 23 then some (.if_icmp .eq 7, 3, 26, 30, 0, .null) else none))))) else (bif Nat.blt pc 39 then (bif Nat.blt pc 31 then (bif Nat.blt pc 27 then (bif Nat.beq pc 26 then some (.aload_n 0, 1, 27, 0, 0, .null) else none) else (bif Nat.blt pc 30 then (bif Nat.beq pc 27 then some (.invokevirtual 143, 3, 30, 3, 0, .ref 0) else none) else (bif Nat.beq pc 30 then some (.aload_n 0, 1, 31, 0, 0, .null) else none))) else (bif Nat.blt pc 35 then (bif Nat.blt pc 34 then (bif Nat.beq pc 31 then some (.invokevirtual 146, 3, 34, 49, 0, .ref 0) else none) else (bif Nat.beq pc 34 then some (.aload_n 0, 1, 35, 0, 0, .null) else none)) else (bif Nat.blt pc 38 then (bif Nat.beq pc 35 then some (.invokevirtual 149, 3, 38, 57, 0, .ref 0) else none) else (bif Nat.beq pc 38 then some (.aload_n 0, 1, 39, 0, 0, .null) else none)))) else (bif Nat.blt pc 47 then (bif Nat.blt pc 43 then (bif Nat.blt pc 42 then (bif Nat.beq pc 39 then some (.getfield 180, 3, 42, 0, 28, .null) else none) else (bif Nat.beq pc 42 then some (.iconst (-1), 1, 43, 0, 0, .int (-1)) else none)) else (bif Nat.blt pc 46 then (bif Nat.beq pc 43 then some (.if_icmp .ne 10, 3, 46, 53, 0, .null) else none) else (bif Nat.beq pc 46 then some (.aload_n 0, 1, 47, 0, 0, .null) else none))) else (bif Nat.blt pc 53 then (bif Nat.blt pc 50 then (bif Nat.beq pc 47 then some (.getfield 159, 3, 50, 0, 2, .null) else none) else (bif Nat.beq pc 50 then some (.goto 5, 3, 53, 55, 0, .null) else none)) else (bif Nat.blt pc 55 then (bif Nat.beq pc 53 then some (.bipush (-4), 2, 55, 0, 0, .int (-4)) else none) else (bif Nat.beq pc 55 then some (.ireturn, 1, 56, 0, 0, .null) else none)))))
def rq_T58 (pc : Nat) : Option pv_I := bif Nat.blt pc 56 then rq_U58 pc else none
def rq_U59 (pc : Nat) : Option pv_I := bif Nat.blt pc 1 then (bif Nat.beq pc 0 then some (.aload_n 0, 1, 1, 0, 0, .null) else none) else (bif Nat.blt pc 4 then (bif Nat.beq pc 1 then some (.getfield 139, 3, 4, 0, 61, .null) else none) else (bif Nat.beq pc 4 then some (.ireturn, 1, 5, 0, 0, .null) else none))
def rq_T59 (pc : Nat) : Option pv_I := bif Nat.blt pc 5 then rq_U59 pc else none
def rq_U60 (pc : Nat) : Option pv_I := bif Nat.blt pc 6 then (bif Nat.blt pc 2 then (bif Nat.blt pc 1 then (bif Nat.beq pc 0 then some (.iload_n 1, 1, 1, 1, 0, .null) else none) else (bif Nat.beq pc 1 then some (.iconst 0, 1, 2, 0, 0, .int 0) else none)) else (bif Nat.blt pc 3 then (bif Nat.beq pc 2 then some (.aload_n 0, 1, 3, 0, 0, .null) else none) else (bif Nat.beq pc 3 then some (.getfield 159, 3, 6, 0, 2, .null) else none))) else (bif Nat.blt pc 8 then (bif Nat.blt pc 7 then (bif Nat.beq pc 6 then some (.iconst 1, 1, 7, 0, 0, .int 1) else none) else (bif Nat.beq pc 7 then some (.isub, 1, 8, 0, 0, .null) else none)) else (bif Nat.blt pc 11 then (bif Nat.beq pc 8 then some (.invokestatic 152, 3, 11, 0, 3, .null) else none) else (bif Nat.beq pc 11 then some (.ireturn, 1, 12, 0, 0, .null) else none)))
def rq_T60 (pc : Nat) : Option pv_I := bif Nat.blt pc 12 then rq_U60 pc else none
def rq_U61 (pc : Nat) : Option pv_I := bif Nat.blt pc 64 then (bif Nat.blt pc 21 then (bif Nat.blt pc 10 then (bif Nat.blt pc 5 then (bif Nat.blt pc 1 then (bif Nat.beq pc 0 then some (.aload_n 0, 1, 1, 0, 0, .null) else none) else (bif Nat.blt pc 2 then (bif Nat.beq pc 1 then some (.iload_n 1, 1, 2, 1, 0, .null) else none) else (bif Nat.beq pc 2 then some (.invokevirtual 389, 3, 5, 60, 1, .ref 0) else none))) else (bif Nat.blt pc 8 then (bif Nat.beq pc 5 then some (.ifCond .eq 12, 3, 8, 17, 0, .null) else none) else (bif Nat.blt pc 9 then (bif Nat.beq pc 8 then some (.iload_n 2, 1, 9, 2, 0, .null) else none) else (bif Nat.beq pc 9 then some (.iconst 0, 1, 10, 0, 0, .int 0) else none)))) else (bif Nat.blt pc 17 then (bif Nat.blt pc 11 then (bif Nat.beq pc 10 then some (.iconst 3, 1, 11, 0, 0, .int 3) else none) else (bif Nat.blt pc 14 then (bif Nat.beq pc 11 then some (.invokestatic 152, 3, 14, 0, 3, .null) else none) else (bif Nat.beq pc 14 then some (.ifCond .ne 6, 3, 17, 20, 0, .null) else none))) else (bif Nat.blt pc 19 then (bif Nat.beq pc 17 then some (.bipush (-2), 2, 19, 0, 0, .int (-2)) else none) else (bif Nat.blt pc 20 then (bif Nat.beq pc 19 then some (.ireturn, 1, 20, 0, 0, .null) else none) else (bif Nat.beq pc 20 then some (.aload_n 0, 1, 21, 0, 0, .null) else none))))) else (bif Nat.blt pc 56 then (bif Nat.blt pc 26 then (bif Nat.blt pc 24 then (bif Nat.beq pc 21 then some (.getfield 102, 3, 24, 0, 45, .null) else none) else (bif Nat.blt pc 25 then (bif Nat.beq pc 24 then some (.iload_n 1, 1, 25, 1, 0, .null) else none) else (bif Nat.beq pc 25 then some (.iaload, 1, 26, 0, 0, .null) else none))) else (bif Nat.blt pc 27 then (bif Nat.beq pc 26 then some (.istore_n 3, 1, 27, 3, 0, .null) else none) else (bif Nat.blt pc 28 then (bif Nat.beq pc 27 then some (.iload_n 2, 1, 28, 2, 0, .null) else none) else (bif Nat.beq pc 28 then some (.tableswitch 68 0 2 #[28, 35, 42], 28, 56, 0, 0, .null) else none)))) else (bif Nat.blt pc 61 then (bif Nat.blt pc 57 then (bif Nat.beq pc 56 then some (.aload_n 0, 1, 57, 0, 0, .null) else none) else (bif Nat.blt pc 60 then (bif Nat.beq pc 57 then some (.getfield 13, 3, 60, 0, 3, .null) else none) else (bif Nat.beq pc 60 then some (.iload_n 3, 1, 61, 3, 0, .null) else none))) else (bif Nat.blt pc 62 then (bif Nat.beq pc 61 then some (.iaload, 1, 62, 0, 0, .null) else none) else (bif Nat.blt pc 63 then (bif Nat.beq pc 62 then some (.ireturn, 1, 63, 0, 0, .null) else none) else (bif Nat.beq pc 63 then some (.aload_n 0, 1, 64, 0, 0, .null) else none)))))) else (bif Nat.blt pc 84 then (bif Nat.blt pc 74 then (bif Nat.blt pc 69 then (bif Nat.blt pc 67 then (bif Nat.beq pc 64 then some (.getfield 17, 3, 67, 0, 4, .null) else none) else (bif Nat.blt pc 68 then (bif Nat.beq pc 67 then some (.iload_n 3, 1, 68, 3, 0, .null) else none) else (bif Nat.beq pc 68 then some (.iaload, 1, 69, 0, 0, .null) else none))) else (bif Nat.blt pc 70 then (bif Nat.beq pc 69 then some (.ireturn, 1, 70, 0, 0, .null) else none) else (bif Nat.blt pc 71 then (bif Nat.beq pc 70 then some (.aload_n 0, 1, 71, 0, 0, .null) else none) else (bif Nat.beq pc 71 then some (.getfield 20, 3, 74, 0, 5, .null) else none)))) else (bif Nat.blt pc 77 then (bif Nat.blt pc 75 then (bif Nat.beq pc 74 then some (.iload_n 3, 1, 75, 3, 0, .null) else none) else (bif Nat.blt pc 76 then (bif Nat.beq pc 75 then some (.iaload, 1, 76, 0, 0, .null) else none) else (bif Nat.beq pc 76 then some (.iconst (-1), 1, 77, 0, 0, .int (-1)) else none))) else (bif Nat.blt pc 80 then (bif Nat.beq pc 77 then some (.if_icmp .ne 7, 3, 80, 84, 0, .null) else none) else (bif Nat.blt pc 81 then (bif Nat.beq pc 80 then some (.iconst (-1), 1, 81, 0, 0, .int (-1)) else none) else (bif Nat.beq pc 81 then some (.goto 14, 3, 84, 95, 0, .null) else none))))) else (bif Nat.blt pc 94 then (bif Nat.blt pc 89 then (bif Nat.blt pc 85 then (bif Nat.beq pc 84 then some (.aload_n 0, 1, 85, 0, 0, .null) else none) else (bif Nat.blt pc 88 then (bif Nat.beq pc 85 then some (.getfield 99, 3, 88, 0, 44, .null) else none) else (bif Nat.beq pc 88 then some (.aload_n 0, 1, 89, 0, 0, .null) else none))) else (bif Nat.blt pc 92 then (bif Nat.beq pc 89 then some (.getfield 20, 3, 92, 0, 5, .null) else none) else (bif Nat.blt pc 93 then (bif Nat.beq pc 92 then some (.iload_n 3, 1, 93, 3, 0, .null) else none) else (bif Nat.beq pc 93 then some (.iaload, 1, 94, 0, 0, .null) else none)))) else (bif Nat.blt pc 97 then (bif Nat.blt pc 95 then (bif Nat.beq pc 94 then some (.iaload, 1, 95, 0, 0, .null) else none) else (bif Nat.blt pc 96 then (bif Nat.beq pc 95 then some (.ireturn, 1, 96, 0, 0, .null) else none) else (bif Nat.beq pc 96 then some (.aload_n 0, 1, 97, 0, 0, .null) else none))) else (bif Nat.blt pc 101 then (bif Nat.blt pc 100 then (bif Nat.beq pc 97 then some (.getfield 26, 3, 100, 0, 7, .null) else none) else (bif Nat.beq pc 100 then some (.iload_n 3, 1, 101, 3, 0, .null) else none)) else (bif Nat.blt pc 102 then (bif Nat.beq pc 101 then some (.iaload, 1, 102, 0, 0, .null) else none) else (bif Nat.beq pc 102 then some (.ireturn, 1, 103, 0, 0, .null) else none))))))
def rq_T61 (pc : Nat) : Option pv_I := bif Nat.blt pc 103 then rq_U61 pc else none
def rq_U62 (pc : Nat) : Option pv_I := bif Nat.blt pc 45 then (bif Nat.blt pc 22 then (bif Nat.blt pc 9 then (bif Nat.blt pc 5 then (bif Nat.blt pc 3 then (bif Nat.beq pc 0 then some (.sipush 3600, 3, 3, 0, 0, .int 3600) else none) else (bif Nat.blt pc 4 then (bif Nat.beq pc 3 then some (.iload_n 1, 1, 4, 1, 0, .null) else none) else (bif Nat.beq pc 4 then some (.imul, 1, 5, 0, 0, .null) else none))) else (bif Nat.blt pc 7 then (bif Nat.beq pc 5 then some (.istore 4, 2, 7, 4, 0, .null) else none) else (bif Nat.blt pc 8 then (bif Nat.beq pc 7 then some (.iload_n 3, 1, 8, 3, 0, .null) else none) else (bif Nat.beq pc 8 then some (.iconst 1, 1, 9, 0, 0, .int 1) else none)))) else (bif Nat.blt pc 16 then (bif Nat.blt pc 12 then (bif Nat.beq pc 9 then some (.if_icmp .ne 40, 3, 12, 49, 0, .null) else none) else (bif Nat.blt pc 13 then (bif Nat.beq pc 12 then some (.aload_n 0, 1, 13, 0, 0, .null) else none) else (bif Nat.beq pc 13 then some (.getfield 29, 3, 16, 0, 8, .null) else none))) else (bif Nat.blt pc 18 then (bif Nat.blt pc 17 then (bif Nat.beq pc 16 then some (.iload_n 2, 1, 17, 2, 0, .null) else none) else (bif Nat.beq pc 17 then some (.baload, 1, 18, 0, 0, .null) else none)) else (bif Nat.blt pc 21 then (bif Nat.beq pc 18 then some (.ifCond .ne 31, 3, 21, 49, 0, .null) else none) else (bif Nat.beq pc 21 then some (.aload_n 0, 1, 22, 0, 0, .null) else none))))) else (bif Nat.blt pc 33 then (bif Nat.blt pc 28 then (bif Nat.blt pc 25 then (bif Nat.beq pc 22 then some (.getfield 127, 3, 25, 0, 56, .null) else none) else (bif Nat.blt pc 27 then (bif Nat.beq pc 25 then some (.iload 4, 2, 27, 4, 0, .null) else none) else (bif Nat.beq pc 27 then some (.iload_n 2, 1, 28, 2, 0, .null) else none))) else (bif Nat.blt pc 29 then (bif Nat.beq pc 28 then some (.iconst 1, 1, 29, 0, 0, .int 1) else none) else (bif Nat.blt pc 32 then (bif Nat.beq pc 29 then some (.invokestatic 324, 3, 32, 43, 2, .null) else none) else (bif Nat.beq pc 32 then some (.iadd, 1, 33, 0, 0, .null) else none)))) else (bif Nat.blt pc 38 then (bif Nat.blt pc 34 then (bif Nat.beq pc 33 then some (.baload, 1, 34, 0, 0, .null) else none) else (bif Nat.blt pc 35 then (bif Nat.beq pc 34 then some (.aload_n 0, 1, 35, 0, 0, .null) else none) else (bif Nat.beq pc 35 then some (.getfield 127, 3, 38, 0, 56, .null) else none))) else (bif Nat.blt pc 41 then (bif Nat.blt pc 40 then (bif Nat.beq pc 38 then some (.iload 4, 2, 40, 4, 0, .null) else none) else (bif Nat.beq pc 40 then some (.iload_n 2, 1, 41, 2, 0, .null) else none)) else (bif Nat.blt pc 42 then (bif Nat.beq pc 41 then some (.iconst 2, 1, 42, 0, 0, .int 2) else none) else (bif Nat.beq pc 42 then some (.invokestatic 324, 3, 45, 43, 2, .null) else none)))))) else (bif Nat.blt pc 65 then (bif Nat.blt pc 53 then (bif Nat.blt pc 48 then (bif Nat.blt pc 46 then (bif Nat.beq pc 45 then some (.iadd, 1, 46, 0, 0, .null) else none) else (bif Nat.blt pc 47 then (bif Nat.beq pc 46 then some (.baload, 1, 47, 0, 0, .null) else none) else (bif Nat.beq pc 47 then some (.ior, 1, 48, 0, 0, .null) else none))) else (bif Nat.blt pc 49 then (bif Nat.beq pc 48 then some (.ireturn, 1, 49, 0, 0, .null) else none) else (bif Nat.blt pc 50 then (bif Nat.beq pc 49 then some (.aload_n 0, 1, 50, 0, 0, .null) else none) else (bif Nat.beq pc 50 then some (.getfield 127, 3, 53, 0, 56, .null) else none)))) else (bif Nat.blt pc 57 then (bif Nat.blt pc 55 then (bif Nat.beq pc 53 then some (.iload 4, 2, 55, 4, 0, .null) else none) else (bif Nat.blt pc 56 then (bif Nat.beq pc 55 then some (.iload_n 2, 1, 56, 2, 0, .null) else none) else (bif Nat.beq pc 56 then some (.iload_n 3, 1, 57, 3, 0, .null) else none))) else (bif Nat.blt pc 61 then (bif Nat.blt pc 60 then (bif Nat.beq pc 57 then some (.ifCond .ne 7, 3, 60, 64, 0, .null) else none) else (bif Nat.beq pc 60 then some (.iconst 0, 1, 61, 0, 0, .int 0) else none)) else (bif Nat.blt pc 64 then (bif Nat.beq pc 61 then some (.goto 22, 3, 64, 83, 0, .null) else none) else (bif Nat.beq pc 64 then some (.iload_n 3, 1, 65, 3, 0, .null) else none))))) else (bif Nat.blt pc 78 then (bif Nat.blt pc 70 then (bif Nat.blt pc 66 then (bif Nat.beq pc 65 then some (.iconst 1, 1, 66, 0, 0, .int 1) else none) else (bif Nat.blt pc 69 then (bif Nat.beq pc 66 then some (.if_icmp .ne 7, 3, 69, 73, 0, .null) else none) else (bif Nat.beq pc 69 then some (.iconst 3, 1, 70, 0, 0, .int 3) else none))) else (bif Nat.blt pc 74 then (bif Nat.blt pc 73 then (bif Nat.beq pc 70 then some (.goto 13, 3, 73, 83, 0, .null) else none) else (bif Nat.beq pc 73 then some (.iload_n 3, 1, 74, 3, 0, .null) else none)) else (bif Nat.blt pc 75 then (bif Nat.beq pc 74 then some (.iconst 2, 1, 75, 0, 0, .int 2) else none) else (bif Nat.beq pc 75 then some (.if_icmp .ne 7, 3, 78, 82, 0, .null) else none)))) else (bif Nat.blt pc 83 then (bif Nat.blt pc 79 then (bif Nat.beq pc 78 then some (.iconst 1, 1, 79, 0, 0, .int 1) else none) else (bif Nat.blt pc 82 then (bif Nat.beq pc 79 then some (.goto 4, 3, 82, 83, 0, .null) else none) else (bif Nat.beq pc 82 then some (.iconst 2, 1, 83, 0, 0, .int 2) else none))) else (bif Nat.blt pc 87 then (bif Nat.blt pc 86 then (bif Nat.beq pc 83 then some (.invokestatic 324, 3, 86, 43, 2, .null) else none) else (bif Nat.beq pc 86 then some (.iadd, 1, 87, 0, 0, .null) else none)) else (bif Nat.blt pc 88 then (bif Nat.beq pc 87 then some (.baload, 1, 88, 0, 0, .null) else none) else (bif Nat.beq pc 88 then some (.ireturn, 1, 89, 0, 0, .null) else none))))))
def rq_T62 (pc : Nat) : Option pv_I := bif Nat.blt pc 89 then rq_U62 pc else none
def rq_U63 (pc : Nat) : Option pv_I := bif Nat.blt pc 7 then (bif Nat.blt pc 2 then (bif Nat.blt pc 1 then (bif Nat.beq pc 0 then some (.aload_n 0, 1, 1, 0, 0, .null) else none) else (bif Nat.beq pc 1 then some (.aload_n 0, 1, 2, 0, 0, .null) else none)) else (bif Nat.blt pc 5 then (bif Nat.beq pc 2 then some (.getfield 162, 3, 5, 0, 19, .null) else none) else (bif Nat.blt pc 6 then (bif Nat.beq pc 5 then some (.iload_n 1, 1, 6, 1, 0, .null) else none) else (bif Nat.beq pc 6 then some (.iload_n 2, 1, 7, 2, 0, .null) else none)))) else (bif Nat.blt pc 14 then (bif Nat.blt pc 10 then (bif Nat.beq pc 7 then some (.invokevirtual 392, 3, 10, 62, 3, .ref 0) else none) else (bif Nat.blt pc 13 then (bif Nat.beq pc 10 then some (.ifCond .eq 7, 3, 13, 17, 0, .null) else none) else (bif Nat.beq pc 13 then some (.iconst 1, 1, 14, 0, 0, .int 1) else none))) else (bif Nat.blt pc 17 then (bif Nat.beq pc 14 then some (.goto 4, 3, 17, 18, 0, .null) else none) else (bif Nat.blt pc 18 then (bif Nat.beq pc 17 then some (.iconst 0, 1, 18, 0, 0, .int 0) else none) else (bif Nat.beq pc 18 then some (.ireturn, 1, 19, 0, 0, .null) else none))))
def rq_T63 (pc : Nat) : Option pv_I := bif Nat.blt pc 19 then rq_U63 pc else none
def rq_U64 (pc : Nat) : Option pv_I := bif Nat.blt pc 94 then (bif Nat.blt pc 47 then (bif Nat.blt pc 23 then (bif Nat.blt pc 10 then (bif Nat.blt pc 5 then (bif Nat.blt pc 1 then (bif Nat.beq pc 0 then some (.aload_n 0, 1, 1, 0, 0, .null) else none) else (bif Nat.blt pc 2 then (bif Nat.beq pc 1 then some (.iload_n 1, 1, 2, 1, 0, .null) else none) else (bif Nat.beq pc 2 then some (.invokevirtual 389, 3, 5, 60, 1, .ref 0) else none))) else (bif Nat.blt pc 8 then (bif Nat.beq pc 5 then some (.ifCond .eq 40, 3, 8, 45, 0, .null) else none) else (bif Nat.blt pc 9 then (bif Nat.beq pc 8 then some (.iload_n 2, 1, 9, 2, 0, .null) else none) else (bif Nat.beq pc 9 then some (.iconst 0, 1, 10, 0, 0, .int 0) else none)))) else (bif Nat.blt pc 17 then (bif Nat.blt pc 11 then (bif Nat.beq pc 10 then some (.iconst 3, 1, 11, 0, 0, .int 3) else none) else (bif Nat.blt pc 14 then (bif Nat.beq pc 11 then some (.invokestatic 152, 3, 14, 0, 3, .null) else none) else (bif Nat.beq pc 14 then some (.ifCond .eq 31, 3, 17, 45, 0, .null) else none))) else (bif Nat.blt pc 19 then (bif Nat.blt pc 18 then (bif Nat.beq pc 17 then some (.iload_n 3, 1, 18, 3, 0, .null) else none) else (bif Nat.beq pc 18 then some (.iconst 0, 1, 19, 0, 0, .int 0) else none)) else (bif Nat.blt pc 20 then (bif Nat.beq pc 19 then some (.iconst 2, 1, 20, 0, 0, .int 2) else none) else (bif Nat.beq pc 20 then some (.invokestatic 152, 3, 23, 0, 3, .null) else none))))) else (bif Nat.blt pc 35 then (bif Nat.blt pc 28 then (bif Nat.blt pc 26 then (bif Nat.beq pc 23 then some (.ifCond .eq 22, 3, 26, 45, 0, .null) else none) else (bif Nat.blt pc 27 then (bif Nat.beq pc 26 then some (.iload_n 2, 1, 27, 2, 0, .null) else none) else (bif Nat.beq pc 27 then some (.iconst 1, 1, 28, 0, 0, .int 1) else none))) else (bif Nat.blt pc 31 then (bif Nat.beq pc 28 then some (.if_icmp .le 20, 3, 31, 48, 0, .null) else none) else (bif Nat.blt pc 32 then (bif Nat.beq pc 31 then some (.aload_n 0, 1, 32, 0, 0, .null) else none) else (bif Nat.beq pc 32 then some (.getfield 29, 3, 35, 0, 8, .null) else none)))) else (bif Nat.blt pc 40 then (bif Nat.blt pc 36 then (bif Nat.beq pc 35 then some (.aload_n 0, 1, 36, 0, 0, .null) else none) else (bif Nat.blt pc 39 then (bif Nat.beq pc 36 then some (.getfield 102, 3, 39, 0, 45, .null) else none) else (bif Nat.beq pc 39 then some (.iload_n 1, 1, 40, 1, 0, .null) else none))) else (bif Nat.blt pc 42 then (bif Nat.blt pc 41 then (bif Nat.beq pc 40 then some (.iaload, 1, 41, 0, 0, .null) else none) else (bif Nat.beq pc 41 then some (.baload, 1, 42, 0, 0, .null) else none)) else (bif Nat.blt pc 45 then (bif Nat.beq pc 42 then some (.ifCond .eq 6, 3, 45, 48, 0, .null) else none) else (bif Nat.beq pc 45 then some (.bipush (-2), 2, 47, 0, 0, .int (-2)) else none)))))) else (bif Nat.blt pc 70 then (bif Nat.blt pc 56 then (bif Nat.blt pc 52 then (bif Nat.blt pc 48 then (bif Nat.beq pc 47 then some (.ireturn, 1, 48, 0, 0, .null) else none) else (bif Nat.blt pc 49 then (bif Nat.beq pc 48 then some (.aload_n 0, 1, 49, 0, 0, .null) else none) else (bif Nat.beq pc 49 then some (.getfield 102, 3, 52, 0, 45, .null) else none))) else (bif Nat.blt pc 53 then (bif Nat.beq pc 52 then some (.iload_n 1, 1, 53, 1, 0, .null) else none) else (bif Nat.blt pc 54 then (bif Nat.beq pc 53 then some (.iaload, 1, 54, 0, 0, .null) else none) else (bif Nat.beq pc 54 then some (.istore 4, 2, 56, 4, 0, .null) else none)))) else (bif Nat.blt pc 61 then (bif Nat.blt pc 57 then (bif Nat.beq pc 56 then some (.iload_n 3, 1, 57, 3, 0, .null) else none) else (bif Nat.blt pc 60 then (bif Nat.beq pc 57 then some (.ifCond .ne 19, 3, 60, 76, 0, .null) else none) else (bif Nat.beq pc 60 then some (.aload_n 0, 1, 61, 0, 0, .null) else none))) else (bif Nat.blt pc 64 then (bif Nat.blt pc 63 then (bif Nat.beq pc 61 then some (.iload 4, 2, 63, 4, 0, .null) else none) else (bif Nat.beq pc 63 then some (.iload_n 2, 1, 64, 2, 0, .null) else none)) else (bif Nat.blt pc 67 then (bif Nat.beq pc 64 then some (.invokevirtual 396, 3, 67, 63, 2, .ref 0) else none) else (bif Nat.beq pc 67 then some (.ifCond .eq 7, 3, 70, 74, 0, .null) else none))))) else (bif Nat.blt pc 80 then (bif Nat.blt pc 75 then (bif Nat.blt pc 71 then (bif Nat.beq pc 70 then some (.iconst 1, 1, 71, 0, 0, .int 1) else none) else (bif Nat.blt pc 74 then (bif Nat.beq pc 71 then some (.goto 4, 3, 74, 75, 0, .null) else none) else (bif Nat.beq pc 74 then some (.iconst 0, 1, 75, 0, 0, .int 0) else none))) else (bif Nat.blt pc 76 then (bif Nat.beq pc 75 then some (.ireturn, 1, 76, 0, 0, .null) else none) else (bif Nat.blt pc 77 then (bif Nat.beq pc 76 then some (.iload_n 2, 1, 77, 2, 0, .null) else none) else (bif Nat.beq pc 77 then some (.ifCond .ne 13, 3, 80, 90, 0, .null) else none)))) else (bif Nat.blt pc 86 then (bif Nat.blt pc 81 then (bif Nat.beq pc 80 then some (.aload_n 0, 1, 81, 0, 0, .null) else none) else (bif Nat.blt pc 84 then (bif Nat.beq pc 81 then some (.getfield 33, 3, 84, 0, 9, .null) else none) else (bif Nat.beq pc 84 then some (.iload 4, 2, 86, 4, 0, .null) else none))) else (bif Nat.blt pc 90 then (bif Nat.blt pc 87 then (bif Nat.beq pc 86 then some (.iaload, 1, 87, 0, 0, .null) else none) else (bif Nat.beq pc 87 then some (.goto 10, 3, 90, 97, 0, .null) else none)) else (bif Nat.blt pc 91 then (bif Nat.beq pc 90 then some (.aload_n 0, 1, 91, 0, 0, .null) else none) else (bif Nat.beq pc 91 then some (.getfield 36, 3, 94, 0, 10, .null) else none))))))) else (bif Nat.blt pc 142 then (bif Nat.blt pc 117 then (bif Nat.blt pc 103 then (bif Nat.blt pc 99 then (bif Nat.blt pc 96 then (bif Nat.beq pc 94 then some (.iload 4, 2, 96, 4, 0, .null) else none) else (bif Nat.blt pc 97 then (bif Nat.beq pc 96 then some (.iaload, 1, 97, 0, 0, .null) else none) else (bif Nat.beq pc 97 then some (.istore 5, 2, 99, 5, 0, .null) else none))) else (bif Nat.blt pc 100 then (bif Nat.beq pc 99 then some (.iconst 0, 1, 100, 0, 0, .int 0) else none) else (bif Nat.blt pc 102 then (bif Nat.beq pc 100 then some (.istore 6, 2, 102, 6, 0, .null) else none) else (bif Nat.beq pc 102 then some (.iconst 0, 1, 103, 0, 0, .int 0) else none)))) else (bif Nat.blt pc 108 then (bif Nat.blt pc 105 then (bif Nat.beq pc 103 then some (.istore 7, 2, 105, 7, 0, .null) else none) else (bif Nat.blt pc 107 then (bif Nat.beq pc 105 then some (.iload 7, 2, 107, 7, 0, .null) else none) else (bif Nat.beq pc 107 then some (.aload_n 0, 1, 108, 0, 0, .null) else none))) else (bif Nat.blt pc 114 then (bif Nat.blt pc 111 then (bif Nat.beq pc 108 then some (.getfield 162, 3, 111, 0, 19, .null) else none) else (bif Nat.beq pc 111 then some (.if_icmp .ge 76, 3, 114, 187, 0, .null) else none)) else (bif Nat.blt pc 115 then (bif Nat.beq pc 114 then some (.aload_n 0, 1, 115, 0, 0, .null) else none) else (bif Nat.beq pc 115 then some (.iload 7, 2, 117, 7, 0, .null) else none))))) else (bif Nat.blt pc 130 then (bif Nat.blt pc 123 then (bif Nat.blt pc 119 then (bif Nat.beq pc 117 then some (.iload 4, 2, 119, 4, 0, .null) else none) else (bif Nat.blt pc 120 then (bif Nat.beq pc 119 then some (.iload_n 2, 1, 120, 2, 0, .null) else none) else (bif Nat.beq pc 120 then some (.invokevirtual 392, 3, 123, 62, 3, .ref 0) else none))) else (bif Nat.blt pc 125 then (bif Nat.beq pc 123 then some (.istore 8, 2, 125, 8, 0, .null) else none) else (bif Nat.blt pc 127 then (bif Nat.beq pc 125 then some (.iload 8, 2, 127, 8, 0, .null) else none) else (bif Nat.beq pc 127 then some (.ifCond .eq 18, 3, 130, 145, 0, .null) else none)))) else (bif Nat.blt pc 134 then (bif Nat.blt pc 132 then (bif Nat.beq pc 130 then some (.iload 8, 2, 132, 8, 0, .null) else none) else (bif Nat.blt pc 133 then (bif Nat.beq pc 132 then some (.iload_n 3, 1, 133, 3, 0, .null) else none) else (bif Nat.beq pc 133 then some (.iconst 1, 1, 134, 0, 0, .int 1) else none))) else (bif Nat.blt pc 138 then (bif Nat.blt pc 137 then (bif Nat.beq pc 134 then some (.if_icmp .ne 7, 3, 137, 141, 0, .null) else none) else (bif Nat.beq pc 137 then some (.iconst 2, 1, 138, 0, 0, .int 2) else none)) else (bif Nat.blt pc 141 then (bif Nat.beq pc 138 then some (.goto 4, 3, 141, 142, 0, .null) else none) else (bif Nat.beq pc 141 then some (.iconst 1, 1, 142, 0, 0, .int 1) else none)))))) else (bif Nat.blt pc 166 then (bif Nat.blt pc 154 then (bif Nat.blt pc 149 then (bif Nat.blt pc 145 then (bif Nat.beq pc 142 then some (.if_icmp .ne 7, 3, 145, 149, 0, .null) else none) else (bif Nat.blt pc 146 then (bif Nat.beq pc 145 then some (.iconst 1, 1, 146, 0, 0, .int 1) else none) else (bif Nat.beq pc 146 then some (.goto 4, 3, 149, 150, 0, .null) else none))) else (bif Nat.blt pc 150 then (bif Nat.beq pc 149 then some (.iconst 0, 1, 150, 0, 0, .int 0) else none) else (bif Nat.blt pc 152 then (bif Nat.beq pc 150 then some (.istore 9, 2, 152, 9, 0, .null) else none) else (bif Nat.beq pc 152 then some (.iload 6, 2, 154, 6, 0, .null) else none)))) else (bif Nat.blt pc 161 then (bif Nat.blt pc 156 then (bif Nat.beq pc 154 then some (.iload 9, 2, 156, 9, 0, .null) else none) else (bif Nat.blt pc 159 then (bif Nat.beq pc 156 then some (.ifCond .eq 21, 3, 159, 177, 0, .null) else none) else (bif Nat.beq pc 159 then some (.iload 5, 2, 161, 5, 0, .null) else none))) else (bif Nat.blt pc 164 then (bif Nat.blt pc 163 then (bif Nat.beq pc 161 then some (.iload 7, 2, 163, 7, 0, .null) else none) else (bif Nat.beq pc 163 then some (.ishr, 1, 164, 0, 0, .null) else none)) else (bif Nat.blt pc 165 then (bif Nat.beq pc 164 then some (.iconst 1, 1, 165, 0, 0, .int 1) else none) else (bif Nat.beq pc 165 then some (.iand, 1, 166, 0, 0, .null) else none))))) else (bif Nat.blt pc 177 then (bif Nat.blt pc 171 then (bif Nat.blt pc 167 then (bif Nat.beq pc 166 then some (.iconst 1, 1, 167, 0, 0, .int 1) else none) else (bif Nat.blt pc 170 then (bif Nat.beq pc 167 then some (.if_icmp .ne 10, 3, 170, 177, 0, .null) else none) else (bif Nat.beq pc 170 then some (.iconst 1, 1, 171, 0, 0, .int 1) else none))) else (bif Nat.blt pc 173 then (bif Nat.beq pc 171 then some (.iload 7, 2, 173, 7, 0, .null) else none) else (bif Nat.blt pc 174 then (bif Nat.beq pc 173 then some (.ishl, 1, 174, 0, 0, .null) else none) else (bif Nat.beq pc 174 then some (.goto 4, 3, 177, 178, 0, .null) else none)))) else (bif Nat.blt pc 181 then (bif Nat.blt pc 178 then (bif Nat.beq pc 177 then some (.iconst 0, 1, 178, 0, 0, .int 0) else none) else (bif Nat.blt pc 179 then (bif Nat.beq pc 178 then some (.ior, 1, 179, 0, 0, .null) else none) else (bif Nat.beq pc 179 then some (.istore 6, 2, 181, 6, 0, .null) else none))) else (bif Nat.blt pc 187 then (bif Nat.blt pc 184 then (bif Nat.beq pc 181 then some (.iinc 7 1, 3, 184, 7, 0, .int 1) else none) else (bif Nat.beq pc 184 then some (.goto (-79), 3, 187, 105, 0, .null) else none)) else (bif Nat.blt pc 189 then (bif Nat.beq pc 187 then some (.iload 6, 2, 189, 6, 0, .null) else none) else (bif Nat.beq pc 189 then some (.ireturn, 1, 190, 0, 0, .null) else none)))))))
def rq_T64 (pc : Nat) : Option pv_I := bif Nat.blt pc 190 then rq_U64 pc else none
def rq_U65 (pc : Nat) : Option pv_I := bif Nat.blt pc 23 then (bif Nat.blt pc 11 then (bif Nat.blt pc 7 then (bif Nat.blt pc 3 then (bif Nat.beq pc 0 then some (.sipush 3600, 3, 3, 0, 0, .int 3600) else none) else (bif Nat.blt pc 4 then (bif Nat.beq pc 3 then some (.aload_n 0, 1, 4, 0, 0, .null) else none) else (bif Nat.beq pc 4 then some (.getfield 26, 3, 7, 0, 7, .null) else none))) else (bif Nat.blt pc 9 then (bif Nat.blt pc 8 then (bif Nat.beq pc 7 then some (.iload_n 1, 1, 8, 1, 0, .null) else none) else (bif Nat.beq pc 8 then some (.iaload, 1, 9, 0, 0, .null) else none)) else (bif Nat.blt pc 10 then (bif Nat.beq pc 9 then some (.imul, 1, 10, 0, 0, .null) else none) else (bif Nat.beq pc 10 then some (.istore_n 2, 1, 11, 2, 0, .null) else none)))) else (bif Nat.blt pc 17 then (bif Nat.blt pc 15 then (bif Nat.blt pc 12 then (bif Nat.beq pc 11 then some (.aload_n 0, 1, 12, 0, 0, .null) else none) else (bif Nat.beq pc 12 then some (.getfield 127, 3, 15, 0, 56, .null) else none)) else (bif Nat.blt pc 16 then (bif Nat.beq pc 15 then some (.iload_n 2, 1, 16, 2, 0, .null) else none) else (bif Nat.beq pc 16 then some (.iload_n 1, 1, 17, 1, 0, .null) else none))) else (bif Nat.blt pc 21 then (bif Nat.blt pc 18 then (bif Nat.beq pc 17 then some (.iconst 3, 1, 18, 0, 0, .int 3) else none) else (bif Nat.beq pc 18 then some (.invokestatic 324, 3, 21, 43, 2, .null) else none)) else (bif Nat.blt pc 22 then (bif Nat.beq pc 21 then some (.iadd, 1, 22, 0, 0, .null) else none) else (bif Nat.beq pc 22 then some (.baload, 1, 23, 0, 0, .null) else none))))) else (bif Nat.blt pc 35 then (bif Nat.blt pc 29 then (bif Nat.blt pc 27 then (bif Nat.blt pc 24 then (bif Nat.beq pc 23 then some (.aload_n 0, 1, 24, 0, 0, .null) else none) else (bif Nat.beq pc 24 then some (.getfield 127, 3, 27, 0, 56, .null) else none)) else (bif Nat.blt pc 28 then (bif Nat.beq pc 27 then some (.iload_n 2, 1, 28, 2, 0, .null) else none) else (bif Nat.beq pc 28 then some (.iload_n 1, 1, 29, 1, 0, .null) else none))) else (bif Nat.blt pc 33 then (bif Nat.blt pc 30 then (bif Nat.beq pc 29 then some (.iconst 4, 1, 30, 0, 0, .int 4) else none) else (bif Nat.beq pc 30 then some (.invokestatic 324, 3, 33, 43, 2, .null) else none)) else (bif Nat.blt pc 34 then (bif Nat.beq pc 33 then some (.iadd, 1, 34, 0, 0, .null) else none) else (bif Nat.beq pc 34 then some (.baload, 1, 35, 0, 0, .null) else none)))) else (bif Nat.blt pc 41 then (bif Nat.blt pc 37 then (bif Nat.blt pc 36 then (bif Nat.beq pc 35 then some (.ior, 1, 36, 0, 0, .null) else none) else (bif Nat.beq pc 36 then some (.iconst 2, 1, 37, 0, 0, .int 2) else none)) else (bif Nat.blt pc 38 then (bif Nat.beq pc 37 then some (.iand, 1, 38, 0, 0, .null) else none) else (bif Nat.beq pc 38 then some (.ifCond .eq 7, 3, 41, 45, 0, .null) else none))) else (bif Nat.blt pc 45 then (bif Nat.blt pc 42 then (bif Nat.beq pc 41 then some (.iconst 1, 1, 42, 0, 0, .int 1) else none) else (bif Nat.beq pc 42 then some (.goto 4, 3, 45, 46, 0, .null) else none)) else (bif Nat.blt pc 46 then (bif Nat.beq pc 45 then some (.iconst 0, 1, 46, 0, 0, .int 0) else none) else (bif Nat.beq pc 46 then some (.ireturn, 1, 47, 0, 0, .null) else none)))))
def rq_T65 (pc : Nat) : Option pv_I := bif Nat.blt pc 47 then rq_U65 pc else none
def rq_U66 (pc : Nat) : Option pv_I := bif Nat.blt pc 49 then (bif Nat.blt pc 24 then (bif Nat.blt pc 11 then (bif Nat.blt pc 5 then (bif Nat.blt pc 1 then (bif Nat.beq pc 0 then some (.aload_n 0, 1, 1, 0, 0, .null) else none) else (bif Nat.blt pc 4 then (bif Nat.beq pc 1 then some (.getfield 29, 3, 4, 0, 8, .null) else none) else (bif Nat.beq pc 4 then some (.iload_n 1, 1, 5, 1, 0, .null) else none))) else (bif Nat.blt pc 9 then (bif Nat.blt pc 6 then (bif Nat.beq pc 5 then some (.baload, 1, 6, 0, 0, .null) else none) else (bif Nat.beq pc 6 then some (.ifCond .eq 18, 3, 9, 24, 0, .null) else none)) else (bif Nat.blt pc 10 then (bif Nat.beq pc 9 then some (.aload_n 0, 1, 10, 0, 0, .null) else none) else (bif Nat.beq pc 10 then some (.iload_n 1, 1, 11, 1, 0, .null) else none)))) else (bif Nat.blt pc 18 then (bif Nat.blt pc 12 then (bif Nat.beq pc 11 then some (.iconst 0, 1, 12, 0, 0, .int 0) else none) else (bif Nat.blt pc 15 then (bif Nat.beq pc 12 then some (.invokevirtual 396, 3, 15, 63, 2, .ref 0) else none) else (bif Nat.beq pc 15 then some (.ifCond .eq 7, 3, 18, 22, 0, .null) else none))) else (bif Nat.blt pc 22 then (bif Nat.blt pc 19 then (bif Nat.beq pc 18 then some (.iconst 0, 1, 19, 0, 0, .int 0) else none) else (bif Nat.beq pc 19 then some (.goto 4, 3, 22, 23, 0, .null) else none)) else (bif Nat.blt pc 23 then (bif Nat.beq pc 22 then some (.iconst 3, 1, 23, 0, 0, .int 3) else none) else (bif Nat.beq pc 23 then some (.ireturn, 1, 24, 0, 0, .null) else none))))) else (bif Nat.blt pc 36 then (bif Nat.blt pc 29 then (bif Nat.blt pc 25 then (bif Nat.beq pc 24 then some (.aload_n 0, 1, 25, 0, 0, .null) else none) else (bif Nat.blt pc 28 then (bif Nat.beq pc 25 then some (.getfield 13, 3, 28, 0, 3, .null) else none) else (bif Nat.beq pc 28 then some (.iload_n 1, 1, 29, 1, 0, .null) else none))) else (bif Nat.blt pc 32 then (bif Nat.blt pc 30 then (bif Nat.beq pc 29 then some (.iaload, 1, 30, 0, 0, .null) else none) else (bif Nat.beq pc 30 then some (.bipush 61, 2, 32, 0, 0, .int 61) else none)) else (bif Nat.blt pc 35 then (bif Nat.beq pc 32 then some (.if_icmp .ne 31, 3, 35, 63, 0, .null) else none) else (bif Nat.beq pc 35 then some (.aload_n 0, 1, 36, 0, 0, .null) else none)))) else (bif Nat.blt pc 43 then (bif Nat.blt pc 39 then (bif Nat.beq pc 36 then some (.getfield 63, 3, 39, 0, 21, .null) else none) else (bif Nat.blt pc 40 then (bif Nat.beq pc 39 then some (.aload_n 0, 1, 40, 0, 0, .null) else none) else (bif Nat.beq pc 40 then some (.getfield 26, 3, 43, 0, 7, .null) else none))) else (bif Nat.blt pc 45 then (bif Nat.blt pc 44 then (bif Nat.beq pc 43 then some (.iload_n 1, 1, 44, 1, 0, .null) else none) else (bif Nat.beq pc 44 then some (.iaload, 1, 45, 0, 0, .null) else none)) else (bif Nat.blt pc 46 then (bif Nat.beq pc 45 then some (.baload, 1, 46, 0, 0, .null) else none) else (bif Nat.beq pc 46 then some (.ifCond .eq 15, 3, 49, 61, 0, .null) else none)))))) else (bif Nat.blt pc 73 then (bif Nat.blt pc 62 then (bif Nat.blt pc 54 then (bif Nat.blt pc 50 then (bif Nat.beq pc 49 then some (.aload_n 0, 1, 50, 0, 0, .null) else none) else (bif Nat.blt pc 51 then (bif Nat.beq pc 50 then some (.iload_n 1, 1, 51, 1, 0, .null) else none) else (bif Nat.beq pc 51 then some (.invokevirtual 399, 3, 54, 65, 1, .ref 0) else none))) else (bif Nat.blt pc 58 then (bif Nat.blt pc 57 then (bif Nat.beq pc 54 then some (.ifCond .eq 7, 3, 57, 61, 0, .null) else none) else (bif Nat.beq pc 57 then some (.iconst 2, 1, 58, 0, 0, .int 2) else none)) else (bif Nat.blt pc 61 then (bif Nat.beq pc 58 then some (.goto 4, 3, 61, 62, 0, .null) else none) else (bif Nat.beq pc 61 then some (.iconst 0, 1, 62, 0, 0, .int 0) else none)))) else (bif Nat.blt pc 67 then (bif Nat.blt pc 63 then (bif Nat.beq pc 62 then some (.ireturn, 1, 63, 0, 0, .null) else none) else (bif Nat.blt pc 64 then (bif Nat.beq pc 63 then some (.aload_n 0, 1, 64, 0, 0, .null) else none) else (bif Nat.beq pc 64 then some (.getfield 26, 3, 67, 0, 7, .null) else none))) else (bif Nat.blt pc 69 then (bif Nat.blt pc 68 then (bif Nat.beq pc 67 then some (.iload_n 1, 1, 68, 1, 0, .null) else none) else (bif Nat.beq pc 68 then some (.iaload, 1, 69, 0, 0, .null) else none)) else (bif Nat.blt pc 70 then (bif Nat.beq pc 69 then some (.iconst (-1), 1, 70, 0, 0, .int (-1)) else none) else (bif Nat.beq pc 70 then some (.if_icmp .eq 24, 3, 73, 94, 0, .null) else none))))) else (bif Nat.blt pc 82 then (bif Nat.blt pc 78 then (bif Nat.blt pc 74 then (bif Nat.beq pc 73 then some (.aload_n 0, 1, 74, 0, 0, .null) else none) else (bif Nat.blt pc 75 then (bif Nat.beq pc 74 then some (.aload_n 0, 1, 75, 0, 0, .null) else none) else (bif Nat.beq pc 75 then some (.getfield 26, 3, 78, 0, 7, .null) else none))) else (bif Nat.blt pc 80 then (bif Nat.blt pc 79 then (bif Nat.beq pc 78 then some (.iload_n 1, 1, 79, 1, 0, .null) else none) else (bif Nat.beq pc 79 then some (.iaload, 1, 80, 0, 0, .null) else none)) else (bif Nat.blt pc 81 then (bif Nat.beq pc 80 then some (.iload_n 1, 1, 81, 1, 0, .null) else none) else (bif Nat.beq pc 81 then some (.iconst 0, 1, 82, 0, 0, .int 0) else none)))) else (bif Nat.blt pc 90 then (bif Nat.blt pc 86 then (bif Nat.blt pc 85 then (bif Nat.beq pc 82 then some (.invokevirtual 392, 3, 85, 62, 3, .ref 0) else none) else (bif Nat.beq pc 85 then some (.iconst 1, 1, 86, 0, 0, .int 1) else none)) else (bif Nat.blt pc 87 then (bif Nat.beq pc 86 then some (.iand, 1, 87, 0, 0, .null) else none) else (bif Nat.beq pc 87 then some (.ifCond .eq 7, 3, 90, 94, 0, .null) else none))) else (bif Nat.blt pc 94 then (bif Nat.blt pc 91 then (bif Nat.beq pc 90 then some (.iconst 1, 1, 91, 0, 0, .int 1) else none) else (bif Nat.beq pc 91 then some (.goto 4, 3, 94, 95, 0, .null) else none)) else (bif Nat.blt pc 95 then (bif Nat.beq pc 94 then some (.iconst 0, 1, 95, 0, 0, .int 0) else none) else (bif Nat.beq pc 95 then some (.ireturn, 1, 96, 0, 0, .null) else none))))))
def rq_T66 (pc : Nat) : Option pv_I := bif Nat.blt pc 96 then rq_U66 pc else none
def rq_U67 (pc : Nat) : Option pv_I := bif Nat.blt pc 32 then (bif Nat.blt pc 14 then (bif Nat.blt pc 6 then (bif Nat.blt pc 2 then (bif Nat.blt pc 1 then (bif Nat.beq pc 0 then some (.iload_n 2, 1, 1, 2, 0, .null) else none) else (bif Nat.beq pc 1 then some (.iconst 0, 1, 2, 0, 0, .int 0) else none)) else (bif Nat.blt pc 3 then (bif Nat.beq pc 2 then some (.iconst 1, 1, 3, 0, 0, .int 1) else none) else (bif Nat.beq pc 3 then some (.invokestatic 152, 3, 6, 0, 3, .null) else none))) else (bif Nat.blt pc 11 then (bif Nat.blt pc 9 then (bif Nat.beq pc 6 then some (.ifCond .ne 6, 3, 9, 12, 0, .null) else none) else (bif Nat.beq pc 9 then some (.bipush (-2), 2, 11, 0, 0, .int (-2)) else none)) else (bif Nat.blt pc 12 then (bif Nat.beq pc 11 then some (.ireturn, 1, 12, 0, 0, .null) else none) else (bif Nat.blt pc 13 then (bif Nat.beq pc 12 then some (.iload_n 1, 1, 13, 1, 0, .null) else none) else (bif Nat.beq pc 13 then some (.istore_n 3, 1, 14, 3, 0, .null) else none))))) else (bif Nat.blt pc 23 then (bif Nat.blt pc 17 then (bif Nat.blt pc 15 then (bif Nat.beq pc 14 then some (.iconst 0, 1, 15, 0, 0, .int 0) else none) else (bif Nat.beq pc 15 then some (.istore 4, 2, 17, 4, 0, .null) else none)) else (bif Nat.blt pc 19 then (bif Nat.beq pc 17 then some (.iload 4, 2, 19, 4, 0, .null) else none) else (bif Nat.blt pc 20 then (bif Nat.beq pc 19 then some (.aload_n 0, 1, 20, 0, 0, .null) else none) else (bif Nat.beq pc 20 then some (.getfield 159, 3, 23, 0, 2, .null) else none)))) else (bif Nat.blt pc 27 then (bif Nat.blt pc 26 then (bif Nat.beq pc 23 then some (.if_icmp .ge 50, 3, 26, 73, 0, .null) else none) else (bif Nat.beq pc 26 then some (.iload_n 1, 1, 27, 1, 0, .null) else none)) else (bif Nat.blt pc 30 then (bif Nat.beq pc 27 then some (.ifCond .lt 46, 3, 30, 73, 0, .null) else none) else (bif Nat.blt pc 31 then (bif Nat.beq pc 30 then some (.aload_n 0, 1, 31, 0, 0, .null) else none) else (bif Nat.beq pc 31 then some (.aload_n 0, 1, 32, 0, 0, .null) else none)))))) else (bif Nat.blt pc 53 then (bif Nat.blt pc 43 then (bif Nat.blt pc 37 then (bif Nat.blt pc 35 then (bif Nat.beq pc 32 then some (.getfield 102, 3, 35, 0, 45, .null) else none) else (bif Nat.beq pc 35 then some (.iload 4, 2, 37, 4, 0, .null) else none)) else (bif Nat.blt pc 38 then (bif Nat.beq pc 37 then some (.iaload, 1, 38, 0, 0, .null) else none) else (bif Nat.blt pc 41 then (bif Nat.beq pc 38 then some (.invokevirtual 402, 3, 41, 66, 1, .ref 0) else none) else (bif Nat.beq pc 41 then some (.istore 5, 2, 43, 5, 0, .null) else none)))) else (bif Nat.blt pc 48 then (bif Nat.blt pc 45 then (bif Nat.beq pc 43 then some (.iload 5, 2, 45, 5, 0, .null) else none) else (bif Nat.beq pc 45 then some (.ifCond .le 22, 3, 48, 67, 0, .null) else none)) else (bif Nat.blt pc 49 then (bif Nat.beq pc 48 then some (.iload_n 3, 1, 49, 3, 0, .null) else none) else (bif Nat.blt pc 52 then (bif Nat.beq pc 49 then some (.ifCond .ne 15, 3, 52, 64, 0, .null) else none) else (bif Nat.beq pc 52 then some (.iload_n 2, 1, 53, 2, 0, .null) else none))))) else (bif Nat.blt pc 64 then (bif Nat.blt pc 58 then (bif Nat.blt pc 56 then (bif Nat.beq pc 53 then some (.ifCond .ne 8, 3, 56, 61, 0, .null) else none) else (bif Nat.beq pc 56 then some (.iload 4, 2, 58, 4, 0, .null) else none)) else (bif Nat.blt pc 61 then (bif Nat.beq pc 58 then some (.goto 5, 3, 61, 63, 0, .null) else none) else (bif Nat.blt pc 63 then (bif Nat.beq pc 61 then some (.iload 5, 2, 63, 5, 0, .null) else none) else (bif Nat.beq pc 63 then some (.ireturn, 1, 64, 0, 0, .null) else none)))) else (bif Nat.blt pc 70 then (bif Nat.blt pc 67 then (bif Nat.beq pc 64 then some (.iinc 3 (-1), 3, 67, 3, 0, .int (-1)) else none) else (bif Nat.beq pc 67 then some (.iinc 4 1, 3, 70, 4, 0, .int 1) else none)) else (bif Nat.blt pc 73 then (bif Nat.beq pc 70 then some (.goto (-53), 3, 73, 17, 0, .null) else none) else (bif Nat.blt pc 74 then (bif Nat.beq pc 73 then some (.iconst (-1), 1, 74, 0, 0, .int (-1)) else none) else (bif Nat.beq pc 74 then some (.ireturn, 1, 75, 0, 0, .null) else none))))))
def rq_T67 (pc : Nat) : Option pv_I := bif Nat.blt pc 75 then rq_U67 pc else none
def rq_U68 (pc : Nat) : Option pv_I := bif Nat.blt pc 102 then (bif Nat.blt pc 50 then (bif Nat.blt pc 25 then (bif Nat.blt pc 11 then (bif Nat.blt pc 3 then (bif Nat.blt pc 1 then (bif Nat.beq pc 0 then some (.iload_n 1, 1, 1, 1, 0, .null) else none) else (bif Nat.blt pc 2 then (bif Nat.beq pc 1 then some (.iconst 0, 1, 2, 0, 0, .int 0) else none) else (bif Nat.beq pc 2 then some (.aload_n 0, 1, 3, 0, 0, .null) else none))) else (bif Nat.blt pc 7 then (bif Nat.blt pc 6 then (bif Nat.beq pc 3 then some (.getfield 162, 3, 6, 0, 19, .null) else none) else (bif Nat.beq pc 6 then some (.iconst 1, 1, 7, 0, 0, .int 1) else none)) else (bif Nat.blt pc 8 then (bif Nat.beq pc 7 then some (.isub, 1, 8, 0, 0, .null) else none) else (bif Nat.beq pc 8 then some (.invokestatic 152, 3, 11, 0, 3, .null) else none)))) else (bif Nat.blt pc 16 then (bif Nat.blt pc 14 then (bif Nat.beq pc 11 then some (.ifCond .eq 12, 3, 14, 23, 0, .null) else none) else (bif Nat.blt pc 15 then (bif Nat.beq pc 14 then some (.iload_n 2, 1, 15, 2, 0, .null) else none) else (bif Nat.beq pc 15 then some (.iconst 0, 1, 16, 0, 0, .int 0) else none))) else (bif Nat.blt pc 20 then (bif Nat.blt pc 17 then (bif Nat.beq pc 16 then some (.iconst 5, 1, 17, 0, 0, .int 5) else none) else (bif Nat.beq pc 17 then some (.invokestatic 152, 3, 20, 0, 3, .null) else none)) else (bif Nat.blt pc 23 then (bif Nat.beq pc 20 then some (.ifCond .ne 6, 3, 23, 26, 0, .null) else none) else (bif Nat.beq pc 23 then some (.bipush (-2), 2, 25, 0, 0, .int (-2)) else none))))) else (bif Nat.blt pc 34 then (bif Nat.blt pc 28 then (bif Nat.blt pc 26 then (bif Nat.beq pc 25 then some (.ireturn, 1, 26, 0, 0, .null) else none) else (bif Nat.blt pc 27 then (bif Nat.beq pc 26 then some (.iconst 0, 1, 27, 0, 0, .int 0) else none) else (bif Nat.beq pc 27 then some (.istore_n 3, 1, 28, 3, 0, .null) else none))) else (bif Nat.blt pc 31 then (bif Nat.blt pc 29 then (bif Nat.beq pc 28 then some (.iconst 0, 1, 29, 0, 0, .int 0) else none) else (bif Nat.beq pc 29 then some (.istore 4, 2, 31, 4, 0, .null) else none)) else (bif Nat.blt pc 32 then (bif Nat.beq pc 31 then some (.iconst 1, 1, 32, 0, 0, .int 1) else none) else (bif Nat.beq pc 32 then some (.istore 5, 2, 34, 5, 0, .null) else none)))) else (bif Nat.blt pc 40 then (bif Nat.blt pc 37 then (bif Nat.blt pc 35 then (bif Nat.beq pc 34 then some (.iconst 0, 1, 35, 0, 0, .int 0) else none) else (bif Nat.beq pc 35 then some (.istore 6, 2, 37, 6, 0, .null) else none)) else (bif Nat.blt pc 39 then (bif Nat.beq pc 37 then some (.iload 6, 2, 39, 6, 0, .null) else none) else (bif Nat.beq pc 39 then some (.aload_n 0, 1, 40, 0, 0, .null) else none))) else (bif Nat.blt pc 46 then (bif Nat.blt pc 43 then (bif Nat.beq pc 40 then some (.getfield 159, 3, 43, 0, 2, .null) else none) else (bif Nat.beq pc 43 then some (.if_icmp .ge 105, 3, 46, 148, 0, .null) else none)) else (bif Nat.blt pc 47 then (bif Nat.beq pc 46 then some (.aload_n 0, 1, 47, 0, 0, .null) else none) else (bif Nat.beq pc 47 then some (.getfield 29, 3, 50, 0, 8, .null) else none)))))) else (bif Nat.blt pc 75 then (bif Nat.blt pc 63 then (bif Nat.blt pc 56 then (bif Nat.blt pc 52 then (bif Nat.beq pc 50 then some (.iload 6, 2, 52, 6, 0, .null) else none) else (bif Nat.blt pc 53 then (bif Nat.beq pc 52 then some (.baload, 1, 53, 0, 0, .null) else none) else (bif Nat.beq pc 53 then some (.ifCond .ne 89, 3, 56, 142, 0, .null) else none))) else (bif Nat.blt pc 60 then (bif Nat.blt pc 57 then (bif Nat.beq pc 56 then some (.aload_n 0, 1, 57, 0, 0, .null) else none) else (bif Nat.beq pc 57 then some (.getfield 26, 3, 60, 0, 7, .null) else none)) else (bif Nat.blt pc 62 then (bif Nat.beq pc 60 then some (.iload 6, 2, 62, 6, 0, .null) else none) else (bif Nat.beq pc 62 then some (.iaload, 1, 63, 0, 0, .null) else none)))) else (bif Nat.blt pc 68 then (bif Nat.blt pc 64 then (bif Nat.beq pc 63 then some (.iload_n 1, 1, 64, 1, 0, .null) else none) else (bif Nat.blt pc 67 then (bif Nat.beq pc 64 then some (.if_icmp .ne 78, 3, 67, 142, 0, .null) else none) else (bif Nat.beq pc 67 then some (.iload_n 3, 1, 68, 3, 0, .null) else none))) else (bif Nat.blt pc 72 then (bif Nat.blt pc 69 then (bif Nat.beq pc 68 then some (.aload_n 0, 1, 69, 0, 0, .null) else none) else (bif Nat.beq pc 69 then some (.getfield 13, 3, 72, 0, 3, .null) else none)) else (bif Nat.blt pc 74 then (bif Nat.beq pc 72 then some (.iload 6, 2, 74, 6, 0, .null) else none) else (bif Nat.beq pc 74 then some (.iaload, 1, 75, 0, 0, .null) else none))))) else (bif Nat.blt pc 87 then (bif Nat.blt pc 81 then (bif Nat.blt pc 77 then (bif Nat.beq pc 75 then some (.bipush 61, 2, 77, 0, 0, .int 61) else none) else (bif Nat.blt pc 80 then (bif Nat.beq pc 77 then some (.if_icmp .ne 7, 3, 80, 84, 0, .null) else none) else (bif Nat.beq pc 80 then some (.iconst 0, 1, 81, 0, 0, .int 0) else none))) else (bif Nat.blt pc 85 then (bif Nat.blt pc 84 then (bif Nat.beq pc 81 then some (.goto 4, 3, 84, 85, 0, .null) else none) else (bif Nat.beq pc 84 then some (.iconst 1, 1, 85, 0, 0, .int 1) else none)) else (bif Nat.blt pc 86 then (bif Nat.beq pc 85 then some (.iadd, 1, 86, 0, 0, .null) else none) else (bif Nat.beq pc 86 then some (.istore_n 3, 1, 87, 3, 0, .null) else none)))) else (bif Nat.blt pc 95 then (bif Nat.blt pc 90 then (bif Nat.blt pc 89 then (bif Nat.beq pc 87 then some (.iload 4, 2, 89, 4, 0, .null) else none) else (bif Nat.beq pc 89 then some (.aload_n 0, 1, 90, 0, 0, .null) else none)) else (bif Nat.blt pc 93 then (bif Nat.beq pc 90 then some (.getfield 13, 3, 93, 0, 3, .null) else none) else (bif Nat.beq pc 93 then some (.iload 6, 2, 95, 6, 0, .null) else none))) else (bif Nat.blt pc 98 then (bif Nat.blt pc 96 then (bif Nat.beq pc 95 then some (.iaload, 1, 96, 0, 0, .null) else none) else (bif Nat.beq pc 96 then some (.bipush 61, 2, 98, 0, 0, .int 61) else none)) else (bif Nat.blt pc 101 then (bif Nat.beq pc 98 then some (.if_icmp .ne 7, 3, 101, 105, 0, .null) else none) else (bif Nat.beq pc 101 then some (.iconst 1, 1, 102, 0, 0, .int 1) else none))))))) else (bif Nat.blt pc 192 then (bif Nat.blt pc 129 then (bif Nat.blt pc 115 then (bif Nat.blt pc 107 then (bif Nat.blt pc 105 then (bif Nat.beq pc 102 then some (.goto 4, 3, 105, 106, 0, .null) else none) else (bif Nat.blt pc 106 then (bif Nat.beq pc 105 then some (.iconst 0, 1, 106, 0, 0, .int 0) else none) else (bif Nat.beq pc 106 then some (.iadd, 1, 107, 0, 0, .null) else none))) else (bif Nat.blt pc 111 then (bif Nat.blt pc 109 then (bif Nat.beq pc 107 then some (.istore 4, 2, 109, 4, 0, .null) else none) else (bif Nat.beq pc 109 then some (.iload 5, 2, 111, 5, 0, .null) else none)) else (bif Nat.blt pc 114 then (bif Nat.beq pc 111 then some (.ifCond .eq 28, 3, 114, 139, 0, .null) else none) else (bif Nat.beq pc 114 then some (.aload_n 0, 1, 115, 0, 0, .null) else none)))) else (bif Nat.blt pc 121 then (bif Nat.blt pc 118 then (bif Nat.beq pc 115 then some (.getfield 13, 3, 118, 0, 3, .null) else none) else (bif Nat.blt pc 120 then (bif Nat.beq pc 118 then some (.iload 6, 2, 120, 6, 0, .null) else none) else (bif Nat.beq pc 120 then some (.iaload, 1, 121, 0, 0, .null) else none))) else (bif Nat.blt pc 126 then (bif Nat.blt pc 123 then (bif Nat.beq pc 121 then some (.bipush 61, 2, 123, 0, 0, .int 61) else none) else (bif Nat.beq pc 123 then some (.if_icmp .ne 12, 3, 126, 135, 0, .null) else none)) else (bif Nat.blt pc 127 then (bif Nat.beq pc 126 then some (.aload_n 0, 1, 127, 0, 0, .null) else none) else (bif Nat.beq pc 127 then some (.iload 6, 2, 129, 6, 0, .null) else none))))) else (bif Nat.blt pc 145 then (bif Nat.blt pc 136 then (bif Nat.blt pc 132 then (bif Nat.beq pc 129 then some (.invokevirtual 399, 3, 132, 65, 1, .ref 0) else none) else (bif Nat.blt pc 135 then (bif Nat.beq pc 132 then some (.ifCond .ne 7, 3, 135, 139, 0, .null) else none) else (bif Nat.beq pc 135 then some (.iconst 1, 1, 136, 0, 0, .int 1) else none))) else (bif Nat.blt pc 140 then (bif Nat.blt pc 139 then (bif Nat.beq pc 136 then some (.goto 4, 3, 139, 140, 0, .null) else none) else (bif Nat.beq pc 139 then some (.iconst 0, 1, 140, 0, 0, .int 0) else none)) else (bif Nat.blt pc 142 then (bif Nat.beq pc 140 then some (.istore 5, 2, 142, 5, 0, .null) else none) else (bif Nat.beq pc 142 then some (.iinc 6 1, 3, 145, 6, 0, .int 1) else none)))) else (bif Nat.blt pc 186 then (bif Nat.blt pc 149 then (bif Nat.blt pc 148 then (bif Nat.beq pc 145 then some (.goto (-108), 3, 148, 37, 0, .null) else none) else (bif Nat.beq pc 148 then some (.iload_n 2, 1, 149, 2, 0, .null) else none)) else (bif Nat.blt pc 184 then (bif Nat.beq pc 149 then some (.tableswitch 85 0 4 #[35, 45, 60, 72, 83], 35, 184, 0, 0, .null) else none) else (bif Nat.beq pc 184 then some (.bipush 97, 2, 186, 0, 0, .int 97) else none))) else (bif Nat.blt pc 190 then (bif Nat.blt pc 187 then (bif Nat.beq pc 186 then some (.aload_n 0, 1, 187, 0, 0, .null) else none) else (bif Nat.beq pc 187 then some (.getfield 60, 3, 190, 0, 20, .null) else none)) else (bif Nat.blt pc 191 then (bif Nat.beq pc 190 then some (.iload_n 1, 1, 191, 1, 0, .null) else none) else (bif Nat.beq pc 191 then some (.iaload, 1, 192, 0, 0, .null) else none)))))) else (bif Nat.blt pc 214 then (bif Nat.blt pc 203 then (bif Nat.blt pc 195 then (bif Nat.blt pc 193 then (bif Nat.beq pc 192 then some (.iadd, 1, 193, 0, 0, .null) else none) else (bif Nat.blt pc 194 then (bif Nat.beq pc 193 then some (.ireturn, 1, 194, 0, 0, .null) else none) else (bif Nat.beq pc 194 then some (.aload_n 0, 1, 195, 0, 0, .null) else none))) else (bif Nat.blt pc 199 then (bif Nat.blt pc 198 then (bif Nat.beq pc 195 then some (.getfield 63, 3, 198, 0, 21, .null) else none) else (bif Nat.beq pc 198 then some (.iload_n 1, 1, 199, 1, 0, .null) else none)) else (bif Nat.blt pc 200 then (bif Nat.beq pc 199 then some (.baload, 1, 200, 0, 0, .null) else none) else (bif Nat.beq pc 200 then some (.ifCond .eq 7, 3, 203, 207, 0, .null) else none)))) else (bif Nat.blt pc 208 then (bif Nat.blt pc 204 then (bif Nat.beq pc 203 then some (.iconst 1, 1, 204, 0, 0, .int 1) else none) else (bif Nat.blt pc 207 then (bif Nat.beq pc 204 then some (.goto 4, 3, 207, 208, 0, .null) else none) else (bif Nat.beq pc 207 then some (.iconst 0, 1, 208, 0, 0, .int 0) else none))) else (bif Nat.blt pc 210 then (bif Nat.blt pc 209 then (bif Nat.beq pc 208 then some (.ireturn, 1, 209, 0, 0, .null) else none) else (bif Nat.beq pc 209 then some (.aload_n 0, 1, 210, 0, 0, .null) else none)) else (bif Nat.blt pc 213 then (bif Nat.beq pc 210 then some (.getfield 99, 3, 213, 0, 44, .null) else none) else (bif Nat.beq pc 213 then some (.aload_n 0, 1, 214, 0, 0, .null) else none))))) else (bif Nat.blt pc 226 then (bif Nat.blt pc 219 then (bif Nat.blt pc 217 then (bif Nat.beq pc 214 then some (.getfield 66, 3, 217, 0, 22, .null) else none) else (bif Nat.blt pc 218 then (bif Nat.beq pc 217 then some (.iload_n 1, 1, 218, 1, 0, .null) else none) else (bif Nat.beq pc 218 then some (.iaload, 1, 219, 0, 0, .null) else none))) else (bif Nat.blt pc 221 then (bif Nat.blt pc 220 then (bif Nat.beq pc 219 then some (.iaload, 1, 220, 0, 0, .null) else none) else (bif Nat.beq pc 220 then some (.ireturn, 1, 221, 0, 0, .null) else none)) else (bif Nat.blt pc 223 then (bif Nat.beq pc 221 then some (.iload 5, 2, 223, 5, 0, .null) else none) else (bif Nat.beq pc 223 then some (.ifCond .eq 7, 3, 226, 230, 0, .null) else none)))) else (bif Nat.blt pc 232 then (bif Nat.blt pc 230 then (bif Nat.blt pc 227 then (bif Nat.beq pc 226 then some (.iconst 1, 1, 227, 0, 0, .int 1) else none) else (bif Nat.beq pc 227 then some (.goto 4, 3, 230, 231, 0, .null) else none)) else (bif Nat.blt pc 231 then (bif Nat.beq pc 230 then some (.iconst 0, 1, 231, 0, 0, .int 0) else none) else (bif Nat.beq pc 231 then some (.ireturn, 1, 232, 0, 0, .null) else none))) else (bif Nat.blt pc 234 then (bif Nat.blt pc 233 then (bif Nat.beq pc 232 then some (.iload_n 3, 1, 233, 3, 0, .null) else none) else (bif Nat.beq pc 233 then some (.ireturn, 1, 234, 0, 0, .null) else none)) else (bif Nat.blt pc 236 then (bif Nat.beq pc 234 then some (.iload 4, 2, 236, 4, 0, .null) else none) else (bif Nat.beq pc 236 then some (.ireturn, 1, 237, 0, 0, .null) else none)))))))
def rq_T68 (pc : Nat) : Option pv_I := bif Nat.blt pc 237 then rq_U68 pc else none
def rq_U69 (pc : Nat) : Option pv_I := bif Nat.blt pc 101 then (bif Nat.blt pc 67 then (bif Nat.blt pc 49 then (bif Nat.blt pc 40 then (bif Nat.blt pc 2 then (bif Nat.blt pc 1 then (bif Nat.beq pc 0 then some (.iconst 0, 1, 1, 0, 0, .int 0) else none) else (bif Nat.beq pc 1 then some (.istore_n 2, 1, 2, 2, 0, .null) else none)) else (bif Nat.blt pc 3 then (bif Nat.beq pc 2 then some (.iload_n 1, 1, 3, 1, 0, .null) else none) else (bif Nat.beq pc 3 then some (.tableswitch 163 0 5 #[37, 42, 47, 65, 70, 96], 37, 40, 0, 0, .null) else none))) else (bif Nat.blt pc 44 then (bif Nat.blt pc 41 then (bif Nat.beq pc 40 then some (.aload_n 0, 1, 41, 0, 0, .null) else none) else (bif Nat.beq pc 41 then some (.getfield 159, 3, 44, 0, 2, .null) else none)) else (bif Nat.blt pc 45 then (bif Nat.beq pc 44 then some (.ireturn, 1, 45, 0, 0, .null) else none) else (bif Nat.blt pc 46 then (bif Nat.beq pc 45 then some (.aload_n 0, 1, 46, 0, 0, .null) else none) else (bif Nat.beq pc 46 then some (.getfield 162, 3, 49, 0, 19, .null) else none))))) else (bif Nat.blt pc 56 then (bif Nat.blt pc 51 then (bif Nat.blt pc 50 then (bif Nat.beq pc 49 then some (.ireturn, 1, 50, 0, 0, .null) else none) else (bif Nat.beq pc 50 then some (.aload_n 0, 1, 51, 0, 0, .null) else none)) else (bif Nat.blt pc 52 then (bif Nat.beq pc 51 then some (.iload_n 2, 1, 52, 2, 0, .null) else none) else (bif Nat.blt pc 53 then (bif Nat.beq pc 52 then some (.iconst 0, 1, 53, 0, 0, .int 0) else none) else (bif Nat.beq pc 53 then some (.invokevirtual 405, 3, 56, 67, 2, .ref 0) else none)))) else (bif Nat.blt pc 60 then (bif Nat.blt pc 57 then (bif Nat.beq pc 56 then some (.iconst (-1), 1, 57, 0, 0, .int (-1)) else none) else (bif Nat.beq pc 57 then some (.if_icmp .eq 9, 3, 60, 66, 0, .null) else none)) else (bif Nat.blt pc 63 then (bif Nat.beq pc 60 then some (.iinc 2 1, 3, 63, 2, 0, .int 1) else none) else (bif Nat.blt pc 66 then (bif Nat.beq pc 63 then some (.goto (-13), 3, 66, 50, 0, .null) else none) else (bif Nat.beq pc 66 then some (.iload_n 2, 1, 67, 2, 0, .null) else none)))))) else (bif Nat.blt pc 85 then (bif Nat.blt pc 74 then (bif Nat.blt pc 69 then (bif Nat.blt pc 68 then (bif Nat.beq pc 67 then some (.ireturn, 1, 68, 0, 0, .null) else none) else (bif Nat.beq pc 68 then some (.aload_n 0, 1, 69, 0, 0, .null) else none)) else (bif Nat.blt pc 72 then (bif Nat.beq pc 69 then some (.getfield 156, 3, 72, 0, 1, .null) else none) else (bif Nat.blt pc 73 then (bif Nat.beq pc 72 then some (.ireturn, 1, 73, 0, 0, .null) else none) else (bif Nat.beq pc 73 then some (.aload_n 0, 1, 74, 0, 0, .null) else none)))) else (bif Nat.blt pc 80 then (bif Nat.blt pc 77 then (bif Nat.beq pc 74 then some (.getfield 127, 3, 77, 0, 56, .null) else none) else (bif Nat.beq pc 77 then some (.sipush 3600, 3, 80, 0, 0, .int 3600) else none)) else (bif Nat.blt pc 81 then (bif Nat.beq pc 80 then some (.aload_n 0, 1, 81, 0, 0, .null) else none) else (bif Nat.blt pc 84 then (bif Nat.beq pc 81 then some (.getfield 162, 3, 84, 0, 19, .null) else none) else (bif Nat.beq pc 84 then some (.imul, 1, 85, 0, 0, .null) else none))))) else (bif Nat.blt pc 94 then (bif Nat.blt pc 89 then (bif Nat.blt pc 88 then (bif Nat.beq pc 85 then some (.sipush 1300, 3, 88, 0, 0, .int 1300) else none) else (bif Nat.beq pc 88 then some (.iadd, 1, 89, 0, 0, .null) else none)) else (bif Nat.blt pc 90 then (bif Nat.beq pc 89 then some (.baload, 1, 90, 0, 0, .null) else none) else (bif Nat.blt pc 93 then (bif Nat.beq pc 90 then some (.ifCond .eq 7, 3, 93, 97, 0, .null) else none) else (bif Nat.beq pc 93 then some (.iconst 1, 1, 94, 0, 0, .int 1) else none)))) else (bif Nat.blt pc 98 then (bif Nat.blt pc 97 then (bif Nat.beq pc 94 then some (.goto 4, 3, 97, 98, 0, .null) else none) else (bif Nat.beq pc 97 then some (.iconst 0, 1, 98, 0, 0, .int 0) else none)) else (bif Nat.blt pc 99 then (bif Nat.beq pc 98 then some (.ireturn, 1, 99, 0, 0, .null) else none) else (bif Nat.blt pc 100 then (bif Nat.beq pc 99 then some (.iconst 0, 1, 100, 0, 0, .int 0) else none) else (bif Nat.beq pc 100 then some (.istore_n 3, 1, 101, 3, 0, .null) else none))))))) else (bif Nat.blt pc 138 then (bif Nat.blt pc 121 then (bif Nat.blt pc 110 then (bif Nat.blt pc 103 then (bif Nat.blt pc 102 then (bif Nat.beq pc 101 then some (.iload_n 3, 1, 102, 3, 0, .null) else none) else (bif Nat.beq pc 102 then some (.aload_n 0, 1, 103, 0, 0, .null) else none)) else (bif Nat.blt pc 106 then (bif Nat.beq pc 103 then some (.getfield 162, 3, 106, 0, 19, .null) else none) else (bif Nat.blt pc 109 then (bif Nat.beq pc 106 then some (.if_icmp .ge 58, 3, 109, 164, 0, .null) else none) else (bif Nat.beq pc 109 then some (.aload_n 0, 1, 110, 0, 0, .null) else none)))) else (bif Nat.blt pc 116 then (bif Nat.blt pc 113 then (bif Nat.beq pc 110 then some (.getfield 127, 3, 113, 0, 56, .null) else none) else (bif Nat.beq pc 113 then some (.sipush 3600, 3, 116, 0, 0, .int 3600) else none)) else (bif Nat.blt pc 117 then (bif Nat.beq pc 116 then some (.iload_n 3, 1, 117, 3, 0, .null) else none) else (bif Nat.blt pc 118 then (bif Nat.beq pc 117 then some (.imul, 1, 118, 0, 0, .null) else none) else (bif Nat.beq pc 118 then some (.sipush 1300, 3, 121, 0, 0, .int 1300) else none))))) else (bif Nat.blt pc 128 then (bif Nat.blt pc 123 then (bif Nat.blt pc 122 then (bif Nat.beq pc 121 then some (.iadd, 1, 122, 0, 0, .null) else none) else (bif Nat.beq pc 122 then some (.baload, 1, 123, 0, 0, .null) else none)) else (bif Nat.blt pc 125 then (bif Nat.beq pc 123 then some (.istore 4, 2, 125, 4, 0, .null) else none) else (bif Nat.blt pc 126 then (bif Nat.beq pc 125 then some (.iload_n 2, 1, 126, 2, 0, .null) else none) else (bif Nat.beq pc 126 then some (.iload 4, 2, 128, 4, 0, .null) else none)))) else (bif Nat.blt pc 133 then (bif Nat.blt pc 131 then (bif Nat.beq pc 128 then some (.ifCond .eq 9, 3, 131, 137, 0, .null) else none) else (bif Nat.beq pc 131 then some (.iload 4, 2, 133, 4, 0, .null) else none)) else (bif Nat.blt pc 134 then (bif Nat.beq pc 133 then some (.iconst 2, 1, 134, 0, 0, .int 2) else none) else (bif Nat.blt pc 137 then (bif Nat.beq pc 134 then some (.if_icmp .ne 21, 3, 137, 155, 0, .null) else none) else (bif Nat.beq pc 137 then some (.aload_n 0, 1, 138, 0, 0, .null) else none)))))) else (bif Nat.blt pc 152 then (bif Nat.blt pc 145 then (bif Nat.blt pc 142 then (bif Nat.blt pc 141 then (bif Nat.beq pc 138 then some (.getfield 168, 3, 141, 0, 18, .null) else none) else (bif Nat.beq pc 141 then some (.iload_n 3, 1, 142, 3, 0, .null) else none)) else (bif Nat.blt pc 143 then (bif Nat.beq pc 142 then some (.ishr, 1, 143, 0, 0, .null) else none) else (bif Nat.blt pc 144 then (bif Nat.beq pc 143 then some (.iconst 1, 1, 144, 0, 0, .int 1) else none) else (bif Nat.beq pc 144 then some (.iand, 1, 145, 0, 0, .null) else none)))) else (bif Nat.blt pc 149 then (bif Nat.blt pc 146 then (bif Nat.beq pc 145 then some (.iconst 1, 1, 146, 0, 0, .int 1) else none) else (bif Nat.beq pc 146 then some (.if_icmp .ne 9, 3, 149, 155, 0, .null) else none)) else (bif Nat.blt pc 150 then (bif Nat.beq pc 149 then some (.iconst 1, 1, 150, 0, 0, .int 1) else none) else (bif Nat.blt pc 151 then (bif Nat.beq pc 150 then some (.iload_n 3, 1, 151, 3, 0, .null) else none) else (bif Nat.beq pc 151 then some (.ishl, 1, 152, 0, 0, .null) else none))))) else (bif Nat.blt pc 161 then (bif Nat.blt pc 156 then (bif Nat.blt pc 155 then (bif Nat.beq pc 152 then some (.goto 4, 3, 155, 156, 0, .null) else none) else (bif Nat.beq pc 155 then some (.iconst 0, 1, 156, 0, 0, .int 0) else none)) else (bif Nat.blt pc 157 then (bif Nat.beq pc 156 then some (.ior, 1, 157, 0, 0, .null) else none) else (bif Nat.blt pc 158 then (bif Nat.beq pc 157 then some (.istore_n 2, 1, 158, 2, 0, .null) else none) else (bif Nat.beq pc 158 then some (.iinc 3 1, 3, 161, 3, 0, .int 1) else none)))) else (bif Nat.blt pc 165 then (bif Nat.blt pc 164 then (bif Nat.beq pc 161 then some (.goto (-60), 3, 164, 101, 0, .null) else none) else (bif Nat.beq pc 164 then some (.iload_n 2, 1, 165, 2, 0, .null) else none)) else (bif Nat.blt pc 166 then (bif Nat.beq pc 165 then some (.ireturn, 1, 166, 0, 0, .null) else none) else (bif Nat.blt pc 168 then (bif Nat.beq pc 166 then some (.bipush (-2), 2, 168, 0, 0, .int (-2)) else none) else (bif Nat.beq pc 168 then some (.ireturn, 1, 169, 0, 0, .null) else none)))))))
def rq_T69 (pc : Nat) : Option pv_I := bif Nat.blt pc 169 then rq_U69 pc else none
def rq_M0 : pv_M := (⟨"AssignFlowModel", "isIn", "(III)Z"⟩, prog_10_method_2_code, 3, (some .boolean), true, 3, 1, rq_T0)
def rq_M1 : pv_M := (⟨"AssignFlowModel", "collect", "(JI)I"⟩, prog_10_method_3_code, 5, (some .int), false, 2, 0, rq_T1)
def rq_M2 : pv_M := (⟨"AssignFlowModel", "forget", "()I"⟩, prog_10_method_4_code, 2, (some .int), false, 0, 0, rq_T2)
def rq_M3 : pv_M := (⟨"AssignFlowModel", "clear", "()V"⟩, prog_10_method_5_code, 2, none, false, 0, 3, rq_T3)
def rq_M4 : pv_M := (⟨"AssignFlowModel", "pass", "()V"⟩, prog_10_method_6_code, 1, none, false, 0, 3, rq_T4)
def rq_M5 : pv_M := (⟨"AssignFlowModel", "here", "()I"⟩, prog_10_method_7_code, 1, (some .int), false, 0, 0, rq_T5)
def rq_M6 : pv_M := (⟨"AssignFlowModel", "fail", "(I)V"⟩, prog_10_method_8_code, 2, none, false, 1, 3, rq_T6)
def rq_M7 : pv_M := (⟨"AssignFlowModel", "failHere", "()V"⟩, prog_10_method_9_code, 1, none, false, 0, 3, rq_T7)
def rq_M8 : pv_M := (⟨"AssignFlowModel", "isRight", "()Z"⟩, prog_10_method_10_code, 1, (some .boolean), false, 0, 1, rq_T8)
def rq_M9 : pv_M := (⟨"AssignFlowModel", "take", "(I)V"⟩, prog_10_method_11_code, 2, none, false, 1, 3, rq_T9)
def rq_M10 : pv_M := (⟨"AssignFlowModel", "isName", "(I)Z"⟩, prog_10_method_12_code, 1, (some .boolean), true, 1, 1, rq_T10)
def rq_M11 : pv_M := (⟨"AssignFlowModel", "isLabel", "(I)Z"⟩, prog_10_method_13_code, 1, (some .boolean), true, 1, 1, rq_T11)
def rq_M12 : pv_M := (⟨"AssignFlowModel", "thereNow", "()I"⟩, prog_10_method_14_code, 3, (some .int), false, 0, 0, rq_T12)
def rq_M13 : pv_M := (⟨"AssignFlowModel", "node", "(IIZ)I"⟩, prog_10_method_15_code, 5, (some .int), false, 3, 0, rq_T13)
def rq_M14 : pv_M := (⟨"AssignFlowModel", "push", "(II)V"⟩, prog_10_method_16_code, 3, none, false, 2, 3, rq_T14)
def rq_M15 : pv_M := (⟨"AssignFlowModel", "nest", "()V"⟩, prog_10_method_17_code, 1, none, false, 0, 3, rq_T15)
def rq_M16 : pv_M := (⟨"AssignFlowModel", "top", "()I"⟩, prog_10_method_18_code, 1, (some .int), false, 0, 0, rq_T16)
def rq_M17 : pv_M := (⟨"AssignFlowModel", "reduce", "()V"⟩, prog_10_method_19_code, 3, none, false, 0, 3, rq_T17)
def rq_M18 : pv_M := (⟨"AssignFlowModel", "reduceWhile", "(ZZZ)V"⟩, prog_10_method_20_code, 6, none, false, 3, 3, rq_T18)
def rq_M19 : pv_M := (⟨"AssignFlowModel", "waits", "(I)Z"⟩, prog_10_method_21_code, 3, (some .boolean), false, 1, 1, rq_T19)
def rq_M20 : pv_M := (⟨"AssignFlowModel", "infix", "(I)I"⟩, prog_10_method_22_code, 3, (some .int), false, 1, 0, rq_T20)
def rq_M21 : pv_M := (⟨"AssignFlowModel", "readE", "(I)I"⟩, prog_10_method_23_code, 6, (some .int), false, 1, 0, rq_T21)
def rq_M22 : pv_M := (⟨"AssignFlowModel", "readName", "(IZ)Z"⟩, prog_10_method_24_code, 6, (some .boolean), false, 2, 1, rq_T22)
def rq_M23 : pv_M := (⟨"AssignFlowModel", "readOperator", "(I)Z"⟩, prog_10_method_25_code, 3, (some .boolean), false, 1, 1, rq_T23)
def rq_M24 : pv_M := (⟨"AssignFlowModel", "close", "(I)V"⟩, prog_10_method_26_code, 2, none, false, 1, 3, rq_T24)
def rq_M25 : pv_M := (⟨"AssignFlowModel", "begin", "(I)V"⟩, prog_10_method_27_code, 2, none, false, 1, 3, rq_T25)
def rq_M26 : pv_M := (⟨"AssignFlowModel", "readStmt", "(ZI)V"⟩, prog_10_method_28_code, 7, none, false, 2, 3, rq_T26)
def rq_M27 : pv_M := (⟨"AssignFlowModel", "readGiven", "(II)V"⟩, prog_10_method_29_code, 4, none, false, 2, 3, rq_T27)
def rq_M28 : pv_M := (⟨"AssignFlowModel", "readLabel", "(II)V"⟩, prog_10_method_30_code, 4, none, false, 2, 3, rq_T28)
def rq_M29 : pv_M := (⟨"AssignFlowModel", "isLoop", "(I)Z"⟩, prog_10_method_31_code, 1, (some .boolean), true, 1, 1, rq_T29)
def rq_M30 : pv_M := (⟨"AssignFlowModel", "readJump", "(II)V"⟩, prog_10_method_32_code, 6, none, false, 2, 3, rq_T30)
def rq_M31 : pv_M := (⟨"AssignFlowModel", "finish", "()V"⟩, prog_10_method_33_code, 1, none, false, 0, 3, rq_T31)
def rq_M32 : pv_M := (⟨"AssignFlowModel", "readList", "(I)Z"⟩, prog_10_method_34_code, 2, (some .boolean), false, 1, 1, rq_T32)
def rq_M33 : pv_M := (⟨"AssignFlowModel", "step", "()V"⟩, prog_10_method_35_code, 3, none, false, 0, 3, rq_T33)
def rq_M34 : pv_M := (⟨"AssignFlowModel", "readPart", "(I)V"⟩, prog_10_method_36_code, 2, none, false, 1, 3, rq_T34)
def rq_M35 : pv_M := (⟨"AssignFlowModel", "readBody", "()V"⟩, prog_10_method_37_code, 1, none, false, 0, 3, rq_T35)
def rq_M36 : pv_M := (⟨"AssignFlowModel", "stepIf", "(II)V"⟩, prog_10_method_38_code, 3, none, false, 2, 3, rq_T36)
def rq_M37 : pv_M := (⟨"AssignFlowModel", "stepCases", "(II)V"⟩, prog_10_method_39_code, 4, none, false, 2, 3, rq_T37)
def rq_M38 : pv_M := (⟨"AssignFlowModel", "stepTry", "(II)V"⟩, prog_10_method_40_code, 4, none, false, 2, 3, rq_T38)
def rq_M39 : pv_M := (⟨"AssignFlowModel", "parse", "(I)V"⟩, prog_10_method_41_code, 3, none, false, 1, 3, rq_T39)
def rq_M40 : pv_M := (⟨"AssignFlowModel", "order", "()V"⟩, prog_10_method_42_code, 4, none, false, 0, 3, rq_T40)
def rq_M41 : pv_M := (⟨"AssignFlowModel", "edge", "(III)V"⟩, prog_10_method_43_code, 4, none, false, 3, 3, rq_T41)
def rq_M42 : pv_M := (⟨"AssignFlowModel", "go", "(II)V"⟩, prog_10_method_44_code, 3, none, false, 2, 3, rq_T42)
def rq_M43 : pv_M := (⟨"AssignFlowModel", "point", "(II)I"⟩, prog_10_method_45_code, 2, (some .int), true, 2, 0, rq_T43)
def rq_M44 : pv_M := (⟨"AssignFlowModel", "child", "(IIZ)I"⟩, prog_10_method_46_code, 7, (some .int), false, 3, 0, rq_T44)
def rq_M45 : pv_M := (⟨"AssignFlowModel", "chain", "(IIII)V"⟩, prog_10_method_47_code, 8, none, false, 4, 3, rq_T45)
def rq_M46 : pv_M := (⟨"AssignFlowModel", "ends", "(III)V"⟩, prog_10_method_48_code, 4, none, false, 3, 3, rq_T46)
def rq_M47 : pv_M := (⟨"AssignFlowModel", "way", "(II)I"⟩, prog_10_method_49_code, 4, (some .int), false, 2, 0, rq_T47)
def rq_M48 : pv_M := (⟨"AssignFlowModel", "leave", "(II)I"⟩, prog_10_method_50_code, 5, (some .int), false, 2, 0, rq_T48)
def rq_M49 : pv_M := (⟨"AssignFlowModel", "build", "()V"⟩, prog_10_method_51_code, 2, none, false, 0, 3, rq_T49)
def rq_M50 : pv_M := (⟨"AssignFlowModel", "isTried", "(I)Z"⟩, prog_10_method_52_code, 3, (some .boolean), false, 1, 1, rq_T50)
def rq_M51 : pv_M := (⟨"AssignFlowModel", "buildStmt", "(I)V"⟩, prog_10_method_53_code, 8, none, false, 1, 3, rq_T51)
def rq_M52 : pv_M := (⟨"AssignFlowModel", "buildCases", "(III)V"⟩, prog_10_method_54_code, 7, none, false, 3, 3, rq_T52)
def rq_M53 : pv_M := (⟨"AssignFlowModel", "buildE", "(I)V"⟩, prog_10_method_55_code, 8, none, false, 1, 3, rq_T53)
def rq_M54 : pv_M := (⟨"AssignFlowModel", "come", "([BIII)V"⟩, prog_10_method_56_code, 5, none, false, 4, 3, rq_T54)
def rq_M55 : pv_M := (⟨"AssignFlowModel", "isWithin", "(II)Z"⟩, prog_10_method_57_code, 4, (some .boolean), false, 2, 1, rq_T55)
def rq_M56 : pv_M := (⟨"AssignFlowModel", "walk", "(I[BII)V"⟩, prog_10_method_58_code, 10, none, false, 4, 3, rq_T56)
def rq_M57 : pv_M := (⟨"AssignFlowModel", "solve", "()V"⟩, prog_10_method_59_code, 6, none, false, 0, 3, rq_T57)
def rq_M58 : pv_M := (⟨"AssignFlowModel", "read", "()I"⟩, prog_10_method_60_code, 2, (some .int), false, 0, 0, rq_T58)
def rq_M59 : pv_M := (⟨"AssignFlowModel", "fault", "()I"⟩, prog_10_method_61_code, 1, (some .int), false, 0, 0, rq_T59)
def rq_M60 : pv_M := (⟨"AssignFlowModel", "isPlace", "(I)Z"⟩, prog_10_method_62_code, 2, (some .boolean), false, 1, 1, rq_T60)
def rq_M61 : pv_M := (⟨"AssignFlowModel", "place", "(II)I"⟩, prog_10_method_63_code, 4, (some .int), false, 2, 0, rq_T61)
def rq_M62 : pv_M := (⟨"AssignFlowModel", "states", "(III)I"⟩, prog_10_method_64_code, 5, (some .int), false, 3, 0, rq_T62)
def rq_M63 : pv_M := (⟨"AssignFlowModel", "isReached", "(II)Z"⟩, prog_10_method_65_code, 3, (some .boolean), false, 2, 1, rq_T63)
def rq_M64 : pv_M := (⟨"AssignFlowModel", "fact", "(III)I"⟩, prog_10_method_66_code, 10, (some .int), false, 3, 0, rq_T64)
def rq_M65 : pv_M := (⟨"AssignFlowModel", "isTwice", "(I)Z"⟩, prog_10_method_67_code, 3, (some .boolean), false, 1, 1, rq_T65)
def rq_M66 : pv_M := (⟨"AssignFlowModel", "errorAt", "(I)I"⟩, prog_10_method_68_code, 2, (some .int), false, 1, 0, rq_T66)
def rq_M67 : pv_M := (⟨"AssignFlowModel", "error", "(II)I"⟩, prog_10_method_69_code, 6, (some .int), false, 2, 0, rq_T67)
def rq_M68 : pv_M := (⟨"AssignFlowModel", "variable", "(II)I"⟩, prog_10_method_70_code, 7, (some .int), false, 2, 0, rq_T68)
def rq_M69 : pv_M := (⟨"AssignFlowModel", "count", "(I)I"⟩, prog_10_method_71_code, 5, (some .int), false, 1, 0, rq_T69)
def rq_ms : List pv_M := [rq_M0, rq_M1, rq_M2, rq_M3, rq_M4, rq_M5, rq_M6, rq_M7, rq_M8, rq_M9, rq_M10, rq_M11, rq_M12, rq_M13, rq_M14, rq_M15, rq_M16, rq_M17, rq_M18, rq_M19, rq_M20, rq_M21, rq_M22, rq_M23, rq_M24, rq_M25, rq_M26, rq_M27, rq_M28, rq_M29, rq_M30, rq_M31, rq_M32, rq_M33, rq_M34, rq_M35, rq_M36, rq_M37, rq_M38, rq_M39, rq_M40, rq_M41, rq_M42, rq_M43, rq_M44, rq_M45, rq_M46, rq_M47, rq_M48, rq_M49, rq_M50, rq_M51, rq_M52, rq_M53, rq_M54, rq_M55, rq_M56, rq_M57, rq_M58, rq_M59, rq_M60, rq_M61, rq_M62, rq_M63, rq_M64, rq_M65, rq_M66, rq_M67, rq_M68, rq_M69]
def rq_mt (j : Nat) : Option pv_M := pv_at rq_ms j
def rq_mas : List (Bool × Nat × Nat) := [(true, 3, 0), (false, 2, 0), (false, 0, 0), (false, 0, 0), (false, 0, 0), (false, 0, 0), (false, 1, 0), (false, 0, 0), (false, 0, 0), (false, 1, 0), (true, 1, 0), (true, 1, 0), (false, 0, 0), (false, 3, 0), (false, 2, 0), (false, 0, 0), (false, 0, 0), (false, 0, 0), (false, 3, 0), (false, 1, 0), (false, 1, 0), (false, 1, 0), (false, 2, 0), (false, 1, 0), (false, 1, 0), (false, 1, 0), (false, 2, 0), (false, 2, 0), (false, 2, 0), (true, 1, 0), (false, 2, 0), (false, 0, 0), (false, 1, 0), (false, 0, 0), (false, 1, 0), (false, 0, 0), (false, 2, 0), (false, 2, 0), (false, 2, 0), (false, 1, 0), (false, 0, 0), (false, 3, 0), (false, 2, 0), (true, 2, 0), (false, 3, 0), (false, 4, 0), (false, 3, 0), (false, 2, 0), (false, 2, 0), (false, 0, 0), (false, 1, 0), (false, 1, 0), (false, 3, 0), (false, 1, 0), (false, 4, 0), (false, 2, 0), (false, 4, 0), (false, 0, 0), (false, 0, 0), (false, 0, 0), (false, 1, 0), (false, 2, 0), (false, 3, 0), (false, 2, 0), (false, 3, 0), (false, 1, 0), (false, 1, 0), (false, 2, 0), (false, 2, 0), (false, 1, 0)]
def rq_ma (j : Nat) : Option (Bool × Nat × Nat) := pv_at rq_mas j
def rq_FL : List (Nat × Nat × Nat × Nat) := [(0, 7, 0, 0), (0, 13, 0, 3), (0, 17, 0, 4), (0, 20, 0, 5), (0, 23, 0, 6), (0, 26, 0, 7), (0, 29, 0, 8), (0, 33, 0, 9), (0, 36, 0, 10), (0, 39, 0, 11), (0, 42, 0, 12), (0, 45, 0, 13), (0, 48, 0, 14), (0, 51, 0, 15), (0, 54, 0, 16), (0, 57, 0, 17), (0, 60, 0, 20), (0, 63, 0, 21), (0, 66, 0, 22), (0, 69, 0, 23), (0, 72, 0, 24), (0, 75, 0, 29), (0, 78, 0, 30), (0, 81, 0, 32), (0, 84, 0, 37), (0, 87, 0, 38), (0, 90, 0, 39), (0, 93, 0, 42), (0, 96, 0, 43), (0, 99, 0, 44), (0, 102, 0, 45), (0, 105, 0, 46), (0, 108, 0, 47), (0, 111, 0, 48), (0, 114, 0, 49), (0, 117, 0, 52), (0, 120, 0, 53), (0, 123, 0, 54), (0, 127, 0, 56), (0, 130, 0, 57), (0, 133, 0, 58), (0, 136, 0, 59), (0, 139, 0, 61), (0, 156, 0, 1), (0, 159, 0, 2), (0, 162, 0, 19), (0, 165, 0, 25), (0, 168, 0, 18), (0, 171, 0, 26), (0, 174, 0, 27), (0, 180, 0, 28), (0, 201, 0, 31), (0, 204, 0, 34), (0, 207, 0, 33), (0, 238, 0, 35), (0, 242, 0, 36), (0, 256, 0, 40), (0, 262, 0, 41), (0, 317, 0, 50), (0, 331, 0, 55), (0, 343, 0, 51), (0, 368, 0, 60)]
def rq_ML : List (Nat × Nat × Nat) := [(0, 143, 3), (0, 146, 49), (0, 149, 57), (0, 152, 0), (0, 177, 4), (0, 183, 6), (0, 187, 8), (0, 191, 5), (0, 195, 7), (0, 198, 12), (0, 210, 16), (0, 213, 17), (0, 216, 13), (0, 220, 14), (0, 224, 15), (0, 227, 10), (0, 231, 22), (0, 235, 23), (0, 245, 18), (0, 249, 20), (0, 253, 19), (0, 259, 11), (0, 265, 21), (0, 268, 9), (0, 271, 27), (0, 274, 30), (0, 277, 28), (0, 280, 25), (0, 283, 29), (0, 286, 24), (0, 289, 26), (0, 293, 32), (0, 296, 31), (0, 299, 36), (0, 302, 34), (0, 305, 35), (0, 308, 37), (0, 311, 38), (0, 314, 33), (0, 320, 41), (0, 324, 43), (0, 328, 42), (0, 334, 47), (0, 337, 44), (0, 340, 40), (0, 346, 45), (0, 350, 51), (0, 353, 53), (0, 356, 50), (0, 359, 48), (0, 362, 46), (0, 365, 52), (0, 371, 55), (0, 375, 54), (0, 379, 56), (0, 383, 2), (0, 386, 39), (0, 389, 60), (0, 392, 62), (0, 396, 63), (0, 399, 65), (0, 402, 66), (0, 405, 67)]
def rq_CL : List (Nat × Nat × Value) := []
end
section
def rq_Wl : List Cond := u_ws "AssignFlowModel" rq_F0 62
def rq_Wc : List Cond := rq_ms.map (fun x => Cond.code x.1 x.2.1 x.2.2.1 x.2.2.2.1)
def rq_Wi : List Cond := [.initialized "AssignFlowModel"]
def rq_Ws : List Cond := [.static ⟨"AssignFlowModel", "isIn", "(III)Z"⟩, .static ⟨"AssignFlowModel", "isName", "(I)Z"⟩, .static ⟨"AssignFlowModel", "isLabel", "(I)Z"⟩, .static ⟨"AssignFlowModel", "isLoop", "(I)Z"⟩, .static ⟨"AssignFlowModel", "point", "(II)I"⟩]
def rq_Wm : List Cond := [.instanceMethod ⟨"AssignFlowModel", "collect", "(JI)I"⟩, .instanceMethod ⟨"AssignFlowModel", "forget", "()I"⟩, .instanceMethod ⟨"AssignFlowModel", "clear", "()V"⟩, .instanceMethod ⟨"AssignFlowModel", "pass", "()V"⟩, .instanceMethod ⟨"AssignFlowModel", "here", "()I"⟩, .instanceMethod ⟨"AssignFlowModel", "fail", "(I)V"⟩, .instanceMethod ⟨"AssignFlowModel", "failHere", "()V"⟩, .instanceMethod ⟨"AssignFlowModel", "isRight", "()Z"⟩, .instanceMethod ⟨"AssignFlowModel", "take", "(I)V"⟩, .instanceMethod ⟨"AssignFlowModel", "thereNow", "()I"⟩, .instanceMethod ⟨"AssignFlowModel", "node", "(IIZ)I"⟩, .instanceMethod ⟨"AssignFlowModel", "push", "(II)V"⟩, .instanceMethod ⟨"AssignFlowModel", "nest", "()V"⟩, .instanceMethod ⟨"AssignFlowModel", "top", "()I"⟩, .instanceMethod ⟨"AssignFlowModel", "reduce", "()V"⟩, .instanceMethod ⟨"AssignFlowModel", "reduceWhile", "(ZZZ)V"⟩, .instanceMethod ⟨"AssignFlowModel", "waits", "(I)Z"⟩, .instanceMethod ⟨"AssignFlowModel", "infix", "(I)I"⟩, .instanceMethod ⟨"AssignFlowModel", "readE", "(I)I"⟩, .instanceMethod ⟨"AssignFlowModel", "readName", "(IZ)Z"⟩, .instanceMethod ⟨"AssignFlowModel", "readOperator", "(I)Z"⟩, .instanceMethod ⟨"AssignFlowModel", "close", "(I)V"⟩, .instanceMethod ⟨"AssignFlowModel", "begin", "(I)V"⟩, .instanceMethod ⟨"AssignFlowModel", "readStmt", "(ZI)V"⟩, .instanceMethod ⟨"AssignFlowModel", "readGiven", "(II)V"⟩, .instanceMethod ⟨"AssignFlowModel", "readLabel", "(II)V"⟩, .instanceMethod ⟨"AssignFlowModel", "readJump", "(II)V"⟩, .instanceMethod ⟨"AssignFlowModel", "finish", "()V"⟩, .instanceMethod ⟨"AssignFlowModel", "readList", "(I)Z"⟩, .instanceMethod ⟨"AssignFlowModel", "step", "()V"⟩, .instanceMethod ⟨"AssignFlowModel", "readPart", "(I)V"⟩, .instanceMethod ⟨"AssignFlowModel", "readBody", "()V"⟩, .instanceMethod ⟨"AssignFlowModel", "stepIf", "(II)V"⟩, .instanceMethod ⟨"AssignFlowModel", "stepCases", "(II)V"⟩, .instanceMethod ⟨"AssignFlowModel", "stepTry", "(II)V"⟩, .instanceMethod ⟨"AssignFlowModel", "parse", "(I)V"⟩, .instanceMethod ⟨"AssignFlowModel", "order", "()V"⟩, .instanceMethod ⟨"AssignFlowModel", "edge", "(III)V"⟩, .instanceMethod ⟨"AssignFlowModel", "go", "(II)V"⟩, .instanceMethod ⟨"AssignFlowModel", "child", "(IIZ)I"⟩, .instanceMethod ⟨"AssignFlowModel", "chain", "(IIII)V"⟩, .instanceMethod ⟨"AssignFlowModel", "ends", "(III)V"⟩, .instanceMethod ⟨"AssignFlowModel", "way", "(II)I"⟩, .instanceMethod ⟨"AssignFlowModel", "leave", "(II)I"⟩, .instanceMethod ⟨"AssignFlowModel", "build", "()V"⟩, .instanceMethod ⟨"AssignFlowModel", "isTried", "(I)Z"⟩, .instanceMethod ⟨"AssignFlowModel", "buildStmt", "(I)V"⟩, .instanceMethod ⟨"AssignFlowModel", "buildCases", "(III)V"⟩, .instanceMethod ⟨"AssignFlowModel", "buildE", "(I)V"⟩, .instanceMethod ⟨"AssignFlowModel", "come", "([BIII)V"⟩, .instanceMethod ⟨"AssignFlowModel", "isWithin", "(II)Z"⟩, .instanceMethod ⟨"AssignFlowModel", "walk", "(I[BII)V"⟩, .instanceMethod ⟨"AssignFlowModel", "solve", "()V"⟩, .instanceMethod ⟨"AssignFlowModel", "read", "()I"⟩, .instanceMethod ⟨"AssignFlowModel", "fault", "()I"⟩, .instanceMethod ⟨"AssignFlowModel", "isPlace", "(I)Z"⟩, .instanceMethod ⟨"AssignFlowModel", "place", "(II)I"⟩, .instanceMethod ⟨"AssignFlowModel", "states", "(III)I"⟩, .instanceMethod ⟨"AssignFlowModel", "isReached", "(II)Z"⟩, .instanceMethod ⟨"AssignFlowModel", "fact", "(III)I"⟩, .instanceMethod ⟨"AssignFlowModel", "isTwice", "(I)Z"⟩, .instanceMethod ⟨"AssignFlowModel", "errorAt", "(I)I"⟩, .instanceMethod ⟨"AssignFlowModel", "error", "(II)I"⟩, .instanceMethod ⟨"AssignFlowModel", "variable", "(II)I"⟩, .instanceMethod ⟨"AssignFlowModel", "count", "(I)I"⟩]
def rq_We : List Cond := [.selects "AssignFlowModel" ⟨"AssignFlowModel", "collect", "(JI)I"⟩ ⟨"AssignFlowModel", "collect", "(JI)I"⟩, .selects "AssignFlowModel" ⟨"AssignFlowModel", "forget", "()I"⟩ ⟨"AssignFlowModel", "forget", "()I"⟩, .selects "AssignFlowModel" ⟨"AssignFlowModel", "clear", "()V"⟩ ⟨"AssignFlowModel", "clear", "()V"⟩, .selects "AssignFlowModel" ⟨"AssignFlowModel", "pass", "()V"⟩ ⟨"AssignFlowModel", "pass", "()V"⟩, .selects "AssignFlowModel" ⟨"AssignFlowModel", "here", "()I"⟩ ⟨"AssignFlowModel", "here", "()I"⟩, .selects "AssignFlowModel" ⟨"AssignFlowModel", "fail", "(I)V"⟩ ⟨"AssignFlowModel", "fail", "(I)V"⟩, .selects "AssignFlowModel" ⟨"AssignFlowModel", "failHere", "()V"⟩ ⟨"AssignFlowModel", "failHere", "()V"⟩, .selects "AssignFlowModel" ⟨"AssignFlowModel", "isRight", "()Z"⟩ ⟨"AssignFlowModel", "isRight", "()Z"⟩, .selects "AssignFlowModel" ⟨"AssignFlowModel", "take", "(I)V"⟩ ⟨"AssignFlowModel", "take", "(I)V"⟩, .selects "AssignFlowModel" ⟨"AssignFlowModel", "thereNow", "()I"⟩ ⟨"AssignFlowModel", "thereNow", "()I"⟩, .selects "AssignFlowModel" ⟨"AssignFlowModel", "node", "(IIZ)I"⟩ ⟨"AssignFlowModel", "node", "(IIZ)I"⟩, .selects "AssignFlowModel" ⟨"AssignFlowModel", "push", "(II)V"⟩ ⟨"AssignFlowModel", "push", "(II)V"⟩, .selects "AssignFlowModel" ⟨"AssignFlowModel", "nest", "()V"⟩ ⟨"AssignFlowModel", "nest", "()V"⟩, .selects "AssignFlowModel" ⟨"AssignFlowModel", "top", "()I"⟩ ⟨"AssignFlowModel", "top", "()I"⟩, .selects "AssignFlowModel" ⟨"AssignFlowModel", "reduce", "()V"⟩ ⟨"AssignFlowModel", "reduce", "()V"⟩, .selects "AssignFlowModel" ⟨"AssignFlowModel", "reduceWhile", "(ZZZ)V"⟩ ⟨"AssignFlowModel", "reduceWhile", "(ZZZ)V"⟩, .selects "AssignFlowModel" ⟨"AssignFlowModel", "waits", "(I)Z"⟩ ⟨"AssignFlowModel", "waits", "(I)Z"⟩, .selects "AssignFlowModel" ⟨"AssignFlowModel", "infix", "(I)I"⟩ ⟨"AssignFlowModel", "infix", "(I)I"⟩, .selects "AssignFlowModel" ⟨"AssignFlowModel", "readE", "(I)I"⟩ ⟨"AssignFlowModel", "readE", "(I)I"⟩, .selects "AssignFlowModel" ⟨"AssignFlowModel", "readName", "(IZ)Z"⟩ ⟨"AssignFlowModel", "readName", "(IZ)Z"⟩, .selects "AssignFlowModel" ⟨"AssignFlowModel", "readOperator", "(I)Z"⟩ ⟨"AssignFlowModel", "readOperator", "(I)Z"⟩, .selects "AssignFlowModel" ⟨"AssignFlowModel", "close", "(I)V"⟩ ⟨"AssignFlowModel", "close", "(I)V"⟩, .selects "AssignFlowModel" ⟨"AssignFlowModel", "begin", "(I)V"⟩ ⟨"AssignFlowModel", "begin", "(I)V"⟩, .selects "AssignFlowModel" ⟨"AssignFlowModel", "readStmt", "(ZI)V"⟩ ⟨"AssignFlowModel", "readStmt", "(ZI)V"⟩, .selects "AssignFlowModel" ⟨"AssignFlowModel", "readGiven", "(II)V"⟩ ⟨"AssignFlowModel", "readGiven", "(II)V"⟩, .selects "AssignFlowModel" ⟨"AssignFlowModel", "readLabel", "(II)V"⟩ ⟨"AssignFlowModel", "readLabel", "(II)V"⟩, .selects "AssignFlowModel" ⟨"AssignFlowModel", "readJump", "(II)V"⟩ ⟨"AssignFlowModel", "readJump", "(II)V"⟩, .selects "AssignFlowModel" ⟨"AssignFlowModel", "finish", "()V"⟩ ⟨"AssignFlowModel", "finish", "()V"⟩, .selects "AssignFlowModel" ⟨"AssignFlowModel", "readList", "(I)Z"⟩ ⟨"AssignFlowModel", "readList", "(I)Z"⟩, .selects "AssignFlowModel" ⟨"AssignFlowModel", "step", "()V"⟩ ⟨"AssignFlowModel", "step", "()V"⟩, .selects "AssignFlowModel" ⟨"AssignFlowModel", "readPart", "(I)V"⟩ ⟨"AssignFlowModel", "readPart", "(I)V"⟩, .selects "AssignFlowModel" ⟨"AssignFlowModel", "readBody", "()V"⟩ ⟨"AssignFlowModel", "readBody", "()V"⟩, .selects "AssignFlowModel" ⟨"AssignFlowModel", "stepIf", "(II)V"⟩ ⟨"AssignFlowModel", "stepIf", "(II)V"⟩, .selects "AssignFlowModel" ⟨"AssignFlowModel", "stepCases", "(II)V"⟩ ⟨"AssignFlowModel", "stepCases", "(II)V"⟩, .selects "AssignFlowModel" ⟨"AssignFlowModel", "stepTry", "(II)V"⟩ ⟨"AssignFlowModel", "stepTry", "(II)V"⟩, .selects "AssignFlowModel" ⟨"AssignFlowModel", "parse", "(I)V"⟩ ⟨"AssignFlowModel", "parse", "(I)V"⟩, .selects "AssignFlowModel" ⟨"AssignFlowModel", "order", "()V"⟩ ⟨"AssignFlowModel", "order", "()V"⟩, .selects "AssignFlowModel" ⟨"AssignFlowModel", "edge", "(III)V"⟩ ⟨"AssignFlowModel", "edge", "(III)V"⟩, .selects "AssignFlowModel" ⟨"AssignFlowModel", "go", "(II)V"⟩ ⟨"AssignFlowModel", "go", "(II)V"⟩, .selects "AssignFlowModel" ⟨"AssignFlowModel", "child", "(IIZ)I"⟩ ⟨"AssignFlowModel", "child", "(IIZ)I"⟩, .selects "AssignFlowModel" ⟨"AssignFlowModel", "chain", "(IIII)V"⟩ ⟨"AssignFlowModel", "chain", "(IIII)V"⟩, .selects "AssignFlowModel" ⟨"AssignFlowModel", "ends", "(III)V"⟩ ⟨"AssignFlowModel", "ends", "(III)V"⟩, .selects "AssignFlowModel" ⟨"AssignFlowModel", "way", "(II)I"⟩ ⟨"AssignFlowModel", "way", "(II)I"⟩, .selects "AssignFlowModel" ⟨"AssignFlowModel", "leave", "(II)I"⟩ ⟨"AssignFlowModel", "leave", "(II)I"⟩, .selects "AssignFlowModel" ⟨"AssignFlowModel", "build", "()V"⟩ ⟨"AssignFlowModel", "build", "()V"⟩, .selects "AssignFlowModel" ⟨"AssignFlowModel", "isTried", "(I)Z"⟩ ⟨"AssignFlowModel", "isTried", "(I)Z"⟩, .selects "AssignFlowModel" ⟨"AssignFlowModel", "buildStmt", "(I)V"⟩ ⟨"AssignFlowModel", "buildStmt", "(I)V"⟩, .selects "AssignFlowModel" ⟨"AssignFlowModel", "buildCases", "(III)V"⟩ ⟨"AssignFlowModel", "buildCases", "(III)V"⟩, .selects "AssignFlowModel" ⟨"AssignFlowModel", "buildE", "(I)V"⟩ ⟨"AssignFlowModel", "buildE", "(I)V"⟩, .selects "AssignFlowModel" ⟨"AssignFlowModel", "come", "([BIII)V"⟩ ⟨"AssignFlowModel", "come", "([BIII)V"⟩, .selects "AssignFlowModel" ⟨"AssignFlowModel", "isWithin", "(II)Z"⟩ ⟨"AssignFlowModel", "isWithin", "(II)Z"⟩, .selects "AssignFlowModel" ⟨"AssignFlowModel", "walk", "(I[BII)V"⟩ ⟨"AssignFlowModel", "walk", "(I[BII)V"⟩, .selects "AssignFlowModel" ⟨"AssignFlowModel", "solve", "()V"⟩ ⟨"AssignFlowModel", "solve", "()V"⟩, .selects "AssignFlowModel" ⟨"AssignFlowModel", "read", "()I"⟩ ⟨"AssignFlowModel", "read", "()I"⟩, .selects "AssignFlowModel" ⟨"AssignFlowModel", "fault", "()I"⟩ ⟨"AssignFlowModel", "fault", "()I"⟩, .selects "AssignFlowModel" ⟨"AssignFlowModel", "isPlace", "(I)Z"⟩ ⟨"AssignFlowModel", "isPlace", "(I)Z"⟩, .selects "AssignFlowModel" ⟨"AssignFlowModel", "place", "(II)I"⟩ ⟨"AssignFlowModel", "place", "(II)I"⟩, .selects "AssignFlowModel" ⟨"AssignFlowModel", "states", "(III)I"⟩ ⟨"AssignFlowModel", "states", "(III)I"⟩, .selects "AssignFlowModel" ⟨"AssignFlowModel", "isReached", "(II)Z"⟩ ⟨"AssignFlowModel", "isReached", "(II)Z"⟩, .selects "AssignFlowModel" ⟨"AssignFlowModel", "fact", "(III)I"⟩ ⟨"AssignFlowModel", "fact", "(III)I"⟩, .selects "AssignFlowModel" ⟨"AssignFlowModel", "isTwice", "(I)Z"⟩ ⟨"AssignFlowModel", "isTwice", "(I)Z"⟩, .selects "AssignFlowModel" ⟨"AssignFlowModel", "errorAt", "(I)I"⟩ ⟨"AssignFlowModel", "errorAt", "(I)I"⟩, .selects "AssignFlowModel" ⟨"AssignFlowModel", "error", "(II)I"⟩ ⟨"AssignFlowModel", "error", "(II)I"⟩, .selects "AssignFlowModel" ⟨"AssignFlowModel", "variable", "(II)I"⟩ ⟨"AssignFlowModel", "variable", "(II)I"⟩, .selects "AssignFlowModel" ⟨"AssignFlowModel", "count", "(I)I"⟩ ⟨"AssignFlowModel", "count", "(I)I"⟩]
def rq_Wf : List Cond := [.fieldLink "AssignFlowModel" 7 "AssignFlowModel" "row" "[B", .fieldLink "AssignFlowModel" 13 "AssignFlowModel" "sort" "[I", .fieldLink "AssignFlowModel" 17 "AssignFlowModel" "first" "[I", .fieldLink "AssignFlowModel" 20 "AssignFlowModel" "around" "[I", .fieldLink "AssignFlowModel" 23 "AssignFlowModel" "part" "[I", .fieldLink "AssignFlowModel" 26 "AssignFlowModel" "variable" "[I", .fieldLink "AssignFlowModel" 29 "AssignFlowModel" "isStmt" "[Z", .fieldLink "AssignFlowModel" 33 "AssignFlowModel" "thereBefore" "[I", .fieldLink "AssignFlowModel" 36 "AssignFlowModel" "thereAfter" "[I", .fieldLink "AssignFlowModel" 39 "AssignFlowModel" "label" "[I", .fieldLink "AssignFlowModel" 42 "AssignFlowModel" "target" "[I", .fieldLink "AssignFlowModel" 45 "AssignFlowModel" "isMarked" "[Z", .fieldLink "AssignFlowModel" 48 "AssignFlowModel" "hasOther" "[Z", .fieldLink "AssignFlowModel" 51 "AssignFlowModel" "hasCatch" "[Z", .fieldLink "AssignFlowModel" 54 "AssignFlowModel" "hasEnd" "[Z", .fieldLink "AssignFlowModel" 57 "AssignFlowModel" "hasElse" "[Z", .fieldLink "AssignFlowModel" 60 "AssignFlowModel" "nameOf" "[I", .fieldLink "AssignFlowModel" 63 "AssignFlowModel" "isFinal" "[Z", .fieldLink "AssignFlowModel" 66 "AssignFlowModel" "givenAt" "[I", .fieldLink "AssignFlowModel" 69 "AssignFlowModel" "named" "[I", .fieldLink "AssignFlowModel" 72 "AssignFlowModel" "scope" "[I", .fieldLink "AssignFlowModel" 75 "AssignFlowModel" "opSign" "[I", .fieldLink "AssignFlowModel" 78 "AssignFlowModel" "opNode" "[I", .fieldLink "AssignFlowModel" 81 "AssignFlowModel" "done" "[I", .fieldLink "AssignFlowModel" 84 "AssignFlowModel" "open" "[I", .fieldLink "AssignFlowModel" 87 "AssignFlowModel" "state" "[I", .fieldLink "AssignFlowModel" 90 "AssignFlowModel" "mark" "[I", .fieldLink "AssignFlowModel" 93 "AssignFlowModel" "tailMarked" "[Z", .fieldLink "AssignFlowModel" 96 "AssignFlowModel" "deep" "[I", .fieldLink "AssignFlowModel" 99 "AssignFlowModel" "number" "[I", .fieldLink "AssignFlowModel" 102 "AssignFlowModel" "byNumber" "[I", .fieldLink "AssignFlowModel" 105 "AssignFlowModel" "edgeTo" "[I", .fieldLink "AssignFlowModel" 108 "AssignFlowModel" "edgeDoes" "[I", .fieldLink "AssignFlowModel" 111 "AssignFlowModel" "edgeNext" "[I", .fieldLink "AssignFlowModel" 114 "AssignFlowModel" "edgeHead" "[I", .fieldLink "AssignFlowModel" 117 "AssignFlowModel" "wayOf" "[I", .fieldLink "AssignFlowModel" 120 "AssignFlowModel" "wayCode" "[I", .fieldLink "AssignFlowModel" 123 "AssignFlowModel" "wayOn" "[I", .fieldLink "AssignFlowModel" 127 "AssignFlowModel" "seen" "[B", .fieldLink "AssignFlowModel" 130 "AssignFlowModel" "local" "[B", .fieldLink "AssignFlowModel" 133 "AssignFlowModel" "ended" "[B", .fieldLink "AssignFlowModel" 136 "AssignFlowModel" "pile" "[I", .fieldLink "AssignFlowModel" 139 "AssignFlowModel" "faultPlace" "I", .fieldLink "AssignFlowModel" 156 "AssignFlowModel" "collected" "I", .fieldLink "AssignFlowModel" 159 "AssignFlowModel" "nodes" "I", .fieldLink "AssignFlowModel" 162 "AssignFlowModel" "variables" "I", .fieldLink "AssignFlowModel" 165 "AssignFlowModel" "scopes" "I", .fieldLink "AssignFlowModel" 168 "AssignFlowModel" "thereAtEnd" "I", .fieldLink "AssignFlowModel" 171 "AssignFlowModel" "at" "I", .fieldLink "AssignFlowModel" 174 "AssignFlowModel" "size" "I", .fieldLink "AssignFlowModel" 180 "AssignFlowModel" "wrong" "I", .fieldLink "AssignFlowModel" 201 "AssignFlowModel" "ops" "I", .fieldLink "AssignFlowModel" 204 "AssignFlowModel" "nested" "I", .fieldLink "AssignFlowModel" 207 "AssignFlowModel" "dones" "I", .fieldLink "AssignFlowModel" 238 "AssignFlowModel" "wantsMore" "Z", .fieldLink "AssignFlowModel" 242 "AssignFlowModel" "beginsMore" "Z", .fieldLink "AssignFlowModel" 256 "AssignFlowModel" "opened" "I", .fieldLink "AssignFlowModel" 262 "AssignFlowModel" "isCase" "Z", .fieldLink "AssignFlowModel" 317 "AssignFlowModel" "edges" "I", .fieldLink "AssignFlowModel" 331 "AssignFlowModel" "ways" "I", .fieldLink "AssignFlowModel" 343 "AssignFlowModel" "start" "I", .fieldLink "AssignFlowModel" 368 "AssignFlowModel" "piled" "I"]
def rq_Wk : List Cond := [.methodLink "AssignFlowModel" 143 ⟨"AssignFlowModel", "clear", "()V"⟩, .methodLink "AssignFlowModel" 146 ⟨"AssignFlowModel", "build", "()V"⟩, .methodLink "AssignFlowModel" 149 ⟨"AssignFlowModel", "solve", "()V"⟩, .methodLink "AssignFlowModel" 152 ⟨"AssignFlowModel", "isIn", "(III)Z"⟩, .methodLink "AssignFlowModel" 177 ⟨"AssignFlowModel", "pass", "()V"⟩, .methodLink "AssignFlowModel" 183 ⟨"AssignFlowModel", "fail", "(I)V"⟩, .methodLink "AssignFlowModel" 187 ⟨"AssignFlowModel", "isRight", "()Z"⟩, .methodLink "AssignFlowModel" 191 ⟨"AssignFlowModel", "here", "()I"⟩, .methodLink "AssignFlowModel" 195 ⟨"AssignFlowModel", "failHere", "()V"⟩, .methodLink "AssignFlowModel" 198 ⟨"AssignFlowModel", "thereNow", "()I"⟩, .methodLink "AssignFlowModel" 210 ⟨"AssignFlowModel", "top", "()I"⟩, .methodLink "AssignFlowModel" 213 ⟨"AssignFlowModel", "reduce", "()V"⟩, .methodLink "AssignFlowModel" 216 ⟨"AssignFlowModel", "node", "(IIZ)I"⟩, .methodLink "AssignFlowModel" 220 ⟨"AssignFlowModel", "push", "(II)V"⟩, .methodLink "AssignFlowModel" 224 ⟨"AssignFlowModel", "nest", "()V"⟩, .methodLink "AssignFlowModel" 227 ⟨"AssignFlowModel", "isName", "(I)Z"⟩, .methodLink "AssignFlowModel" 231 ⟨"AssignFlowModel", "readName", "(IZ)Z"⟩, .methodLink "AssignFlowModel" 235 ⟨"AssignFlowModel", "readOperator", "(I)Z"⟩, .methodLink "AssignFlowModel" 245 ⟨"AssignFlowModel", "reduceWhile", "(ZZZ)V"⟩, .methodLink "AssignFlowModel" 249 ⟨"AssignFlowModel", "infix", "(I)I"⟩, .methodLink "AssignFlowModel" 253 ⟨"AssignFlowModel", "waits", "(I)Z"⟩, .methodLink "AssignFlowModel" 259 ⟨"AssignFlowModel", "isLabel", "(I)Z"⟩, .methodLink "AssignFlowModel" 265 ⟨"AssignFlowModel", "readE", "(I)I"⟩, .methodLink "AssignFlowModel" 268 ⟨"AssignFlowModel", "take", "(I)V"⟩, .methodLink "AssignFlowModel" 271 ⟨"AssignFlowModel", "readGiven", "(II)V"⟩, .methodLink "AssignFlowModel" 274 ⟨"AssignFlowModel", "readJump", "(II)V"⟩, .methodLink "AssignFlowModel" 277 ⟨"AssignFlowModel", "readLabel", "(II)V"⟩, .methodLink "AssignFlowModel" 280 ⟨"AssignFlowModel", "begin", "(I)V"⟩, .methodLink "AssignFlowModel" 283 ⟨"AssignFlowModel", "isLoop", "(I)Z"⟩, .methodLink "AssignFlowModel" 286 ⟨"AssignFlowModel", "close", "(I)V"⟩, .methodLink "AssignFlowModel" 289 ⟨"AssignFlowModel", "readStmt", "(ZI)V"⟩, .methodLink "AssignFlowModel" 293 ⟨"AssignFlowModel", "readList", "(I)Z"⟩, .methodLink "AssignFlowModel" 296 ⟨"AssignFlowModel", "finish", "()V"⟩, .methodLink "AssignFlowModel" 299 ⟨"AssignFlowModel", "stepIf", "(II)V"⟩, .methodLink "AssignFlowModel" 302 ⟨"AssignFlowModel", "readPart", "(I)V"⟩, .methodLink "AssignFlowModel" 305 ⟨"AssignFlowModel", "readBody", "()V"⟩, .methodLink "AssignFlowModel" 308 ⟨"AssignFlowModel", "stepCases", "(II)V"⟩, .methodLink "AssignFlowModel" 311 ⟨"AssignFlowModel", "stepTry", "(II)V"⟩, .methodLink "AssignFlowModel" 314 ⟨"AssignFlowModel", "step", "()V"⟩, .methodLink "AssignFlowModel" 320 ⟨"AssignFlowModel", "edge", "(III)V"⟩, .methodLink "AssignFlowModel" 324 ⟨"AssignFlowModel", "point", "(II)I"⟩, .methodLink "AssignFlowModel" 328 ⟨"AssignFlowModel", "go", "(II)V"⟩, .methodLink "AssignFlowModel" 334 ⟨"AssignFlowModel", "way", "(II)I"⟩, .methodLink "AssignFlowModel" 337 ⟨"AssignFlowModel", "child", "(IIZ)I"⟩, .methodLink "AssignFlowModel" 340 ⟨"AssignFlowModel", "order", "()V"⟩, .methodLink "AssignFlowModel" 346 ⟨"AssignFlowModel", "chain", "(IIII)V"⟩, .methodLink "AssignFlowModel" 350 ⟨"AssignFlowModel", "buildStmt", "(I)V"⟩, .methodLink "AssignFlowModel" 353 ⟨"AssignFlowModel", "buildE", "(I)V"⟩, .methodLink "AssignFlowModel" 356 ⟨"AssignFlowModel", "isTried", "(I)Z"⟩, .methodLink "AssignFlowModel" 359 ⟨"AssignFlowModel", "leave", "(II)I"⟩, .methodLink "AssignFlowModel" 362 ⟨"AssignFlowModel", "ends", "(III)V"⟩, .methodLink "AssignFlowModel" 365 ⟨"AssignFlowModel", "buildCases", "(III)V"⟩, .methodLink "AssignFlowModel" 371 ⟨"AssignFlowModel", "isWithin", "(II)Z"⟩, .methodLink "AssignFlowModel" 375 ⟨"AssignFlowModel", "come", "([BIII)V"⟩, .methodLink "AssignFlowModel" 379 ⟨"AssignFlowModel", "walk", "(I[BII)V"⟩, .methodLink "AssignFlowModel" 383 ⟨"AssignFlowModel", "forget", "()I"⟩, .methodLink "AssignFlowModel" 386 ⟨"AssignFlowModel", "parse", "(I)V"⟩, .methodLink "AssignFlowModel" 389 ⟨"AssignFlowModel", "isPlace", "(I)Z"⟩, .methodLink "AssignFlowModel" 392 ⟨"AssignFlowModel", "states", "(III)I"⟩, .methodLink "AssignFlowModel" 396 ⟨"AssignFlowModel", "isReached", "(II)Z"⟩, .methodLink "AssignFlowModel" 399 ⟨"AssignFlowModel", "isTwice", "(I)Z"⟩, .methodLink "AssignFlowModel" 402 ⟨"AssignFlowModel", "errorAt", "(I)I"⟩, .methodLink "AssignFlowModel" 405 ⟨"AssignFlowModel", "error", "(II)I"⟩]
def rq_Wv : List Cond := []
def rq_Wa : List Cond := []
def rq_NW : List Cond := []
def rq_Ts : List Cond := rq_Wl ++ (rq_Wc ++ (rq_Wi ++ (rq_Ws ++ (rq_Wm ++ (rq_We ++ (rq_Wf ++ (rq_Wk ++ (rq_Wv ++ (rq_Wa)))))))))
theorem pq_sub_rq {big : List Cond} (ws : List Cond) (ps : List Nat) (hp : ws = ps.filterMap (fun i => big[i]?)) : ∀ w ∈ ws, w ∈ big := by
  intro w hw
  rw [hp] at hw
  obtain ⟨i, -, hi⟩ := List.mem_filterMap.mp hw
  exact List.mem_of_getElem? hi
theorem rq_tb1 {w : Cond} (h : w ∈ tables_1_1) : w ∈ lw_tbl := List.mem_append_right _ (List.mem_append_left _ h)
theorem rq_tb2 {w : Cond} (h : w ∈ tables_1_2) : w ∈ lw_tbl := List.mem_append_right _ (List.mem_append_right _ (List.mem_append_left _ h))
theorem rq_tb3 {w : Cond} (h : w ∈ tables_1_3) : w ∈ lw_tbl := List.mem_append_right _ (List.mem_append_right _ (List.mem_append_right _ (List.mem_append_left _ h)))
theorem rq_tb4 {w : Cond} (h : w ∈ tables_1_4) : w ∈ lw_tbl := List.mem_append_right _ (List.mem_append_right _ (List.mem_append_right _ (List.mem_append_right _ (List.mem_append_left _ h))))
theorem rq_tb5 {w : Cond} (h : w ∈ tables_1_5) : w ∈ lw_tbl := List.mem_append_right _ (List.mem_append_right _ (List.mem_append_right _ (List.mem_append_right _ (List.mem_append_right _ (h)))))
theorem rq_c0 : Cond.code rq_M0.1 rq_M0.2.1 rq_M0.2.2.1 rq_M0.2.2.2.1 ∈ lw_tbl := rq_tb5 (List.mem_of_getElem? (i := 21) rfl)
theorem rq_c1 : Cond.code rq_M1.1 rq_M1.2.1 rq_M1.2.2.1 rq_M1.2.2.2.1 ∈ lw_tbl := rq_tb5 (List.mem_of_getElem? (i := 18) rfl)
theorem rq_c2 : Cond.code rq_M2.1 rq_M2.2.1 rq_M2.2.2.1 rq_M2.2.2.2.1 ∈ lw_tbl := rq_tb5 (List.mem_of_getElem? (i := 25) rfl)
theorem rq_c3 : Cond.code rq_M3.1 rq_M3.2.1 rq_M3.2.2.1 rq_M3.2.2.2.1 ∈ lw_tbl := rq_tb3 (List.mem_of_getElem? (i := 235) rfl)
theorem rq_c4 : Cond.code rq_M4.1 rq_M4.2.1 rq_M4.2.2.1 rq_M4.2.2.2.1 ∈ lw_tbl := rq_tb5 (List.mem_of_getElem? (i := 54) rfl)
theorem rq_c5 : Cond.code rq_M5.1 rq_M5.2.1 rq_M5.2.2.1 rq_M5.2.2.2.1 ∈ lw_tbl := rq_tb5 (List.mem_of_getElem? (i := 50) rfl)
theorem rq_c6 : Cond.code rq_M6.1 rq_M6.2.1 rq_M6.2.2.1 rq_M6.2.2.2.1 ∈ lw_tbl := rq_tb5 (List.mem_of_getElem? (i := 76) rfl)
theorem rq_c7 : Cond.code rq_M7.1 rq_M7.2.1 rq_M7.2.2.1 rq_M7.2.2.2.1 ∈ lw_tbl := rq_tb5 (List.mem_of_getElem? (i := 72) rfl)
theorem rq_c8 : Cond.code rq_M8.1 rq_M8.2.1 rq_M8.2.2.1 rq_M8.2.2.2.1 ∈ lw_tbl := rq_tb5 (List.mem_of_getElem? (i := 38) rfl)
theorem rq_c9 : Cond.code rq_M9.1 rq_M9.2.1 rq_M9.2.2.1 rq_M9.2.2.2.1 ∈ lw_tbl := rq_tb5 (List.mem_of_getElem? (i := 128) rfl)
theorem rq_c10 : Cond.code rq_M10.1 rq_M10.2.1 rq_M10.2.2.1 rq_M10.2.2.2.1 ∈ lw_tbl := rq_tb5 (List.mem_of_getElem? (i := 68) rfl)
theorem rq_c11 : Cond.code rq_M11.1 rq_M11.2.1 rq_M11.2.2.1 rq_M11.2.2.2.1 ∈ lw_tbl := rq_tb5 (List.mem_of_getElem? (i := 65) rfl)
theorem rq_c12 : Cond.code rq_M12.1 rq_M12.2.1 rq_M12.2.2.1 rq_M12.2.2.2.1 ∈ lw_tbl := rq_tb5 (List.mem_of_getElem? (i := 84) rfl)
theorem rq_c13 : Cond.code rq_M13.1 rq_M13.2.1 rq_M13.2.2.1 rq_M13.2.2.2.1 ∈ lw_tbl := rq_tb5 (List.mem_of_getElem? (i := 80) rfl)
theorem rq_c14 : Cond.code rq_M14.1 rq_M14.2.1 rq_M14.2.2.1 rq_M14.2.2.2.1 ∈ lw_tbl := rq_tb5 (List.mem_of_getElem? (i := 100) rfl)
theorem rq_c15 : Cond.code rq_M15.1 rq_M15.2.1 rq_M15.2.2.1 rq_M15.2.2.2.1 ∈ lw_tbl := rq_tb5 (List.mem_of_getElem? (i := 92) rfl)
theorem rq_c16 : Cond.code rq_M16.1 rq_M16.2.1 rq_M16.2.2.1 rq_M16.2.2.2.1 ∈ lw_tbl := rq_tb5 (List.mem_of_getElem? (i := 112) rfl)
theorem rq_c17 : Cond.code rq_M17.1 rq_M17.2.1 rq_M17.2.2.1 rq_M17.2.2.2.1 ∈ lw_tbl := rq_tb5 (List.mem_of_getElem? (i := 116) rfl)
theorem rq_c18 : Cond.code rq_M18.1 rq_M18.2.1 rq_M18.2.2.1 rq_M18.2.2.2.1 ∈ lw_tbl := rq_tb5 (List.mem_of_getElem? (i := 108) rfl)
theorem rq_c19 : Cond.code rq_M19.1 rq_M19.2.1 rq_M19.2.2.1 rq_M19.2.2.2.1 ∈ lw_tbl := rq_tb5 (List.mem_of_getElem? (i := 124) rfl)
theorem rq_c20 : Cond.code rq_M20.1 rq_M20.2.1 rq_M20.2.2.1 rq_M20.2.2.2.1 ∈ lw_tbl := rq_tb5 (List.mem_of_getElem? (i := 120) rfl)
theorem rq_c21 : Cond.code rq_M21.1 rq_M21.2.1 rq_M21.2.2.1 rq_M21.2.2.2.1 ∈ lw_tbl := rq_tb5 (List.mem_of_getElem? (i := 88) rfl)
theorem rq_c22 : Cond.code rq_M22.1 rq_M22.2.1 rq_M22.2.2.1 rq_M22.2.2.2.1 ∈ lw_tbl := rq_tb5 (List.mem_of_getElem? (i := 96) rfl)
theorem rq_c23 : Cond.code rq_M23.1 rq_M23.2.1 rq_M23.2.2.1 rq_M23.2.2.2.1 ∈ lw_tbl := rq_tb5 (List.mem_of_getElem? (i := 104) rfl)
theorem rq_c24 : Cond.code rq_M24.1 rq_M24.2.1 rq_M24.2.2.1 rq_M24.2.2.2.1 ∈ lw_tbl := rq_tb5 (List.mem_of_getElem? (i := 58) rfl)
theorem rq_c25 : Cond.code rq_M25.1 rq_M25.2.1 rq_M25.2.2.1 rq_M25.2.2.2.1 ∈ lw_tbl := rq_tb5 (List.mem_of_getElem? (i := 147) rfl)
theorem rq_c26 : Cond.code rq_M26.1 rq_M26.2.1 rq_M26.2.2.1 rq_M26.2.2.2.1 ∈ lw_tbl := rq_tb5 (List.mem_of_getElem? (i := 62) rfl)
theorem rq_c27 : Cond.code rq_M27.1 rq_M27.2.1 rq_M27.2.2.1 rq_M27.2.2.2.1 ∈ lw_tbl := rq_tb5 (List.mem_of_getElem? (i := 132) rfl)
theorem rq_c28 : Cond.code rq_M28.1 rq_M28.2.1 rq_M28.2.2.1 rq_M28.2.2.2.1 ∈ lw_tbl := rq_tb5 (List.mem_of_getElem? (i := 143) rfl)
theorem rq_c29 : Cond.code rq_M29.1 rq_M29.2.1 rq_M29.2.2.1 rq_M29.2.2.2.1 ∈ lw_tbl := rq_tb5 (List.mem_of_getElem? (i := 139) rfl)
theorem rq_c30 : Cond.code rq_M30.1 rq_M30.2.1 rq_M30.2.2.1 rq_M30.2.2.2.1 ∈ lw_tbl := rq_tb5 (List.mem_of_getElem? (i := 136) rfl)
theorem rq_c31 : Cond.code rq_M31.1 rq_M31.2.1 rq_M31.2.2.1 rq_M31.2.2.2.1 ∈ lw_tbl := rq_tb5 (List.mem_of_getElem? (i := 151) rfl)
theorem rq_c32 : Cond.code rq_M32.1 rq_M32.2.1 rq_M32.2.2.1 rq_M32.2.2.2.1 ∈ lw_tbl := rq_tb5 (List.mem_of_getElem? (i := 46) rfl)
theorem rq_c33 : Cond.code rq_M33.1 rq_M33.2.1 rq_M33.2.2.1 rq_M33.2.2.2.1 ∈ lw_tbl := rq_tb5 (List.mem_of_getElem? (i := 42) rfl)
theorem rq_c34 : Cond.code rq_M34.1 rq_M34.2.1 rq_M34.2.2.1 rq_M34.2.2.2.1 ∈ lw_tbl := rq_tb5 (List.mem_of_getElem? (i := 159) rfl)
theorem rq_c35 : Cond.code rq_M35.1 rq_M35.2.1 rq_M35.2.2.1 rq_M35.2.2.2.1 ∈ lw_tbl := rq_tb5 (List.mem_of_getElem? (i := 163) rfl)
theorem rq_c36 : Cond.code rq_M36.1 rq_M36.2.1 rq_M36.2.2.1 rq_M36.2.2.2.1 ∈ lw_tbl := rq_tb5 (List.mem_of_getElem? (i := 155) rfl)
theorem rq_c37 : Cond.code rq_M37.1 rq_M37.2.1 rq_M37.2.2.1 rq_M37.2.2.2.1 ∈ lw_tbl := rq_tb5 (List.mem_of_getElem? (i := 167) rfl)
theorem rq_c38 : Cond.code rq_M38.1 rq_M38.2.1 rq_M38.2.2.1 rq_M38.2.2.2.1 ∈ lw_tbl := rq_tb5 (List.mem_of_getElem? (i := 171) rfl)
theorem rq_c39 : Cond.code rq_M39.1 rq_M39.2.1 rq_M39.2.2.1 rq_M39.2.2.2.1 ∈ lw_tbl := rq_tb5 (List.mem_of_getElem? (i := 34) rfl)
theorem rq_c40 : Cond.code rq_M40.1 rq_M40.2.1 rq_M40.2.2.1 rq_M40.2.2.2.1 ∈ lw_tbl := rq_tb4 (List.mem_of_getElem? (i := 3) rfl)
theorem rq_c41 : Cond.code rq_M41.1 rq_M41.2.1 rq_M41.2.2.1 rq_M41.2.2.2.1 ∈ lw_tbl := rq_tb4 (List.mem_of_getElem? (i := 18) rfl)
theorem rq_c42 : Cond.code rq_M42.1 rq_M42.2.1 rq_M42.2.2.1 rq_M42.2.2.2.1 ∈ lw_tbl := rq_tb4 (List.mem_of_getElem? (i := 14) rfl)
theorem rq_c43 : Cond.code rq_M43.1 rq_M43.2.1 rq_M43.2.2.1 rq_M43.2.2.2.1 ∈ lw_tbl := rq_tb4 (List.mem_of_getElem? (i := 10) rfl)
theorem rq_c44 : Cond.code rq_M44.1 rq_M44.2.1 rq_M44.2.2.1 rq_M44.2.2.2.1 ∈ lw_tbl := rq_tb4 (List.mem_of_getElem? (i := 26) rfl)
theorem rq_c45 : Cond.code rq_M45.1 rq_M45.2.1 rq_M45.2.2.1 rq_M45.2.2.2.1 ∈ lw_tbl := rq_tb4 (List.mem_of_getElem? (i := 7) rfl)
theorem rq_c46 : Cond.code rq_M46.1 rq_M46.2.1 rq_M46.2.2.1 rq_M46.2.2.2.1 ∈ lw_tbl := rq_tb4 (List.mem_of_getElem? (i := 30) rfl)
theorem rq_c47 : Cond.code rq_M47.1 rq_M47.2.1 rq_M47.2.2.1 rq_M47.2.2.2.1 ∈ lw_tbl := rq_tb4 (List.mem_of_getElem? (i := 38) rfl)
theorem rq_c48 : Cond.code rq_M48.1 rq_M48.2.1 rq_M48.2.2.1 rq_M48.2.2.2.1 ∈ lw_tbl := rq_tb4 (List.mem_of_getElem? (i := 42) rfl)
theorem rq_c49 : Cond.code rq_M49.1 rq_M49.2.1 rq_M49.2.2.1 rq_M49.2.2.2.1 ∈ lw_tbl := rq_tb3 (List.mem_of_getElem? (i := 239) rfl)
theorem rq_c50 : Cond.code rq_M50.1 rq_M50.2.1 rq_M50.2.2.1 rq_M50.2.2.2.1 ∈ lw_tbl := rq_tb4 (List.mem_of_getElem? (i := 50) rfl)
theorem rq_c51 : Cond.code rq_M51.1 rq_M51.2.1 rq_M51.2.2.1 rq_M51.2.2.2.1 ∈ lw_tbl := rq_tb4 (List.mem_of_getElem? (i := 22) rfl)
theorem rq_c52 : Cond.code rq_M52.1 rq_M52.2.1 rq_M52.2.2.1 rq_M52.2.2.2.1 ∈ lw_tbl := rq_tb4 (List.mem_of_getElem? (i := 34) rfl)
theorem rq_c53 : Cond.code rq_M53.1 rq_M53.2.1 rq_M53.2.2.1 rq_M53.2.2.2.1 ∈ lw_tbl := rq_tb4 (List.mem_of_getElem? (i := 46) rfl)
theorem rq_c54 : Cond.code rq_M54.1 rq_M54.2.1 rq_M54.2.2.1 rq_M54.2.2.2.1 ∈ lw_tbl := rq_tb4 (List.mem_of_getElem? (i := 58) rfl)
theorem rq_c55 : Cond.code rq_M55.1 rq_M55.2.1 rq_M55.2.2.1 rq_M55.2.2.2.1 ∈ lw_tbl := rq_tb4 (List.mem_of_getElem? (i := 66) rfl)
theorem rq_c56 : Cond.code rq_M56.1 rq_M56.2.1 rq_M56.2.2.1 rq_M56.2.2.2.1 ∈ lw_tbl := rq_tb4 (List.mem_of_getElem? (i := 62) rfl)
theorem rq_c57 : Cond.code rq_M57.1 rq_M57.2.1 rq_M57.2.2.1 rq_M57.2.2.2.1 ∈ lw_tbl := rq_tb4 (List.mem_of_getElem? (i := 54) rfl)
theorem rq_c58 : Cond.code rq_M58.1 rq_M58.2.1 rq_M58.2.2.1 rq_M58.2.2.2.1 ∈ lw_tbl := rq_tb5 (List.mem_of_getElem? (i := 29) rfl)
theorem rq_c59 : Cond.code rq_M59.1 rq_M59.2.1 rq_M59.2.2.1 rq_M59.2.2.2.1 ∈ lw_tbl := rq_tb5 (List.mem_of_getElem? (i := 175) rfl)
theorem rq_c60 : Cond.code rq_M60.1 rq_M60.2.1 rq_M60.2.2.1 rq_M60.2.2.2.1 ∈ lw_tbl := rq_tb5 (List.mem_of_getElem? (i := 183) rfl)
theorem rq_c61 : Cond.code rq_M61.1 rq_M61.2.1 rq_M61.2.2.1 rq_M61.2.2.2.1 ∈ lw_tbl := rq_tb5 (List.mem_of_getElem? (i := 179) rfl)
theorem rq_c62 : Cond.code rq_M62.1 rq_M62.2.1 rq_M62.2.2.1 rq_M62.2.2.2.1 ∈ lw_tbl := rq_tb5 (List.mem_of_getElem? (i := 195) rfl)
theorem rq_c63 : Cond.code rq_M63.1 rq_M63.2.1 rq_M63.2.2.1 rq_M63.2.2.2.1 ∈ lw_tbl := rq_tb5 (List.mem_of_getElem? (i := 191) rfl)
theorem rq_c64 : Cond.code rq_M64.1 rq_M64.2.1 rq_M64.2.2.1 rq_M64.2.2.2.1 ∈ lw_tbl := rq_tb5 (List.mem_of_getElem? (i := 187) rfl)
theorem rq_c65 : Cond.code rq_M65.1 rq_M65.2.1 rq_M65.2.2.1 rq_M65.2.2.2.1 ∈ lw_tbl := rq_tb5 (List.mem_of_getElem? (i := 207) rfl)
theorem rq_c66 : Cond.code rq_M66.1 rq_M66.2.1 rq_M66.2.2.1 rq_M66.2.2.2.1 ∈ lw_tbl := rq_tb5 (List.mem_of_getElem? (i := 203) rfl)
theorem rq_c67 : Cond.code rq_M67.1 rq_M67.2.1 rq_M67.2.2.1 rq_M67.2.2.2.1 ∈ lw_tbl := rq_tb5 (List.mem_of_getElem? (i := 199) rfl)
theorem rq_c68 : Cond.code rq_M68.1 rq_M68.2.1 rq_M68.2.2.1 rq_M68.2.2.2.1 ∈ lw_tbl := rq_tb5 (List.mem_of_getElem? (i := 211) rfl)
theorem rq_c69 : Cond.code rq_M69.1 rq_M69.2.1 rq_M69.2.2.1 rq_M69.2.2.2.1 ∈ lw_tbl := rq_tb5 (List.mem_of_getElem? (i := 215) rfl)
set_option maxRecDepth 100000 in
theorem rq_inc : ∀ w ∈ rq_Wc, w ∈ lw_tbl := List.forall_mem_cons.mpr ⟨rq_c0, List.forall_mem_cons.mpr ⟨rq_c1, List.forall_mem_cons.mpr ⟨rq_c2, List.forall_mem_cons.mpr ⟨rq_c3, List.forall_mem_cons.mpr ⟨rq_c4, List.forall_mem_cons.mpr ⟨rq_c5, List.forall_mem_cons.mpr ⟨rq_c6, List.forall_mem_cons.mpr ⟨rq_c7, List.forall_mem_cons.mpr ⟨rq_c8, List.forall_mem_cons.mpr ⟨rq_c9, List.forall_mem_cons.mpr ⟨rq_c10, List.forall_mem_cons.mpr ⟨rq_c11, List.forall_mem_cons.mpr ⟨rq_c12, List.forall_mem_cons.mpr ⟨rq_c13, List.forall_mem_cons.mpr ⟨rq_c14, List.forall_mem_cons.mpr ⟨rq_c15, List.forall_mem_cons.mpr ⟨rq_c16, List.forall_mem_cons.mpr ⟨rq_c17, List.forall_mem_cons.mpr ⟨rq_c18, List.forall_mem_cons.mpr ⟨rq_c19, List.forall_mem_cons.mpr ⟨rq_c20, List.forall_mem_cons.mpr ⟨rq_c21, List.forall_mem_cons.mpr ⟨rq_c22, List.forall_mem_cons.mpr ⟨rq_c23, List.forall_mem_cons.mpr ⟨rq_c24, List.forall_mem_cons.mpr ⟨rq_c25, List.forall_mem_cons.mpr ⟨rq_c26, List.forall_mem_cons.mpr ⟨rq_c27, List.forall_mem_cons.mpr ⟨rq_c28, List.forall_mem_cons.mpr ⟨rq_c29, List.forall_mem_cons.mpr ⟨rq_c30, List.forall_mem_cons.mpr ⟨rq_c31, List.forall_mem_cons.mpr ⟨rq_c32, List.forall_mem_cons.mpr ⟨rq_c33, List.forall_mem_cons.mpr ⟨rq_c34, List.forall_mem_cons.mpr ⟨rq_c35, List.forall_mem_cons.mpr ⟨rq_c36, List.forall_mem_cons.mpr ⟨rq_c37, List.forall_mem_cons.mpr ⟨rq_c38, List.forall_mem_cons.mpr ⟨rq_c39, List.forall_mem_cons.mpr ⟨rq_c40, List.forall_mem_cons.mpr ⟨rq_c41, List.forall_mem_cons.mpr ⟨rq_c42, List.forall_mem_cons.mpr ⟨rq_c43, List.forall_mem_cons.mpr ⟨rq_c44, List.forall_mem_cons.mpr ⟨rq_c45, List.forall_mem_cons.mpr ⟨rq_c46, List.forall_mem_cons.mpr ⟨rq_c47, List.forall_mem_cons.mpr ⟨rq_c48, List.forall_mem_cons.mpr ⟨rq_c49, List.forall_mem_cons.mpr ⟨rq_c50, List.forall_mem_cons.mpr ⟨rq_c51, List.forall_mem_cons.mpr ⟨rq_c52, List.forall_mem_cons.mpr ⟨rq_c53, List.forall_mem_cons.mpr ⟨rq_c54, List.forall_mem_cons.mpr ⟨rq_c55, List.forall_mem_cons.mpr ⟨rq_c56, List.forall_mem_cons.mpr ⟨rq_c57, List.forall_mem_cons.mpr ⟨rq_c58, List.forall_mem_cons.mpr ⟨rq_c59, List.forall_mem_cons.mpr ⟨rq_c60, List.forall_mem_cons.mpr ⟨rq_c61, List.forall_mem_cons.mpr ⟨rq_c62, List.forall_mem_cons.mpr ⟨rq_c63, List.forall_mem_cons.mpr ⟨rq_c64, List.forall_mem_cons.mpr ⟨rq_c65, List.forall_mem_cons.mpr ⟨rq_c66, List.forall_mem_cons.mpr ⟨rq_c67, List.forall_mem_cons.mpr ⟨rq_c68, List.forall_mem_cons.mpr ⟨rq_c69, fun _ h => absurd h List.not_mem_nil⟩⟩⟩⟩⟩⟩⟩⟩⟩⟩⟩⟩⟩⟩⟩⟩⟩⟩⟩⟩⟩⟩⟩⟩⟩⟩⟩⟩⟩⟩⟩⟩⟩⟩⟩⟩⟩⟩⟩⟩⟩⟩⟩⟩⟩⟩⟩⟩⟩⟩⟩⟩⟩⟩⟩⟩⟩⟩⟩⟩⟩⟩⟩⟩⟩⟩⟩⟩⟩⟩
set_option maxRecDepth 100000 in
theorem rq_inl : ∀ w ∈ rq_Wl, w ∈ lw_tbl := pq_sub_rq _ [978, 980, 982, 984, 986, 988, 990, 992, 994, 996, 998, 1000, 1002, 1004, 1006, 1008, 1010, 1012, 1014, 1016, 1018, 1020, 1022, 1024, 1026, 1028, 1030, 1032, 1034, 1036, 1038, 1040, 1042, 1044, 1046, 1048, 1050, 1052, 1054, 1056, 1058, 1060, 1062, 1064, 1066, 1068, 1070, 1072, 1074, 1076, 1078, 1080, 1082, 1084, 1086, 1088, 1090, 1092, 1094, 1096, 1098, 1100] (by decide +kernel)
set_option maxRecDepth 100000 in
theorem rq_ini : ∀ w ∈ rq_Wi, w ∈ lw_tbl := pq_sub_rq _ [138] (by decide +kernel)
set_option maxRecDepth 100000 in
theorem rq_ins : ∀ w ∈ rq_Ws, w ∈ lw_tbl := pq_sub_rq _ [1109, 1156, 1153, 1227, 858] (by decide +kernel)
set_option maxRecDepth 100000 in
theorem rq_inm : ∀ w ∈ rq_Wm, w ∈ lw_tbl := pq_sub_rq _ [1105, 1112, 843, 1142, 1138, 1164, 1160, 1126, 1216, 1172, 1168, 1188, 1180, 1200, 1204, 1196, 1212, 1208, 1176, 1184, 1192, 1146, 1235, 1150, 1220, 1231, 1224, 1239, 1134, 1130, 1247, 1251, 1243, 1255, 1259, 1122, 851, 866, 862, 874, 855, 878, 886, 890, 847, 898, 870, 882, 894, 906, 914, 910, 902, 1116, 1262, 1271, 1266, 1283, 1279, 1274, 1295, 1291, 1286, 1298, 1302] (by decide +kernel)
set_option maxRecDepth 100000 in
theorem rq_ine : ∀ w ∈ rq_We, w ∈ lw_tbl := pq_sub_rq _ [1106, 1113, 73, 96, 95, 100, 99, 92, 113, 102, 101, 106, 104, 109, 110, 108, 112, 111, 103, 105, 107, 97, 117, 98, 114, 116, 115, 118, 94, 93, 120, 121, 119, 122, 123, 91, 75, 78, 77, 80, 76, 81, 83, 84, 74, 86, 79, 82, 85, 88, 90, 89, 87, 1117, 1263, 124, 1267, 126, 125, 1275, 128, 127, 1287, 1299, 1303] (by decide +kernel)
set_option maxRecDepth 100000 in
theorem rq_inf : ∀ w ∈ rq_Wf, w ∈ lw_tbl := pq_sub_rq _ [916, 919, 920, 921, 922, 923, 924, 925, 926, 927, 928, 929, 930, 931, 932, 933, 936, 937, 938, 939, 940, 945, 946, 948, 953, 954, 955, 958, 959, 960, 961, 962, 963, 964, 965, 968, 969, 970, 972, 973, 974, 975, 977, 917, 918, 935, 941, 934, 942, 943, 944, 947, 950, 949, 951, 952, 956, 957, 966, 971, 967, 976] (by decide +kernel)
set_option maxRecDepth 100000 in
theorem rq_ink : ∀ w ∈ rq_Wk, w ∈ lw_tbl := pq_sub_rq _ [841, 845, 900, 1108, 1140, 1162, 1124, 1136, 1158, 1170, 1198, 1202, 1166, 1186, 1178, 1155, 1182, 1190, 1194, 1206, 1210, 1152, 1174, 1214, 1218, 1222, 1229, 1233, 1226, 1144, 1148, 1132, 1237, 1241, 1245, 1249, 1253, 1257, 1128, 864, 857, 860, 884, 872, 849, 853, 868, 892, 896, 888, 876, 880, 912, 904, 908, 1119, 1120, 1269, 1281, 1277, 1293, 1289, 1305] (by decide +kernel)
set_option maxRecDepth 100000 in
theorem rq_inv : ∀ w ∈ rq_Wv, w ∈ lw_tbl := pq_sub_rq _ [] (by decide +kernel)
set_option maxRecDepth 100000 in
theorem rq_ina : ∀ w ∈ rq_Wa, w ∈ lw_tbl := pq_sub_rq _ [] (by decide +kernel)
set_option maxRecDepth 100000 in
theorem rq_inN : ∀ w ∈ rq_NW, w ∈ lw_tbl := pq_sub_rq _ [] (by decide +kernel)
theorem rq_Ts_in : ∀ w ∈ rq_Ts, w ∈ lw_tbl := fun w h => (List.mem_append.mp h).elim (rq_inl w) (fun h => (List.mem_append.mp h).elim (rq_inc w) (fun h => (List.mem_append.mp h).elim (rq_ini w) (fun h => (List.mem_append.mp h).elim (rq_ins w) (fun h => (List.mem_append.mp h).elim (rq_inm w) (fun h => (List.mem_append.mp h).elim (rq_ine w) (fun h => (List.mem_append.mp h).elim (rq_inf w) (fun h => (List.mem_append.mp h).elim (rq_ink w) (fun h => (List.mem_append.mp h).elim (rq_inv w) (fun h => rq_ina w h)))))))))
theorem rq_ul {w : Cond} (h : w ∈ rq_Wl) : w ∈ rq_Ts := List.mem_append_left _ h
theorem rq_uc {w : Cond} (h : w ∈ rq_Wc) : w ∈ rq_Ts := List.mem_append_right _ (List.mem_append_left _ h)
theorem rq_ui {w : Cond} (h : w ∈ rq_Wi) : w ∈ rq_Ts := List.mem_append_right _ (List.mem_append_right _ (List.mem_append_left _ h))
theorem rq_us {w : Cond} (h : w ∈ rq_Ws) : w ∈ rq_Ts := List.mem_append_right _ (List.mem_append_right _ (List.mem_append_right _ (List.mem_append_left _ h)))
theorem rq_um {w : Cond} (h : w ∈ rq_Wm) : w ∈ rq_Ts := List.mem_append_right _ (List.mem_append_right _ (List.mem_append_right _ (List.mem_append_right _ (List.mem_append_left _ h))))
theorem rq_ue {w : Cond} (h : w ∈ rq_We) : w ∈ rq_Ts := List.mem_append_right _ (List.mem_append_right _ (List.mem_append_right _ (List.mem_append_right _ (List.mem_append_right _ (List.mem_append_left _ h)))))
theorem rq_uf {w : Cond} (h : w ∈ rq_Wf) : w ∈ rq_Ts := List.mem_append_right _ (List.mem_append_right _ (List.mem_append_right _ (List.mem_append_right _ (List.mem_append_right _ (List.mem_append_right _ (List.mem_append_left _ h))))))
theorem rq_uk {w : Cond} (h : w ∈ rq_Wk) : w ∈ rq_Ts := List.mem_append_right _ (List.mem_append_right _ (List.mem_append_right _ (List.mem_append_right _ (List.mem_append_right _ (List.mem_append_right _ (List.mem_append_right _ (List.mem_append_left _ h)))))))
theorem rq_uv {w : Cond} (h : w ∈ rq_Wv) : w ∈ rq_Ts := List.mem_append_right _ (List.mem_append_right _ (List.mem_append_right _ (List.mem_append_right _ (List.mem_append_right _ (List.mem_append_right _ (List.mem_append_right _ (List.mem_append_right _ (List.mem_append_left _ h))))))))
theorem rq_ua {w : Cond} (h : w ∈ rq_Wa) : w ∈ rq_Ts := List.mem_append_right _ (List.mem_append_right _ (List.mem_append_right _ (List.mem_append_right _ (List.mem_append_right _ (List.mem_append_right _ (List.mem_append_right _ (List.mem_append_right _ (List.mem_append_right _ (h)))))))))
set_option maxRecDepth 100000 in
theorem rq_good : ∀ w ∈ rq_Ts, goodWord w = true := List.all_eq_true.mp (by decide +kernel)
theorem rq_isN : ∀ w ∈ rq_NW, pv_isN w = true := List.all_eq_true.mp (by decide +kernel)
end
section
set_option maxRecDepth 100000 in
theorem rq_okF : ∀ q ∈ rq_FL, pv_of rq_cl rq_Ts rq_NW (rq_cn q.1) q.2.1 q.2.2.1 q.2.2.2 := pv_okF (hn := "AssignFlow") (cn := rq_cn) (FL := rq_FL) (cl := rq_cl) (Ts := rq_Ts) (Wf := rq_Wf) (NW := rq_NW) (fun _ h => rq_uf h) (by decide +kernel)
set_option maxRecDepth 100000 in
theorem rq_okK : ∀ q ∈ rq_ML, (q.2.2 = 999 → Cond.methodLink (rq_cn q.1) q.2.1 arraycopyName ∈ rq_Ts ∧ Cond.native arraycopyName ∈ rq_Ts ∧ Cond.static arraycopyName ∈ rq_Ts ∧ Cond.initialized "java/lang/System" ∈ rq_Ts) ∧ (q.2.2 = 998 → Cond.methodLink (rq_cn q.1) q.2.1 Lib.Math.min.name ∈ rq_Ts ∧ Cond.static Lib.Math.min.name ∈ rq_Ts ∧ Cond.initialized "java/lang/Math" ∈ rq_Ts ∧ Cond.code Lib.Math.min.name Lib.Math.min.code 2 (some .int) ∈ rq_Ts) ∧ ∀ x, rq_mt q.2.2 = some x → pv_ml rq_Ts rq_NW (rq_cn q.1) q.2.1 x.1 := pv_okK (hn := "AssignFlow") (cn := rq_cn) (ML := rq_ML) (Ts := rq_Ts) (Wk := rq_Wk) (Wa := rq_Wa) (NW := rq_NW) (mt := rq_mt) (fun _ h => rq_uk h) (fun _ h => rq_ua h) (by decide +kernel)
set_option maxRecDepth 100000 in
theorem rq_okV : ∀ q ∈ rq_CL, (∀ x, q.2.2 = .int x → Cond.constant (rq_cn q.1) q.2.1 x ∈ rq_Ts) ∧ (∀ x, q.2.2 = .long x → Cond.constantLong (rq_cn q.1) q.2.1 x ∈ rq_Ts) := pv_okV (cn := rq_cn) (CL := rq_CL) (Ts := rq_Ts) (Wv := rq_Wv) (fun _ h => rq_uv h) (by decide +kernel)
set_option maxRecDepth 100000 in
theorem rq_okA : ∀ j st na ci, rq_ma j = some (st, na, ci) → ∃ x, rq_mt j = some x ∧ (x.2.2.2.2.1 = st ∧ x.2.2.2.2.2.1 = na) ∧ (st = false → ∃ T N, rq_cl[ci]? = some (x.1.cls, T, N)) := pv_okA (cl := rq_cl) (mas := rq_mas) (mt := rq_mt) (by decide +kernel)
theorem rq_okL : pv_okL rq_cn rq_FL rq_ML rq_CL rq_cl rq_Ts rq_NW rq_mt rq_ma := ⟨rq_okF, rq_okK, rq_okV, rq_okA⟩
theorem rq_okC : pv_okC rq_cl rq_ty rq_Ts := by
  intro ci C T N h
  match ci, h with
  | 0, h => cases h; exact ⟨fun w h => rq_ul (h), rq_ty0, rq_n0, rq_dc0⟩
  | k + 1, h => simp [rq_cl] at h
set_option maxRecDepth 100000 in
theorem rq_ck0 : (List.range 16).all (pv_ckT rq_FL rq_ML rq_CL rq_cl rq_ty rq_ma 0 3 prog_10_method_2_code rq_T0) = true := by decide +kernel
theorem rq_ok0 : pv_okM rq_cl rq_ty rq_Ts rq_NW rq_mt ⟨"AssignFlowModel", "isIn", "(III)Z"⟩ prog_10_method_2_code 3 (some .boolean) true 3 1 rq_T0 := ⟨⟨⟨by decide +kernel, rq_uc (List.mem_of_getElem? (i := 0) rfl)⟩, rq_ui (List.mem_of_getElem? (i := 0) rfl), by decide +kernel⟩, ⟨fun _ => rq_us (List.mem_of_getElem? (i := 0) rfl), (fun h => by cases h)⟩, ⟨by decide, rfl⟩, pv_ckT_ok rq_okL (own := 0) (N := 16) (pv_blt_none rq_U0) rq_ck0⟩
set_option maxRecDepth 100000 in
theorem rq_ck1 : (List.range 79).all (pv_ckT rq_FL rq_ML rq_CL rq_cl rq_ty rq_ma 0 5 prog_10_method_3_code rq_T1) = true := by decide +kernel
theorem rq_ok1 : pv_okM rq_cl rq_ty rq_Ts rq_NW rq_mt ⟨"AssignFlowModel", "collect", "(JI)I"⟩ prog_10_method_3_code 5 (some .int) false 2 0 rq_T1 := ⟨⟨⟨by decide +kernel, rq_uc (List.mem_of_getElem? (i := 1) rfl)⟩, rq_ui (List.mem_of_getElem? (i := 0) rfl), by decide +kernel⟩, ⟨(fun h => by cases h), fun _ => ⟨rq_um (List.mem_of_getElem? (i := 0) rfl), rq_ue (List.mem_of_getElem? (i := 0) rfl)⟩⟩, ⟨by decide, rfl⟩, pv_ckT_ok rq_okL (own := 0) (N := 79) (pv_blt_none rq_U1) rq_ck1⟩
set_option maxRecDepth 100000 in
theorem rq_ck2 : (List.range 12).all (pv_ckT rq_FL rq_ML rq_CL rq_cl rq_ty rq_ma 0 2 prog_10_method_4_code rq_T2) = true := by decide +kernel
theorem rq_ok2 : pv_okM rq_cl rq_ty rq_Ts rq_NW rq_mt ⟨"AssignFlowModel", "forget", "()I"⟩ prog_10_method_4_code 2 (some .int) false 0 0 rq_T2 := ⟨⟨⟨by decide +kernel, rq_uc (List.mem_of_getElem? (i := 2) rfl)⟩, rq_ui (List.mem_of_getElem? (i := 0) rfl), by decide +kernel⟩, ⟨(fun h => by cases h), fun _ => ⟨rq_um (List.mem_of_getElem? (i := 1) rfl), rq_ue (List.mem_of_getElem? (i := 1) rfl)⟩⟩, ⟨by decide, rfl⟩, pv_ckT_ok rq_okL (own := 0) (N := 12) (pv_blt_none rq_U2) rq_ck2⟩
set_option maxRecDepth 100000 in
theorem rq_ck3 : (List.range 42).all (pv_ckT rq_FL rq_ML rq_CL rq_cl rq_ty rq_ma 0 2 prog_10_method_5_code rq_T3) = true := by decide +kernel
theorem rq_ok3 : pv_okM rq_cl rq_ty rq_Ts rq_NW rq_mt ⟨"AssignFlowModel", "clear", "()V"⟩ prog_10_method_5_code 2 none false 0 3 rq_T3 := ⟨⟨⟨by decide +kernel, rq_uc (List.mem_of_getElem? (i := 3) rfl)⟩, rq_ui (List.mem_of_getElem? (i := 0) rfl), by decide +kernel⟩, ⟨(fun h => by cases h), fun _ => ⟨rq_um (List.mem_of_getElem? (i := 2) rfl), rq_ue (List.mem_of_getElem? (i := 2) rfl)⟩⟩, ⟨by decide, rfl⟩, pv_ckT_ok rq_okL (own := 0) (N := 42) (pv_blt_none rq_U3) rq_ck3⟩
set_option maxRecDepth 100000 in
theorem rq_ck4 : (List.range 53).all (pv_ckT rq_FL rq_ML rq_CL rq_cl rq_ty rq_ma 0 1 prog_10_method_6_code rq_T4) = true := by decide +kernel
theorem rq_ok4 : pv_okM rq_cl rq_ty rq_Ts rq_NW rq_mt ⟨"AssignFlowModel", "pass", "()V"⟩ prog_10_method_6_code 1 none false 0 3 rq_T4 := ⟨⟨⟨by decide +kernel, rq_uc (List.mem_of_getElem? (i := 4) rfl)⟩, rq_ui (List.mem_of_getElem? (i := 0) rfl), by decide +kernel⟩, ⟨(fun h => by cases h), fun _ => ⟨rq_um (List.mem_of_getElem? (i := 3) rfl), rq_ue (List.mem_of_getElem? (i := 3) rfl)⟩⟩, ⟨by decide, rfl⟩, pv_ckT_ok rq_okL (own := 0) (N := 53) (pv_blt_none rq_U4) rq_ck4⟩
set_option maxRecDepth 100000 in
theorem rq_ck5 : (List.range 33).all (pv_ckT rq_FL rq_ML rq_CL rq_cl rq_ty rq_ma 0 1 prog_10_method_7_code rq_T5) = true := by decide +kernel
theorem rq_ok5 : pv_okM rq_cl rq_ty rq_Ts rq_NW rq_mt ⟨"AssignFlowModel", "here", "()I"⟩ prog_10_method_7_code 1 (some .int) false 0 0 rq_T5 := ⟨⟨⟨by decide +kernel, rq_uc (List.mem_of_getElem? (i := 5) rfl)⟩, rq_ui (List.mem_of_getElem? (i := 0) rfl), by decide +kernel⟩, ⟨(fun h => by cases h), fun _ => ⟨rq_um (List.mem_of_getElem? (i := 4) rfl), rq_ue (List.mem_of_getElem? (i := 4) rfl)⟩⟩, ⟨by decide, rfl⟩, pv_ckT_ok rq_okL (own := 0) (N := 33) (pv_blt_none rq_U5) rq_ck5⟩
set_option maxRecDepth 100000 in
theorem rq_ck6 : (List.range 21).all (pv_ckT rq_FL rq_ML rq_CL rq_cl rq_ty rq_ma 0 2 prog_10_method_8_code rq_T6) = true := by decide +kernel
theorem rq_ok6 : pv_okM rq_cl rq_ty rq_Ts rq_NW rq_mt ⟨"AssignFlowModel", "fail", "(I)V"⟩ prog_10_method_8_code 2 none false 1 3 rq_T6 := ⟨⟨⟨by decide +kernel, rq_uc (List.mem_of_getElem? (i := 6) rfl)⟩, rq_ui (List.mem_of_getElem? (i := 0) rfl), by decide +kernel⟩, ⟨(fun h => by cases h), fun _ => ⟨rq_um (List.mem_of_getElem? (i := 5) rfl), rq_ue (List.mem_of_getElem? (i := 5) rfl)⟩⟩, ⟨by decide, rfl⟩, pv_ckT_ok rq_okL (own := 0) (N := 21) (pv_blt_none rq_U6) rq_ck6⟩
set_option maxRecDepth 100000 in
theorem rq_ck7 : (List.range 13).all (pv_ckT rq_FL rq_ML rq_CL rq_cl rq_ty rq_ma 0 1 prog_10_method_9_code rq_T7) = true := by decide +kernel
theorem rq_ok7 : pv_okM rq_cl rq_ty rq_Ts rq_NW rq_mt ⟨"AssignFlowModel", "failHere", "()V"⟩ prog_10_method_9_code 1 none false 0 3 rq_T7 := ⟨⟨⟨by decide +kernel, rq_uc (List.mem_of_getElem? (i := 7) rfl)⟩, rq_ui (List.mem_of_getElem? (i := 0) rfl), by decide +kernel⟩, ⟨(fun h => by cases h), fun _ => ⟨rq_um (List.mem_of_getElem? (i := 6) rfl), rq_ue (List.mem_of_getElem? (i := 6) rfl)⟩⟩, ⟨by decide, rfl⟩, pv_ckT_ok rq_okL (own := 0) (N := 13) (pv_blt_none rq_U7) rq_ck7⟩
set_option maxRecDepth 100000 in
theorem rq_ck8 : (List.range 14).all (pv_ckT rq_FL rq_ML rq_CL rq_cl rq_ty rq_ma 0 1 prog_10_method_10_code rq_T8) = true := by decide +kernel
theorem rq_ok8 : pv_okM rq_cl rq_ty rq_Ts rq_NW rq_mt ⟨"AssignFlowModel", "isRight", "()Z"⟩ prog_10_method_10_code 1 (some .boolean) false 0 1 rq_T8 := ⟨⟨⟨by decide +kernel, rq_uc (List.mem_of_getElem? (i := 8) rfl)⟩, rq_ui (List.mem_of_getElem? (i := 0) rfl), by decide +kernel⟩, ⟨(fun h => by cases h), fun _ => ⟨rq_um (List.mem_of_getElem? (i := 7) rfl), rq_ue (List.mem_of_getElem? (i := 7) rfl)⟩⟩, ⟨by decide, rfl⟩, pv_ckT_ok rq_okL (own := 0) (N := 14) (pv_blt_none rq_U8) rq_ck8⟩
set_option maxRecDepth 100000 in
theorem rq_ck9 : (List.range 33).all (pv_ckT rq_FL rq_ML rq_CL rq_cl rq_ty rq_ma 0 2 prog_10_method_11_code rq_T9) = true := by decide +kernel
theorem rq_ok9 : pv_okM rq_cl rq_ty rq_Ts rq_NW rq_mt ⟨"AssignFlowModel", "take", "(I)V"⟩ prog_10_method_11_code 2 none false 1 3 rq_T9 := ⟨⟨⟨by decide +kernel, rq_uc (List.mem_of_getElem? (i := 9) rfl)⟩, rq_ui (List.mem_of_getElem? (i := 0) rfl), by decide +kernel⟩, ⟨(fun h => by cases h), fun _ => ⟨rq_um (List.mem_of_getElem? (i := 8) rfl), rq_ue (List.mem_of_getElem? (i := 8) rfl)⟩⟩, ⟨by decide, rfl⟩, pv_ckT_ok rq_okL (own := 0) (N := 33) (pv_blt_none rq_U9) rq_ck9⟩
set_option maxRecDepth 100000 in
theorem rq_ck10 : (List.range 18).all (pv_ckT rq_FL rq_ML rq_CL rq_cl rq_ty rq_ma 0 1 prog_10_method_12_code rq_T10) = true := by decide +kernel
theorem rq_ok10 : pv_okM rq_cl rq_ty rq_Ts rq_NW rq_mt ⟨"AssignFlowModel", "isName", "(I)Z"⟩ prog_10_method_12_code 1 (some .boolean) true 1 1 rq_T10 := ⟨⟨⟨by decide +kernel, rq_uc (List.mem_of_getElem? (i := 10) rfl)⟩, rq_ui (List.mem_of_getElem? (i := 0) rfl), by decide +kernel⟩, ⟨fun _ => rq_us (List.mem_of_getElem? (i := 1) rfl), (fun h => by cases h)⟩, ⟨by decide, rfl⟩, pv_ckT_ok rq_okL (own := 0) (N := 18) (pv_blt_none rq_U10) rq_ck10⟩
set_option maxRecDepth 100000 in
theorem rq_ck11 : (List.range 18).all (pv_ckT rq_FL rq_ML rq_CL rq_cl rq_ty rq_ma 0 1 prog_10_method_13_code rq_T11) = true := by decide +kernel
theorem rq_ok11 : pv_okM rq_cl rq_ty rq_Ts rq_NW rq_mt ⟨"AssignFlowModel", "isLabel", "(I)Z"⟩ prog_10_method_13_code 1 (some .boolean) true 1 1 rq_T11 := ⟨⟨⟨by decide +kernel, rq_uc (List.mem_of_getElem? (i := 11) rfl)⟩, rq_ui (List.mem_of_getElem? (i := 0) rfl), by decide +kernel⟩, ⟨fun _ => rq_us (List.mem_of_getElem? (i := 2) rfl), (fun h => by cases h)⟩, ⟨by decide, rfl⟩, pv_ckT_ok rq_okL (own := 0) (N := 18) (pv_blt_none rq_U11) rq_ck11⟩
set_option maxRecDepth 100000 in
theorem rq_ck12 : (List.range 31).all (pv_ckT rq_FL rq_ML rq_CL rq_cl rq_ty rq_ma 0 3 prog_10_method_14_code rq_T12) = true := by decide +kernel
theorem rq_ok12 : pv_okM rq_cl rq_ty rq_Ts rq_NW rq_mt ⟨"AssignFlowModel", "thereNow", "()I"⟩ prog_10_method_14_code 3 (some .int) false 0 0 rq_T12 := ⟨⟨⟨by decide +kernel, rq_uc (List.mem_of_getElem? (i := 12) rfl)⟩, rq_ui (List.mem_of_getElem? (i := 0) rfl), by decide +kernel⟩, ⟨(fun h => by cases h), fun _ => ⟨rq_um (List.mem_of_getElem? (i := 9) rfl), rq_ue (List.mem_of_getElem? (i := 9) rfl)⟩⟩, ⟨by decide, rfl⟩, pv_ckT_ok rq_okL (own := 0) (N := 31) (pv_blt_none rq_U12) rq_ck12⟩
set_option maxRecDepth 100000 in
theorem rq_ck13 : (List.range 148).all (pv_ckT rq_FL rq_ML rq_CL rq_cl rq_ty rq_ma 0 5 prog_10_method_15_code rq_T13) = true := by decide +kernel
theorem rq_ok13 : pv_okM rq_cl rq_ty rq_Ts rq_NW rq_mt ⟨"AssignFlowModel", "node", "(IIZ)I"⟩ prog_10_method_15_code 5 (some .int) false 3 0 rq_T13 := ⟨⟨⟨by decide +kernel, rq_uc (List.mem_of_getElem? (i := 13) rfl)⟩, rq_ui (List.mem_of_getElem? (i := 0) rfl), by decide +kernel⟩, ⟨(fun h => by cases h), fun _ => ⟨rq_um (List.mem_of_getElem? (i := 10) rfl), rq_ue (List.mem_of_getElem? (i := 10) rfl)⟩⟩, ⟨by decide, rfl⟩, pv_ckT_ok rq_okL (own := 0) (N := 148) (pv_blt_none rq_U13) rq_ck13⟩
set_option maxRecDepth 100000 in
theorem rq_ck14 : (List.range 31).all (pv_ckT rq_FL rq_ML rq_CL rq_cl rq_ty rq_ma 0 3 prog_10_method_16_code rq_T14) = true := by decide +kernel
theorem rq_ok14 : pv_okM rq_cl rq_ty rq_Ts rq_NW rq_mt ⟨"AssignFlowModel", "push", "(II)V"⟩ prog_10_method_16_code 3 none false 2 3 rq_T14 := ⟨⟨⟨by decide +kernel, rq_uc (List.mem_of_getElem? (i := 14) rfl)⟩, rq_ui (List.mem_of_getElem? (i := 0) rfl), by decide +kernel⟩, ⟨(fun h => by cases h), fun _ => ⟨rq_um (List.mem_of_getElem? (i := 11) rfl), rq_ue (List.mem_of_getElem? (i := 11) rfl)⟩⟩, ⟨by decide, rfl⟩, pv_ckT_ok rq_okL (own := 0) (N := 31) (pv_blt_none rq_U14) rq_ck14⟩
set_option maxRecDepth 100000 in
theorem rq_ck15 : (List.range 24).all (pv_ckT rq_FL rq_ML rq_CL rq_cl rq_ty rq_ma 0 1 prog_10_method_17_code rq_T15) = true := by decide +kernel
theorem rq_ok15 : pv_okM rq_cl rq_ty rq_Ts rq_NW rq_mt ⟨"AssignFlowModel", "nest", "()V"⟩ prog_10_method_17_code 1 none false 0 3 rq_T15 := ⟨⟨⟨by decide +kernel, rq_uc (List.mem_of_getElem? (i := 15) rfl)⟩, rq_ui (List.mem_of_getElem? (i := 0) rfl), by decide +kernel⟩, ⟨(fun h => by cases h), fun _ => ⟨rq_um (List.mem_of_getElem? (i := 12) rfl), rq_ue (List.mem_of_getElem? (i := 12) rfl)⟩⟩, ⟨by decide, rfl⟩, pv_ckT_ok rq_okL (own := 0) (N := 24) (pv_blt_none rq_U15) rq_ck15⟩
set_option maxRecDepth 100000 in
theorem rq_ck16 : (List.range 23).all (pv_ckT rq_FL rq_ML rq_CL rq_cl rq_ty rq_ma 0 1 prog_10_method_18_code rq_T16) = true := by decide +kernel
theorem rq_ok16 : pv_okM rq_cl rq_ty rq_Ts rq_NW rq_mt ⟨"AssignFlowModel", "top", "()I"⟩ prog_10_method_18_code 1 (some .int) false 0 0 rq_T16 := ⟨⟨⟨by decide +kernel, rq_uc (List.mem_of_getElem? (i := 16) rfl)⟩, rq_ui (List.mem_of_getElem? (i := 0) rfl), by decide +kernel⟩, ⟨(fun h => by cases h), fun _ => ⟨rq_um (List.mem_of_getElem? (i := 13) rfl), rq_ue (List.mem_of_getElem? (i := 13) rfl)⟩⟩, ⟨by decide, rfl⟩, pv_ckT_ok rq_okL (own := 0) (N := 23) (pv_blt_none rq_U16) rq_ck16⟩
set_option maxRecDepth 100000 in
theorem rq_ck17 : (List.range 126).all (pv_ckT rq_FL rq_ML rq_CL rq_cl rq_ty rq_ma 0 3 prog_10_method_19_code rq_T17) = true := by decide +kernel
theorem rq_ok17 : pv_okM rq_cl rq_ty rq_Ts rq_NW rq_mt ⟨"AssignFlowModel", "reduce", "()V"⟩ prog_10_method_19_code 3 none false 0 3 rq_T17 := ⟨⟨⟨by decide +kernel, rq_uc (List.mem_of_getElem? (i := 17) rfl)⟩, rq_ui (List.mem_of_getElem? (i := 0) rfl), by decide +kernel⟩, ⟨(fun h => by cases h), fun _ => ⟨rq_um (List.mem_of_getElem? (i := 14) rfl), rq_ue (List.mem_of_getElem? (i := 14) rfl)⟩⟩, ⟨by decide, rfl⟩, pv_ckT_ok rq_okL (own := 0) (N := 126) (pv_blt_none rq_U17) rq_ck17⟩
set_option maxRecDepth 100000 in
theorem rq_ck18 : (List.range 74).all (pv_ckT rq_FL rq_ML rq_CL rq_cl rq_ty rq_ma 0 6 prog_10_method_20_code rq_T18) = true := by decide +kernel
theorem rq_ok18 : pv_okM rq_cl rq_ty rq_Ts rq_NW rq_mt ⟨"AssignFlowModel", "reduceWhile", "(ZZZ)V"⟩ prog_10_method_20_code 6 none false 3 3 rq_T18 := ⟨⟨⟨by decide +kernel, rq_uc (List.mem_of_getElem? (i := 18) rfl)⟩, rq_ui (List.mem_of_getElem? (i := 0) rfl), by decide +kernel⟩, ⟨(fun h => by cases h), fun _ => ⟨rq_um (List.mem_of_getElem? (i := 15) rfl), rq_ue (List.mem_of_getElem? (i := 15) rfl)⟩⟩, ⟨by decide, rfl⟩, pv_ckT_ok rq_okL (own := 0) (N := 74) (pv_blt_none rq_U18) rq_ck18⟩
set_option maxRecDepth 100000 in
theorem rq_ck19 : (List.range 55).all (pv_ckT rq_FL rq_ML rq_CL rq_cl rq_ty rq_ma 0 3 prog_10_method_21_code rq_T19) = true := by decide +kernel
theorem rq_ok19 : pv_okM rq_cl rq_ty rq_Ts rq_NW rq_mt ⟨"AssignFlowModel", "waits", "(I)Z"⟩ prog_10_method_21_code 3 (some .boolean) false 1 1 rq_T19 := ⟨⟨⟨by decide +kernel, rq_uc (List.mem_of_getElem? (i := 19) rfl)⟩, rq_ui (List.mem_of_getElem? (i := 0) rfl), by decide +kernel⟩, ⟨(fun h => by cases h), fun _ => ⟨rq_um (List.mem_of_getElem? (i := 16) rfl), rq_ue (List.mem_of_getElem? (i := 16) rfl)⟩⟩, ⟨by decide, rfl⟩, pv_ckT_ok rq_okL (own := 0) (N := 55) (pv_blt_none rq_U19) rq_ck19⟩
set_option maxRecDepth 100000 in
theorem rq_ck20 : (List.range 41).all (pv_ckT rq_FL rq_ML rq_CL rq_cl rq_ty rq_ma 0 3 prog_10_method_22_code rq_T20) = true := by decide +kernel
theorem rq_ok20 : pv_okM rq_cl rq_ty rq_Ts rq_NW rq_mt ⟨"AssignFlowModel", "infix", "(I)I"⟩ prog_10_method_22_code 3 (some .int) false 1 0 rq_T20 := ⟨⟨⟨by decide +kernel, rq_uc (List.mem_of_getElem? (i := 20) rfl)⟩, rq_ui (List.mem_of_getElem? (i := 0) rfl), by decide +kernel⟩, ⟨(fun h => by cases h), fun _ => ⟨rq_um (List.mem_of_getElem? (i := 17) rfl), rq_ue (List.mem_of_getElem? (i := 17) rfl)⟩⟩, ⟨by decide, rfl⟩, pv_ckT_ok rq_okL (own := 0) (N := 41) (pv_blt_none rq_U20) rq_ck20⟩
set_option maxRecDepth 100000 in
theorem rq_ck21 : (List.range 324).all (pv_ckT rq_FL rq_ML rq_CL rq_cl rq_ty rq_ma 0 6 prog_10_method_23_code rq_T21) = true := by decide +kernel
theorem rq_ok21 : pv_okM rq_cl rq_ty rq_Ts rq_NW rq_mt ⟨"AssignFlowModel", "readE", "(I)I"⟩ prog_10_method_23_code 6 (some .int) false 1 0 rq_T21 := ⟨⟨⟨by decide +kernel, rq_uc (List.mem_of_getElem? (i := 21) rfl)⟩, rq_ui (List.mem_of_getElem? (i := 0) rfl), by decide +kernel⟩, ⟨(fun h => by cases h), fun _ => ⟨rq_um (List.mem_of_getElem? (i := 18) rfl), rq_ue (List.mem_of_getElem? (i := 18) rfl)⟩⟩, ⟨by decide, rfl⟩, pv_ckT_ok rq_okL (own := 0) (N := 324) (pv_blt_none rq_U21) rq_ck21⟩
set_option maxRecDepth 100000 in
theorem rq_ck22 : (List.range 144).all (pv_ckT rq_FL rq_ML rq_CL rq_cl rq_ty rq_ma 0 6 prog_10_method_24_code rq_T22) = true := by decide +kernel
theorem rq_ok22 : pv_okM rq_cl rq_ty rq_Ts rq_NW rq_mt ⟨"AssignFlowModel", "readName", "(IZ)Z"⟩ prog_10_method_24_code 6 (some .boolean) false 2 1 rq_T22 := ⟨⟨⟨by decide +kernel, rq_uc (List.mem_of_getElem? (i := 22) rfl)⟩, rq_ui (List.mem_of_getElem? (i := 0) rfl), by decide +kernel⟩, ⟨(fun h => by cases h), fun _ => ⟨rq_um (List.mem_of_getElem? (i := 19) rfl), rq_ue (List.mem_of_getElem? (i := 19) rfl)⟩⟩, ⟨by decide, rfl⟩, pv_ckT_ok rq_okL (own := 0) (N := 144) (pv_blt_none rq_U22) rq_ck22⟩
set_option maxRecDepth 100000 in
theorem rq_ck23 : (List.range 299).all (pv_ckT rq_FL rq_ML rq_CL rq_cl rq_ty rq_ma 0 3 prog_10_method_25_code rq_T23) = true := by decide +kernel
theorem rq_ok23 : pv_okM rq_cl rq_ty rq_Ts rq_NW rq_mt ⟨"AssignFlowModel", "readOperator", "(I)Z"⟩ prog_10_method_25_code 3 (some .boolean) false 1 1 rq_T23 := ⟨⟨⟨by decide +kernel, rq_uc (List.mem_of_getElem? (i := 23) rfl)⟩, rq_ui (List.mem_of_getElem? (i := 0) rfl), by decide +kernel⟩, ⟨(fun h => by cases h), fun _ => ⟨rq_um (List.mem_of_getElem? (i := 20) rfl), rq_ue (List.mem_of_getElem? (i := 20) rfl)⟩⟩, ⟨by decide, rfl⟩, pv_ckT_ok rq_okL (own := 0) (N := 299) (pv_blt_none rq_U23) rq_ck23⟩
set_option maxRecDepth 100000 in
theorem rq_ck24 : (List.range 42).all (pv_ckT rq_FL rq_ML rq_CL rq_cl rq_ty rq_ma 0 2 prog_10_method_26_code rq_T24) = true := by decide +kernel
theorem rq_ok24 : pv_okM rq_cl rq_ty rq_Ts rq_NW rq_mt ⟨"AssignFlowModel", "close", "(I)V"⟩ prog_10_method_26_code 2 none false 1 3 rq_T24 := ⟨⟨⟨by decide +kernel, rq_uc (List.mem_of_getElem? (i := 24) rfl)⟩, rq_ui (List.mem_of_getElem? (i := 0) rfl), by decide +kernel⟩, ⟨(fun h => by cases h), fun _ => ⟨rq_um (List.mem_of_getElem? (i := 21) rfl), rq_ue (List.mem_of_getElem? (i := 21) rfl)⟩⟩, ⟨by decide, rfl⟩, pv_ckT_ok rq_okL (own := 0) (N := 42) (pv_blt_none rq_U24) rq_ck24⟩
set_option maxRecDepth 100000 in
theorem rq_ck25 : (List.range 44).all (pv_ckT rq_FL rq_ML rq_CL rq_cl rq_ty rq_ma 0 2 prog_10_method_27_code rq_T25) = true := by decide +kernel
theorem rq_ok25 : pv_okM rq_cl rq_ty rq_Ts rq_NW rq_mt ⟨"AssignFlowModel", "begin", "(I)V"⟩ prog_10_method_27_code 2 none false 1 3 rq_T25 := ⟨⟨⟨by decide +kernel, rq_uc (List.mem_of_getElem? (i := 25) rfl)⟩, rq_ui (List.mem_of_getElem? (i := 0) rfl), by decide +kernel⟩, ⟨(fun h => by cases h), fun _ => ⟨rq_um (List.mem_of_getElem? (i := 22) rfl), rq_ue (List.mem_of_getElem? (i := 22) rfl)⟩⟩, ⟨by decide, rfl⟩, pv_ckT_ok rq_okL (own := 0) (N := 44) (pv_blt_none rq_U25) rq_ck25⟩
set_option maxRecDepth 100000 in
theorem rq_ck26 : (List.range 434).all (pv_ckT rq_FL rq_ML rq_CL rq_cl rq_ty rq_ma 0 7 prog_10_method_28_code rq_T26) = true := by decide +kernel
theorem rq_ok26 : pv_okM rq_cl rq_ty rq_Ts rq_NW rq_mt ⟨"AssignFlowModel", "readStmt", "(ZI)V"⟩ prog_10_method_28_code 7 none false 2 3 rq_T26 := ⟨⟨⟨by decide +kernel, rq_uc (List.mem_of_getElem? (i := 26) rfl)⟩, rq_ui (List.mem_of_getElem? (i := 0) rfl), by decide +kernel⟩, ⟨(fun h => by cases h), fun _ => ⟨rq_um (List.mem_of_getElem? (i := 23) rfl), rq_ue (List.mem_of_getElem? (i := 23) rfl)⟩⟩, ⟨by decide, rfl⟩, pv_ckT_ok rq_okL (own := 0) (N := 434) (pv_blt_none rq_U26) rq_ck26⟩
set_option maxRecDepth 100000 in
theorem rq_ck27 : (List.range 184).all (pv_ckT rq_FL rq_ML rq_CL rq_cl rq_ty rq_ma 0 4 prog_10_method_29_code rq_T27) = true := by decide +kernel
theorem rq_ok27 : pv_okM rq_cl rq_ty rq_Ts rq_NW rq_mt ⟨"AssignFlowModel", "readGiven", "(II)V"⟩ prog_10_method_29_code 4 none false 2 3 rq_T27 := ⟨⟨⟨by decide +kernel, rq_uc (List.mem_of_getElem? (i := 27) rfl)⟩, rq_ui (List.mem_of_getElem? (i := 0) rfl), by decide +kernel⟩, ⟨(fun h => by cases h), fun _ => ⟨rq_um (List.mem_of_getElem? (i := 24) rfl), rq_ue (List.mem_of_getElem? (i := 24) rfl)⟩⟩, ⟨by decide, rfl⟩, pv_ckT_ok rq_okL (own := 0) (N := 184) (pv_blt_none rq_U27) rq_ck27⟩
set_option maxRecDepth 100000 in
theorem rq_ck28 : (List.range 63).all (pv_ckT rq_FL rq_ML rq_CL rq_cl rq_ty rq_ma 0 4 prog_10_method_30_code rq_T28) = true := by decide +kernel
theorem rq_ok28 : pv_okM rq_cl rq_ty rq_Ts rq_NW rq_mt ⟨"AssignFlowModel", "readLabel", "(II)V"⟩ prog_10_method_30_code 4 none false 2 3 rq_T28 := ⟨⟨⟨by decide +kernel, rq_uc (List.mem_of_getElem? (i := 28) rfl)⟩, rq_ui (List.mem_of_getElem? (i := 0) rfl), by decide +kernel⟩, ⟨(fun h => by cases h), fun _ => ⟨rq_um (List.mem_of_getElem? (i := 25) rfl), rq_ue (List.mem_of_getElem? (i := 25) rfl)⟩⟩, ⟨by decide, rfl⟩, pv_ckT_ok rq_okL (own := 0) (N := 63) (pv_blt_none rq_U28) rq_ck28⟩
set_option maxRecDepth 100000 in
theorem rq_ck29 : (List.range 24).all (pv_ckT rq_FL rq_ML rq_CL rq_cl rq_ty rq_ma 0 1 prog_10_method_31_code rq_T29) = true := by decide +kernel
theorem rq_ok29 : pv_okM rq_cl rq_ty rq_Ts rq_NW rq_mt ⟨"AssignFlowModel", "isLoop", "(I)Z"⟩ prog_10_method_31_code 1 (some .boolean) true 1 1 rq_T29 := ⟨⟨⟨by decide +kernel, rq_uc (List.mem_of_getElem? (i := 29) rfl)⟩, rq_ui (List.mem_of_getElem? (i := 0) rfl), by decide +kernel⟩, ⟨fun _ => rq_us (List.mem_of_getElem? (i := 3) rfl), (fun h => by cases h)⟩, ⟨by decide, rfl⟩, pv_ckT_ok rq_okL (own := 0) (N := 24) (pv_blt_none rq_U29) rq_ck29⟩
set_option maxRecDepth 100000 in
theorem rq_ck30 : (List.range 259).all (pv_ckT rq_FL rq_ML rq_CL rq_cl rq_ty rq_ma 0 6 prog_10_method_32_code rq_T30) = true := by decide +kernel
theorem rq_ok30 : pv_okM rq_cl rq_ty rq_Ts rq_NW rq_mt ⟨"AssignFlowModel", "readJump", "(II)V"⟩ prog_10_method_32_code 6 none false 2 3 rq_T30 := ⟨⟨⟨by decide +kernel, rq_uc (List.mem_of_getElem? (i := 30) rfl)⟩, rq_ui (List.mem_of_getElem? (i := 0) rfl), by decide +kernel⟩, ⟨(fun h => by cases h), fun _ => ⟨rq_um (List.mem_of_getElem? (i := 26) rfl), rq_ue (List.mem_of_getElem? (i := 26) rfl)⟩⟩, ⟨by decide, rfl⟩, pv_ckT_ok rq_okL (own := 0) (N := 259) (pv_blt_none rq_U30) rq_ck30⟩
set_option maxRecDepth 100000 in
theorem rq_ck31 : (List.range 24).all (pv_ckT rq_FL rq_ML rq_CL rq_cl rq_ty rq_ma 0 1 prog_10_method_33_code rq_T31) = true := by decide +kernel
theorem rq_ok31 : pv_okM rq_cl rq_ty rq_Ts rq_NW rq_mt ⟨"AssignFlowModel", "finish", "()V"⟩ prog_10_method_33_code 1 none false 0 3 rq_T31 := ⟨⟨⟨by decide +kernel, rq_uc (List.mem_of_getElem? (i := 31) rfl)⟩, rq_ui (List.mem_of_getElem? (i := 0) rfl), by decide +kernel⟩, ⟨(fun h => by cases h), fun _ => ⟨rq_um (List.mem_of_getElem? (i := 27) rfl), rq_ue (List.mem_of_getElem? (i := 27) rfl)⟩⟩, ⟨by decide, rfl⟩, pv_ckT_ok rq_okL (own := 0) (N := 24) (pv_blt_none rq_U31) rq_ck31⟩
set_option maxRecDepth 100000 in
theorem rq_ck32 : (List.range 44).all (pv_ckT rq_FL rq_ML rq_CL rq_cl rq_ty rq_ma 0 2 prog_10_method_34_code rq_T32) = true := by decide +kernel
theorem rq_ok32 : pv_okM rq_cl rq_ty rq_Ts rq_NW rq_mt ⟨"AssignFlowModel", "readList", "(I)Z"⟩ prog_10_method_34_code 2 (some .boolean) false 1 1 rq_T32 := ⟨⟨⟨by decide +kernel, rq_uc (List.mem_of_getElem? (i := 32) rfl)⟩, rq_ui (List.mem_of_getElem? (i := 0) rfl), by decide +kernel⟩, ⟨(fun h => by cases h), fun _ => ⟨rq_um (List.mem_of_getElem? (i := 28) rfl), rq_ue (List.mem_of_getElem? (i := 28) rfl)⟩⟩, ⟨by decide, rfl⟩, pv_ckT_ok rq_okL (own := 0) (N := 44) (pv_blt_none rq_U32) rq_ck32⟩
set_option maxRecDepth 100000 in
theorem rq_ck33 : (List.range 294).all (pv_ckT rq_FL rq_ML rq_CL rq_cl rq_ty rq_ma 0 3 prog_10_method_35_code rq_T33) = true := by decide +kernel
theorem rq_ok33 : pv_okM rq_cl rq_ty rq_Ts rq_NW rq_mt ⟨"AssignFlowModel", "step", "()V"⟩ prog_10_method_35_code 3 none false 0 3 rq_T33 := ⟨⟨⟨by decide +kernel, rq_uc (List.mem_of_getElem? (i := 33) rfl)⟩, rq_ui (List.mem_of_getElem? (i := 0) rfl), by decide +kernel⟩, ⟨(fun h => by cases h), fun _ => ⟨rq_um (List.mem_of_getElem? (i := 29) rfl), rq_ue (List.mem_of_getElem? (i := 29) rfl)⟩⟩, ⟨by decide, rfl⟩, pv_ckT_ok rq_okL (own := 0) (N := 294) (pv_blt_none rq_U33) rq_ck33⟩
set_option maxRecDepth 100000 in
theorem rq_ck34 : (List.range 14).all (pv_ckT rq_FL rq_ML rq_CL rq_cl rq_ty rq_ma 0 2 prog_10_method_36_code rq_T34) = true := by decide +kernel
theorem rq_ok34 : pv_okM rq_cl rq_ty rq_Ts rq_NW rq_mt ⟨"AssignFlowModel", "readPart", "(I)V"⟩ prog_10_method_36_code 2 none false 1 3 rq_T34 := ⟨⟨⟨by decide +kernel, rq_uc (List.mem_of_getElem? (i := 34) rfl)⟩, rq_ui (List.mem_of_getElem? (i := 0) rfl), by decide +kernel⟩, ⟨(fun h => by cases h), fun _ => ⟨rq_um (List.mem_of_getElem? (i := 30) rfl), rq_ue (List.mem_of_getElem? (i := 30) rfl)⟩⟩, ⟨by decide, rfl⟩, pv_ckT_ok rq_okL (own := 0) (N := 14) (pv_blt_none rq_U34) rq_ck34⟩
set_option maxRecDepth 100000 in
theorem rq_ck35 : (List.range 14).all (pv_ckT rq_FL rq_ML rq_CL rq_cl rq_ty rq_ma 0 1 prog_10_method_37_code rq_T35) = true := by decide +kernel
theorem rq_ok35 : pv_okM rq_cl rq_ty rq_Ts rq_NW rq_mt ⟨"AssignFlowModel", "readBody", "()V"⟩ prog_10_method_37_code 1 none false 0 3 rq_T35 := ⟨⟨⟨by decide +kernel, rq_uc (List.mem_of_getElem? (i := 35) rfl)⟩, rq_ui (List.mem_of_getElem? (i := 0) rfl), by decide +kernel⟩, ⟨(fun h => by cases h), fun _ => ⟨rq_um (List.mem_of_getElem? (i := 31) rfl), rq_ue (List.mem_of_getElem? (i := 31) rfl)⟩⟩, ⟨by decide, rfl⟩, pv_ckT_ok rq_okL (own := 0) (N := 14) (pv_blt_none rq_U35) rq_ck35⟩
set_option maxRecDepth 100000 in
theorem rq_ck36 : (List.range 94).all (pv_ckT rq_FL rq_ML rq_CL rq_cl rq_ty rq_ma 0 3 prog_10_method_38_code rq_T36) = true := by decide +kernel
theorem rq_ok36 : pv_okM rq_cl rq_ty rq_Ts rq_NW rq_mt ⟨"AssignFlowModel", "stepIf", "(II)V"⟩ prog_10_method_38_code 3 none false 2 3 rq_T36 := ⟨⟨⟨by decide +kernel, rq_uc (List.mem_of_getElem? (i := 36) rfl)⟩, rq_ui (List.mem_of_getElem? (i := 0) rfl), by decide +kernel⟩, ⟨(fun h => by cases h), fun _ => ⟨rq_um (List.mem_of_getElem? (i := 32) rfl), rq_ue (List.mem_of_getElem? (i := 32) rfl)⟩⟩, ⟨by decide, rfl⟩, pv_ckT_ok rq_okL (own := 0) (N := 94) (pv_blt_none rq_U36) rq_ck36⟩
set_option maxRecDepth 100000 in
theorem rq_ck37 : (List.range 190).all (pv_ckT rq_FL rq_ML rq_CL rq_cl rq_ty rq_ma 0 4 prog_10_method_39_code rq_T37) = true := by decide +kernel
theorem rq_ok37 : pv_okM rq_cl rq_ty rq_Ts rq_NW rq_mt ⟨"AssignFlowModel", "stepCases", "(II)V"⟩ prog_10_method_39_code 4 none false 2 3 rq_T37 := ⟨⟨⟨by decide +kernel, rq_uc (List.mem_of_getElem? (i := 37) rfl)⟩, rq_ui (List.mem_of_getElem? (i := 0) rfl), by decide +kernel⟩, ⟨(fun h => by cases h), fun _ => ⟨rq_um (List.mem_of_getElem? (i := 33) rfl), rq_ue (List.mem_of_getElem? (i := 33) rfl)⟩⟩, ⟨by decide, rfl⟩, pv_ckT_ok rq_okL (own := 0) (N := 190) (pv_blt_none rq_U37) rq_ck37⟩
set_option maxRecDepth 100000 in
theorem rq_ck38 : (List.range 244).all (pv_ckT rq_FL rq_ML rq_CL rq_cl rq_ty rq_ma 0 4 prog_10_method_40_code rq_T38) = true := by decide +kernel
theorem rq_ok38 : pv_okM rq_cl rq_ty rq_Ts rq_NW rq_mt ⟨"AssignFlowModel", "stepTry", "(II)V"⟩ prog_10_method_40_code 4 none false 2 3 rq_T38 := ⟨⟨⟨by decide +kernel, rq_uc (List.mem_of_getElem? (i := 38) rfl)⟩, rq_ui (List.mem_of_getElem? (i := 0) rfl), by decide +kernel⟩, ⟨(fun h => by cases h), fun _ => ⟨rq_um (List.mem_of_getElem? (i := 34) rfl), rq_ue (List.mem_of_getElem? (i := 34) rfl)⟩⟩, ⟨by decide, rfl⟩, pv_ckT_ok rq_okL (own := 0) (N := 244) (pv_blt_none rq_U38) rq_ck38⟩
set_option maxRecDepth 100000 in
theorem rq_ck39 : (List.range 98).all (pv_ckT rq_FL rq_ML rq_CL rq_cl rq_ty rq_ma 0 3 prog_10_method_41_code rq_T39) = true := by decide +kernel
theorem rq_ok39 : pv_okM rq_cl rq_ty rq_Ts rq_NW rq_mt ⟨"AssignFlowModel", "parse", "(I)V"⟩ prog_10_method_41_code 3 none false 1 3 rq_T39 := ⟨⟨⟨by decide +kernel, rq_uc (List.mem_of_getElem? (i := 39) rfl)⟩, rq_ui (List.mem_of_getElem? (i := 0) rfl), by decide +kernel⟩, ⟨(fun h => by cases h), fun _ => ⟨rq_um (List.mem_of_getElem? (i := 35) rfl), rq_ue (List.mem_of_getElem? (i := 35) rfl)⟩⟩, ⟨by decide, rfl⟩, pv_ckT_ok rq_okL (own := 0) (N := 98) (pv_blt_none rq_U39) rq_ck39⟩
set_option maxRecDepth 100000 in
theorem rq_ck40 : (List.range 152).all (pv_ckT rq_FL rq_ML rq_CL rq_cl rq_ty rq_ma 0 4 prog_10_method_42_code rq_T40) = true := by decide +kernel
theorem rq_ok40 : pv_okM rq_cl rq_ty rq_Ts rq_NW rq_mt ⟨"AssignFlowModel", "order", "()V"⟩ prog_10_method_42_code 4 none false 0 3 rq_T40 := ⟨⟨⟨by decide +kernel, rq_uc (List.mem_of_getElem? (i := 40) rfl)⟩, rq_ui (List.mem_of_getElem? (i := 0) rfl), by decide +kernel⟩, ⟨(fun h => by cases h), fun _ => ⟨rq_um (List.mem_of_getElem? (i := 36) rfl), rq_ue (List.mem_of_getElem? (i := 36) rfl)⟩⟩, ⟨by decide, rfl⟩, pv_ckT_ok rq_okL (own := 0) (N := 152) (pv_blt_none rq_U40) rq_ck40⟩
set_option maxRecDepth 100000 in
theorem rq_ck41 : (List.range 61).all (pv_ckT rq_FL rq_ML rq_CL rq_cl rq_ty rq_ma 0 4 prog_10_method_43_code rq_T41) = true := by decide +kernel
theorem rq_ok41 : pv_okM rq_cl rq_ty rq_Ts rq_NW rq_mt ⟨"AssignFlowModel", "edge", "(III)V"⟩ prog_10_method_43_code 4 none false 3 3 rq_T41 := ⟨⟨⟨by decide +kernel, rq_uc (List.mem_of_getElem? (i := 41) rfl)⟩, rq_ui (List.mem_of_getElem? (i := 0) rfl), by decide +kernel⟩, ⟨(fun h => by cases h), fun _ => ⟨rq_um (List.mem_of_getElem? (i := 37) rfl), rq_ue (List.mem_of_getElem? (i := 37) rfl)⟩⟩, ⟨by decide, rfl⟩, pv_ckT_ok rq_okL (own := 0) (N := 61) (pv_blt_none rq_U41) rq_ck41⟩
set_option maxRecDepth 100000 in
theorem rq_ck42 : (List.range 8).all (pv_ckT rq_FL rq_ML rq_CL rq_cl rq_ty rq_ma 0 3 prog_10_method_44_code rq_T42) = true := by decide +kernel
theorem rq_ok42 : pv_okM rq_cl rq_ty rq_Ts rq_NW rq_mt ⟨"AssignFlowModel", "go", "(II)V"⟩ prog_10_method_44_code 3 none false 2 3 rq_T42 := ⟨⟨⟨by decide +kernel, rq_uc (List.mem_of_getElem? (i := 42) rfl)⟩, rq_ui (List.mem_of_getElem? (i := 0) rfl), by decide +kernel⟩, ⟨(fun h => by cases h), fun _ => ⟨rq_um (List.mem_of_getElem? (i := 38) rfl), rq_ue (List.mem_of_getElem? (i := 38) rfl)⟩⟩, ⟨by decide, rfl⟩, pv_ckT_ok rq_okL (own := 0) (N := 8) (pv_blt_none rq_U42) rq_ck42⟩
set_option maxRecDepth 100000 in
theorem rq_ck43 : (List.range 6).all (pv_ckT rq_FL rq_ML rq_CL rq_cl rq_ty rq_ma 0 2 prog_10_method_45_code rq_T43) = true := by decide +kernel
theorem rq_ok43 : pv_okM rq_cl rq_ty rq_Ts rq_NW rq_mt ⟨"AssignFlowModel", "point", "(II)I"⟩ prog_10_method_45_code 2 (some .int) true 2 0 rq_T43 := ⟨⟨⟨by decide +kernel, rq_uc (List.mem_of_getElem? (i := 43) rfl)⟩, rq_ui (List.mem_of_getElem? (i := 0) rfl), by decide +kernel⟩, ⟨fun _ => rq_us (List.mem_of_getElem? (i := 4) rfl), (fun h => by cases h)⟩, ⟨by decide, rfl⟩, pv_ckT_ok rq_okL (own := 0) (N := 6) (pv_blt_none rq_U43) rq_ck43⟩
set_option maxRecDepth 100000 in
theorem rq_ck44 : (List.range 66).all (pv_ckT rq_FL rq_ML rq_CL rq_cl rq_ty rq_ma 0 7 prog_10_method_46_code rq_T44) = true := by decide +kernel
theorem rq_ok44 : pv_okM rq_cl rq_ty rq_Ts rq_NW rq_mt ⟨"AssignFlowModel", "child", "(IIZ)I"⟩ prog_10_method_46_code 7 (some .int) false 3 0 rq_T44 := ⟨⟨⟨by decide +kernel, rq_uc (List.mem_of_getElem? (i := 44) rfl)⟩, rq_ui (List.mem_of_getElem? (i := 0) rfl), by decide +kernel⟩, ⟨(fun h => by cases h), fun _ => ⟨rq_um (List.mem_of_getElem? (i := 39) rfl), rq_ue (List.mem_of_getElem? (i := 39) rfl)⟩⟩, ⟨by decide, rfl⟩, pv_ckT_ok rq_okL (own := 0) (N := 66) (pv_blt_none rq_U44) rq_ck44⟩
set_option maxRecDepth 100000 in
theorem rq_ck45 : (List.range 91).all (pv_ckT rq_FL rq_ML rq_CL rq_cl rq_ty rq_ma 0 8 prog_10_method_47_code rq_T45) = true := by decide +kernel
theorem rq_ok45 : pv_okM rq_cl rq_ty rq_Ts rq_NW rq_mt ⟨"AssignFlowModel", "chain", "(IIII)V"⟩ prog_10_method_47_code 8 none false 4 3 rq_T45 := ⟨⟨⟨by decide +kernel, rq_uc (List.mem_of_getElem? (i := 45) rfl)⟩, rq_ui (List.mem_of_getElem? (i := 0) rfl), by decide +kernel⟩, ⟨(fun h => by cases h), fun _ => ⟨rq_um (List.mem_of_getElem? (i := 40) rfl), rq_ue (List.mem_of_getElem? (i := 40) rfl)⟩⟩, ⟨by decide, rfl⟩, pv_ckT_ok rq_okL (own := 0) (N := 91) (pv_blt_none rq_U45) rq_ck45⟩
set_option maxRecDepth 100000 in
theorem rq_ck46 : (List.range 21).all (pv_ckT rq_FL rq_ML rq_CL rq_cl rq_ty rq_ma 0 4 prog_10_method_48_code rq_T46) = true := by decide +kernel
theorem rq_ok46 : pv_okM rq_cl rq_ty rq_Ts rq_NW rq_mt ⟨"AssignFlowModel", "ends", "(III)V"⟩ prog_10_method_48_code 4 none false 3 3 rq_T46 := ⟨⟨⟨by decide +kernel, rq_uc (List.mem_of_getElem? (i := 46) rfl)⟩, rq_ui (List.mem_of_getElem? (i := 0) rfl), by decide +kernel⟩, ⟨(fun h => by cases h), fun _ => ⟨rq_um (List.mem_of_getElem? (i := 41) rfl), rq_ue (List.mem_of_getElem? (i := 41) rfl)⟩⟩, ⟨by decide, rfl⟩, pv_ckT_ok rq_okL (own := 0) (N := 21) (pv_blt_none rq_U46) rq_ck46⟩
set_option maxRecDepth 100000 in
theorem rq_ck47 : (List.range 83).all (pv_ckT rq_FL rq_ML rq_CL rq_cl rq_ty rq_ma 0 4 prog_10_method_49_code rq_T47) = true := by decide +kernel
theorem rq_ok47 : pv_okM rq_cl rq_ty rq_Ts rq_NW rq_mt ⟨"AssignFlowModel", "way", "(II)I"⟩ prog_10_method_49_code 4 (some .int) false 2 0 rq_T47 := ⟨⟨⟨by decide +kernel, rq_uc (List.mem_of_getElem? (i := 47) rfl)⟩, rq_ui (List.mem_of_getElem? (i := 0) rfl), by decide +kernel⟩, ⟨(fun h => by cases h), fun _ => ⟨rq_um (List.mem_of_getElem? (i := 42) rfl), rq_ue (List.mem_of_getElem? (i := 42) rfl)⟩⟩, ⟨by decide, rfl⟩, pv_ckT_ok rq_okL (own := 0) (N := 83) (pv_blt_none rq_U47) rq_ck47⟩
set_option maxRecDepth 100000 in
theorem rq_ck48 : (List.range 166).all (pv_ckT rq_FL rq_ML rq_CL rq_cl rq_ty rq_ma 0 5 prog_10_method_50_code rq_T48) = true := by decide +kernel
theorem rq_ok48 : pv_okM rq_cl rq_ty rq_Ts rq_NW rq_mt ⟨"AssignFlowModel", "leave", "(II)I"⟩ prog_10_method_50_code 5 (some .int) false 2 0 rq_T48 := ⟨⟨⟨by decide +kernel, rq_uc (List.mem_of_getElem? (i := 48) rfl)⟩, rq_ui (List.mem_of_getElem? (i := 0) rfl), by decide +kernel⟩, ⟨(fun h => by cases h), fun _ => ⟨rq_um (List.mem_of_getElem? (i := 43) rfl), rq_ue (List.mem_of_getElem? (i := 43) rfl)⟩⟩, ⟨by decide, rfl⟩, pv_ckT_ok rq_okL (own := 0) (N := 166) (pv_blt_none rq_U48) rq_ck48⟩
set_option maxRecDepth 100000 in
theorem rq_ck49 : (List.range 219).all (pv_ckT rq_FL rq_ML rq_CL rq_cl rq_ty rq_ma 0 2 prog_10_method_51_code rq_T49) = true := by decide +kernel
theorem rq_ok49 : pv_okM rq_cl rq_ty rq_Ts rq_NW rq_mt ⟨"AssignFlowModel", "build", "()V"⟩ prog_10_method_51_code 2 none false 0 3 rq_T49 := ⟨⟨⟨by decide +kernel, rq_uc (List.mem_of_getElem? (i := 49) rfl)⟩, rq_ui (List.mem_of_getElem? (i := 0) rfl), by decide +kernel⟩, ⟨(fun h => by cases h), fun _ => ⟨rq_um (List.mem_of_getElem? (i := 44) rfl), rq_ue (List.mem_of_getElem? (i := 44) rfl)⟩⟩, ⟨by decide, rfl⟩, pv_ckT_ok rq_okL (own := 0) (N := 219) (pv_blt_none rq_U49) rq_ck49⟩
set_option maxRecDepth 100000 in
theorem rq_ck50 : (List.range 44).all (pv_ckT rq_FL rq_ML rq_CL rq_cl rq_ty rq_ma 0 3 prog_10_method_52_code rq_T50) = true := by decide +kernel
theorem rq_ok50 : pv_okM rq_cl rq_ty rq_Ts rq_NW rq_mt ⟨"AssignFlowModel", "isTried", "(I)Z"⟩ prog_10_method_52_code 3 (some .boolean) false 1 1 rq_T50 := ⟨⟨⟨by decide +kernel, rq_uc (List.mem_of_getElem? (i := 50) rfl)⟩, rq_ui (List.mem_of_getElem? (i := 0) rfl), by decide +kernel⟩, ⟨(fun h => by cases h), fun _ => ⟨rq_um (List.mem_of_getElem? (i := 45) rfl), rq_ue (List.mem_of_getElem? (i := 45) rfl)⟩⟩, ⟨by decide, rfl⟩, pv_ckT_ok rq_okL (own := 0) (N := 44) (pv_blt_none rq_U50) rq_ck50⟩
set_option maxRecDepth 100000 in
theorem rq_ck51 : (List.range 661).all (pv_ckT rq_FL rq_ML rq_CL rq_cl rq_ty rq_ma 0 8 prog_10_method_53_code rq_T51) = true := by decide +kernel
theorem rq_ok51 : pv_okM rq_cl rq_ty rq_Ts rq_NW rq_mt ⟨"AssignFlowModel", "buildStmt", "(I)V"⟩ prog_10_method_53_code 8 none false 1 3 rq_T51 := ⟨⟨⟨by decide +kernel, rq_uc (List.mem_of_getElem? (i := 51) rfl)⟩, rq_ui (List.mem_of_getElem? (i := 0) rfl), by decide +kernel⟩, ⟨(fun h => by cases h), fun _ => ⟨rq_um (List.mem_of_getElem? (i := 46) rfl), rq_ue (List.mem_of_getElem? (i := 46) rfl)⟩⟩, ⟨by decide, rfl⟩, pv_ckT_ok rq_okL (own := 0) (N := 661) (pv_blt_none rq_U51) rq_ck51⟩
set_option maxRecDepth 100000 in
theorem rq_ck52 : (List.range 157).all (pv_ckT rq_FL rq_ML rq_CL rq_cl rq_ty rq_ma 0 7 prog_10_method_54_code rq_T52) = true := by decide +kernel
theorem rq_ok52 : pv_okM rq_cl rq_ty rq_Ts rq_NW rq_mt ⟨"AssignFlowModel", "buildCases", "(III)V"⟩ prog_10_method_54_code 7 none false 3 3 rq_T52 := ⟨⟨⟨by decide +kernel, rq_uc (List.mem_of_getElem? (i := 52) rfl)⟩, rq_ui (List.mem_of_getElem? (i := 0) rfl), by decide +kernel⟩, ⟨(fun h => by cases h), fun _ => ⟨rq_um (List.mem_of_getElem? (i := 47) rfl), rq_ue (List.mem_of_getElem? (i := 47) rfl)⟩⟩, ⟨by decide, rfl⟩, pv_ckT_ok rq_okL (own := 0) (N := 157) (pv_blt_none rq_U52) rq_ck52⟩
set_option maxRecDepth 100000 in
theorem rq_ck53 : (List.range 363).all (pv_ckT rq_FL rq_ML rq_CL rq_cl rq_ty rq_ma 0 8 prog_10_method_55_code rq_T53) = true := by decide +kernel
theorem rq_ok53 : pv_okM rq_cl rq_ty rq_Ts rq_NW rq_mt ⟨"AssignFlowModel", "buildE", "(I)V"⟩ prog_10_method_55_code 8 none false 1 3 rq_T53 := ⟨⟨⟨by decide +kernel, rq_uc (List.mem_of_getElem? (i := 53) rfl)⟩, rq_ui (List.mem_of_getElem? (i := 0) rfl), by decide +kernel⟩, ⟨(fun h => by cases h), fun _ => ⟨rq_um (List.mem_of_getElem? (i := 48) rfl), rq_ue (List.mem_of_getElem? (i := 48) rfl)⟩⟩, ⟨by decide, rfl⟩, pv_ckT_ok rq_okL (own := 0) (N := 363) (pv_blt_none rq_U53) rq_ck53⟩
set_option maxRecDepth 100000 in
theorem rq_ck54 : (List.range 52).all (pv_ckT rq_FL rq_ML rq_CL rq_cl rq_ty rq_ma 0 5 prog_10_method_56_code rq_T54) = true := by decide +kernel
theorem rq_ok54 : pv_okM rq_cl rq_ty rq_Ts rq_NW rq_mt ⟨"AssignFlowModel", "come", "([BIII)V"⟩ prog_10_method_56_code 5 none false 4 3 rq_T54 := ⟨⟨⟨by decide +kernel, rq_uc (List.mem_of_getElem? (i := 54) rfl)⟩, rq_ui (List.mem_of_getElem? (i := 0) rfl), by decide +kernel⟩, ⟨(fun h => by cases h), fun _ => ⟨rq_um (List.mem_of_getElem? (i := 49) rfl), rq_ue (List.mem_of_getElem? (i := 49) rfl)⟩⟩, ⟨by decide, rfl⟩, pv_ckT_ok rq_okL (own := 0) (N := 52) (pv_blt_none rq_U54) rq_ck54⟩
set_option maxRecDepth 100000 in
theorem rq_ck55 : (List.range 153).all (pv_ckT rq_FL rq_ML rq_CL rq_cl rq_ty rq_ma 0 4 prog_10_method_57_code rq_T55) = true := by decide +kernel
theorem rq_ok55 : pv_okM rq_cl rq_ty rq_Ts rq_NW rq_mt ⟨"AssignFlowModel", "isWithin", "(II)Z"⟩ prog_10_method_57_code 4 (some .boolean) false 2 1 rq_T55 := ⟨⟨⟨by decide +kernel, rq_uc (List.mem_of_getElem? (i := 55) rfl)⟩, rq_ui (List.mem_of_getElem? (i := 0) rfl), by decide +kernel⟩, ⟨(fun h => by cases h), fun _ => ⟨rq_um (List.mem_of_getElem? (i := 50) rfl), rq_ue (List.mem_of_getElem? (i := 50) rfl)⟩⟩, ⟨by decide, rfl⟩, pv_ckT_ok rq_okL (own := 0) (N := 153) (pv_blt_none rq_U55) rq_ck55⟩
set_option maxRecDepth 100000 in
theorem rq_ck56 : (List.range 266).all (pv_ckT rq_FL rq_ML rq_CL rq_cl rq_ty rq_ma 0 10 prog_10_method_58_code rq_T56) = true := by decide +kernel
theorem rq_ok56 : pv_okM rq_cl rq_ty rq_Ts rq_NW rq_mt ⟨"AssignFlowModel", "walk", "(I[BII)V"⟩ prog_10_method_58_code 10 none false 4 3 rq_T56 := ⟨⟨⟨by decide +kernel, rq_uc (List.mem_of_getElem? (i := 56) rfl)⟩, rq_ui (List.mem_of_getElem? (i := 0) rfl), by decide +kernel⟩, ⟨(fun h => by cases h), fun _ => ⟨rq_um (List.mem_of_getElem? (i := 51) rfl), rq_ue (List.mem_of_getElem? (i := 51) rfl)⟩⟩, ⟨by decide, rfl⟩, pv_ckT_ok rq_okL (own := 0) (N := 266) (pv_blt_none rq_U56) rq_ck56⟩
set_option maxRecDepth 100000 in
theorem rq_ck57 : (List.range 223).all (pv_ckT rq_FL rq_ML rq_CL rq_cl rq_ty rq_ma 0 6 prog_10_method_59_code rq_T57) = true := by decide +kernel
theorem rq_ok57 : pv_okM rq_cl rq_ty rq_Ts rq_NW rq_mt ⟨"AssignFlowModel", "solve", "()V"⟩ prog_10_method_59_code 6 none false 0 3 rq_T57 := ⟨⟨⟨by decide +kernel, rq_uc (List.mem_of_getElem? (i := 57) rfl)⟩, rq_ui (List.mem_of_getElem? (i := 0) rfl), by decide +kernel⟩, ⟨(fun h => by cases h), fun _ => ⟨rq_um (List.mem_of_getElem? (i := 52) rfl), rq_ue (List.mem_of_getElem? (i := 52) rfl)⟩⟩, ⟨by decide, rfl⟩, pv_ckT_ok rq_okL (own := 0) (N := 223) (pv_blt_none rq_U57) rq_ck57⟩
set_option maxRecDepth 100000 in
theorem rq_ck58 : (List.range 56).all (pv_ckT rq_FL rq_ML rq_CL rq_cl rq_ty rq_ma 0 2 prog_10_method_60_code rq_T58) = true := by decide +kernel
theorem rq_ok58 : pv_okM rq_cl rq_ty rq_Ts rq_NW rq_mt ⟨"AssignFlowModel", "read", "()I"⟩ prog_10_method_60_code 2 (some .int) false 0 0 rq_T58 := ⟨⟨⟨by decide +kernel, rq_uc (List.mem_of_getElem? (i := 58) rfl)⟩, rq_ui (List.mem_of_getElem? (i := 0) rfl), by decide +kernel⟩, ⟨(fun h => by cases h), fun _ => ⟨rq_um (List.mem_of_getElem? (i := 53) rfl), rq_ue (List.mem_of_getElem? (i := 53) rfl)⟩⟩, ⟨by decide, rfl⟩, pv_ckT_ok rq_okL (own := 0) (N := 56) (pv_blt_none rq_U58) rq_ck58⟩
set_option maxRecDepth 100000 in
theorem rq_ck59 : (List.range 5).all (pv_ckT rq_FL rq_ML rq_CL rq_cl rq_ty rq_ma 0 1 prog_10_method_61_code rq_T59) = true := by decide +kernel
theorem rq_ok59 : pv_okM rq_cl rq_ty rq_Ts rq_NW rq_mt ⟨"AssignFlowModel", "fault", "()I"⟩ prog_10_method_61_code 1 (some .int) false 0 0 rq_T59 := ⟨⟨⟨by decide +kernel, rq_uc (List.mem_of_getElem? (i := 59) rfl)⟩, rq_ui (List.mem_of_getElem? (i := 0) rfl), by decide +kernel⟩, ⟨(fun h => by cases h), fun _ => ⟨rq_um (List.mem_of_getElem? (i := 54) rfl), rq_ue (List.mem_of_getElem? (i := 54) rfl)⟩⟩, ⟨by decide, rfl⟩, pv_ckT_ok rq_okL (own := 0) (N := 5) (pv_blt_none rq_U59) rq_ck59⟩
set_option maxRecDepth 100000 in
theorem rq_ck60 : (List.range 12).all (pv_ckT rq_FL rq_ML rq_CL rq_cl rq_ty rq_ma 0 2 prog_10_method_62_code rq_T60) = true := by decide +kernel
theorem rq_ok60 : pv_okM rq_cl rq_ty rq_Ts rq_NW rq_mt ⟨"AssignFlowModel", "isPlace", "(I)Z"⟩ prog_10_method_62_code 2 (some .boolean) false 1 1 rq_T60 := ⟨⟨⟨by decide +kernel, rq_uc (List.mem_of_getElem? (i := 60) rfl)⟩, rq_ui (List.mem_of_getElem? (i := 0) rfl), by decide +kernel⟩, ⟨(fun h => by cases h), fun _ => ⟨rq_um (List.mem_of_getElem? (i := 55) rfl), rq_ue (List.mem_of_getElem? (i := 55) rfl)⟩⟩, ⟨by decide, rfl⟩, pv_ckT_ok rq_okL (own := 0) (N := 12) (pv_blt_none rq_U60) rq_ck60⟩
set_option maxRecDepth 100000 in
theorem rq_ck61 : (List.range 103).all (pv_ckT rq_FL rq_ML rq_CL rq_cl rq_ty rq_ma 0 4 prog_10_method_63_code rq_T61) = true := by decide +kernel
theorem rq_ok61 : pv_okM rq_cl rq_ty rq_Ts rq_NW rq_mt ⟨"AssignFlowModel", "place", "(II)I"⟩ prog_10_method_63_code 4 (some .int) false 2 0 rq_T61 := ⟨⟨⟨by decide +kernel, rq_uc (List.mem_of_getElem? (i := 61) rfl)⟩, rq_ui (List.mem_of_getElem? (i := 0) rfl), by decide +kernel⟩, ⟨(fun h => by cases h), fun _ => ⟨rq_um (List.mem_of_getElem? (i := 56) rfl), rq_ue (List.mem_of_getElem? (i := 56) rfl)⟩⟩, ⟨by decide, rfl⟩, pv_ckT_ok rq_okL (own := 0) (N := 103) (pv_blt_none rq_U61) rq_ck61⟩
set_option maxRecDepth 100000 in
theorem rq_ck62 : (List.range 89).all (pv_ckT rq_FL rq_ML rq_CL rq_cl rq_ty rq_ma 0 5 prog_10_method_64_code rq_T62) = true := by decide +kernel
theorem rq_ok62 : pv_okM rq_cl rq_ty rq_Ts rq_NW rq_mt ⟨"AssignFlowModel", "states", "(III)I"⟩ prog_10_method_64_code 5 (some .int) false 3 0 rq_T62 := ⟨⟨⟨by decide +kernel, rq_uc (List.mem_of_getElem? (i := 62) rfl)⟩, rq_ui (List.mem_of_getElem? (i := 0) rfl), by decide +kernel⟩, ⟨(fun h => by cases h), fun _ => ⟨rq_um (List.mem_of_getElem? (i := 57) rfl), rq_ue (List.mem_of_getElem? (i := 57) rfl)⟩⟩, ⟨by decide, rfl⟩, pv_ckT_ok rq_okL (own := 0) (N := 89) (pv_blt_none rq_U62) rq_ck62⟩
set_option maxRecDepth 100000 in
theorem rq_ck63 : (List.range 19).all (pv_ckT rq_FL rq_ML rq_CL rq_cl rq_ty rq_ma 0 3 prog_10_method_65_code rq_T63) = true := by decide +kernel
theorem rq_ok63 : pv_okM rq_cl rq_ty rq_Ts rq_NW rq_mt ⟨"AssignFlowModel", "isReached", "(II)Z"⟩ prog_10_method_65_code 3 (some .boolean) false 2 1 rq_T63 := ⟨⟨⟨by decide +kernel, rq_uc (List.mem_of_getElem? (i := 63) rfl)⟩, rq_ui (List.mem_of_getElem? (i := 0) rfl), by decide +kernel⟩, ⟨(fun h => by cases h), fun _ => ⟨rq_um (List.mem_of_getElem? (i := 58) rfl), rq_ue (List.mem_of_getElem? (i := 58) rfl)⟩⟩, ⟨by decide, rfl⟩, pv_ckT_ok rq_okL (own := 0) (N := 19) (pv_blt_none rq_U63) rq_ck63⟩
set_option maxRecDepth 100000 in
theorem rq_ck64 : (List.range 190).all (pv_ckT rq_FL rq_ML rq_CL rq_cl rq_ty rq_ma 0 10 prog_10_method_66_code rq_T64) = true := by decide +kernel
theorem rq_ok64 : pv_okM rq_cl rq_ty rq_Ts rq_NW rq_mt ⟨"AssignFlowModel", "fact", "(III)I"⟩ prog_10_method_66_code 10 (some .int) false 3 0 rq_T64 := ⟨⟨⟨by decide +kernel, rq_uc (List.mem_of_getElem? (i := 64) rfl)⟩, rq_ui (List.mem_of_getElem? (i := 0) rfl), by decide +kernel⟩, ⟨(fun h => by cases h), fun _ => ⟨rq_um (List.mem_of_getElem? (i := 59) rfl), rq_ue (List.mem_of_getElem? (i := 59) rfl)⟩⟩, ⟨by decide, rfl⟩, pv_ckT_ok rq_okL (own := 0) (N := 190) (pv_blt_none rq_U64) rq_ck64⟩
set_option maxRecDepth 100000 in
theorem rq_ck65 : (List.range 47).all (pv_ckT rq_FL rq_ML rq_CL rq_cl rq_ty rq_ma 0 3 prog_10_method_67_code rq_T65) = true := by decide +kernel
theorem rq_ok65 : pv_okM rq_cl rq_ty rq_Ts rq_NW rq_mt ⟨"AssignFlowModel", "isTwice", "(I)Z"⟩ prog_10_method_67_code 3 (some .boolean) false 1 1 rq_T65 := ⟨⟨⟨by decide +kernel, rq_uc (List.mem_of_getElem? (i := 65) rfl)⟩, rq_ui (List.mem_of_getElem? (i := 0) rfl), by decide +kernel⟩, ⟨(fun h => by cases h), fun _ => ⟨rq_um (List.mem_of_getElem? (i := 60) rfl), rq_ue (List.mem_of_getElem? (i := 60) rfl)⟩⟩, ⟨by decide, rfl⟩, pv_ckT_ok rq_okL (own := 0) (N := 47) (pv_blt_none rq_U65) rq_ck65⟩
set_option maxRecDepth 100000 in
theorem rq_ck66 : (List.range 96).all (pv_ckT rq_FL rq_ML rq_CL rq_cl rq_ty rq_ma 0 2 prog_10_method_68_code rq_T66) = true := by decide +kernel
theorem rq_ok66 : pv_okM rq_cl rq_ty rq_Ts rq_NW rq_mt ⟨"AssignFlowModel", "errorAt", "(I)I"⟩ prog_10_method_68_code 2 (some .int) false 1 0 rq_T66 := ⟨⟨⟨by decide +kernel, rq_uc (List.mem_of_getElem? (i := 66) rfl)⟩, rq_ui (List.mem_of_getElem? (i := 0) rfl), by decide +kernel⟩, ⟨(fun h => by cases h), fun _ => ⟨rq_um (List.mem_of_getElem? (i := 61) rfl), rq_ue (List.mem_of_getElem? (i := 61) rfl)⟩⟩, ⟨by decide, rfl⟩, pv_ckT_ok rq_okL (own := 0) (N := 96) (pv_blt_none rq_U66) rq_ck66⟩
set_option maxRecDepth 100000 in
theorem rq_ck67 : (List.range 75).all (pv_ckT rq_FL rq_ML rq_CL rq_cl rq_ty rq_ma 0 6 prog_10_method_69_code rq_T67) = true := by decide +kernel
theorem rq_ok67 : pv_okM rq_cl rq_ty rq_Ts rq_NW rq_mt ⟨"AssignFlowModel", "error", "(II)I"⟩ prog_10_method_69_code 6 (some .int) false 2 0 rq_T67 := ⟨⟨⟨by decide +kernel, rq_uc (List.mem_of_getElem? (i := 67) rfl)⟩, rq_ui (List.mem_of_getElem? (i := 0) rfl), by decide +kernel⟩, ⟨(fun h => by cases h), fun _ => ⟨rq_um (List.mem_of_getElem? (i := 62) rfl), rq_ue (List.mem_of_getElem? (i := 62) rfl)⟩⟩, ⟨by decide, rfl⟩, pv_ckT_ok rq_okL (own := 0) (N := 75) (pv_blt_none rq_U67) rq_ck67⟩
set_option maxRecDepth 100000 in
theorem rq_ck68 : (List.range 237).all (pv_ckT rq_FL rq_ML rq_CL rq_cl rq_ty rq_ma 0 7 prog_10_method_70_code rq_T68) = true := by decide +kernel
theorem rq_ok68 : pv_okM rq_cl rq_ty rq_Ts rq_NW rq_mt ⟨"AssignFlowModel", "variable", "(II)I"⟩ prog_10_method_70_code 7 (some .int) false 2 0 rq_T68 := ⟨⟨⟨by decide +kernel, rq_uc (List.mem_of_getElem? (i := 68) rfl)⟩, rq_ui (List.mem_of_getElem? (i := 0) rfl), by decide +kernel⟩, ⟨(fun h => by cases h), fun _ => ⟨rq_um (List.mem_of_getElem? (i := 63) rfl), rq_ue (List.mem_of_getElem? (i := 63) rfl)⟩⟩, ⟨by decide, rfl⟩, pv_ckT_ok rq_okL (own := 0) (N := 237) (pv_blt_none rq_U68) rq_ck68⟩
set_option maxRecDepth 100000 in
theorem rq_ck69 : (List.range 169).all (pv_ckT rq_FL rq_ML rq_CL rq_cl rq_ty rq_ma 0 5 prog_10_method_71_code rq_T69) = true := by decide +kernel
theorem rq_ok69 : pv_okM rq_cl rq_ty rq_Ts rq_NW rq_mt ⟨"AssignFlowModel", "count", "(I)I"⟩ prog_10_method_71_code 5 (some .int) false 1 0 rq_T69 := ⟨⟨⟨by decide +kernel, rq_uc (List.mem_of_getElem? (i := 69) rfl)⟩, rq_ui (List.mem_of_getElem? (i := 0) rfl), by decide +kernel⟩, ⟨(fun h => by cases h), fun _ => ⟨rq_um (List.mem_of_getElem? (i := 64) rfl), rq_ue (List.mem_of_getElem? (i := 64) rfl)⟩⟩, ⟨by decide, rfl⟩, pv_ckT_ok rq_okL (own := 0) (N := 169) (pv_blt_none rq_U69) rq_ck69⟩
def rq_okX (x : pv_M) : Prop := pv_okM rq_cl rq_ty rq_Ts rq_NW rq_mt x.1 x.2.1 x.2.2.1 x.2.2.2.1 x.2.2.2.2.1 x.2.2.2.2.2.1 x.2.2.2.2.2.2.1 x.2.2.2.2.2.2.2
set_option maxRecDepth 100000 in
theorem rq_okms : ∀ x ∈ rq_ms, rq_okX x := List.forall_mem_cons.mpr ⟨rq_ok0, List.forall_mem_cons.mpr ⟨rq_ok1, List.forall_mem_cons.mpr ⟨rq_ok2, List.forall_mem_cons.mpr ⟨rq_ok3, List.forall_mem_cons.mpr ⟨rq_ok4, List.forall_mem_cons.mpr ⟨rq_ok5, List.forall_mem_cons.mpr ⟨rq_ok6, List.forall_mem_cons.mpr ⟨rq_ok7, List.forall_mem_cons.mpr ⟨rq_ok8, List.forall_mem_cons.mpr ⟨rq_ok9, List.forall_mem_cons.mpr ⟨rq_ok10, List.forall_mem_cons.mpr ⟨rq_ok11, List.forall_mem_cons.mpr ⟨rq_ok12, List.forall_mem_cons.mpr ⟨rq_ok13, List.forall_mem_cons.mpr ⟨rq_ok14, List.forall_mem_cons.mpr ⟨rq_ok15, List.forall_mem_cons.mpr ⟨rq_ok16, List.forall_mem_cons.mpr ⟨rq_ok17, List.forall_mem_cons.mpr ⟨rq_ok18, List.forall_mem_cons.mpr ⟨rq_ok19, List.forall_mem_cons.mpr ⟨rq_ok20, List.forall_mem_cons.mpr ⟨rq_ok21, List.forall_mem_cons.mpr ⟨rq_ok22, List.forall_mem_cons.mpr ⟨rq_ok23, List.forall_mem_cons.mpr ⟨rq_ok24, List.forall_mem_cons.mpr ⟨rq_ok25, List.forall_mem_cons.mpr ⟨rq_ok26, List.forall_mem_cons.mpr ⟨rq_ok27, List.forall_mem_cons.mpr ⟨rq_ok28, List.forall_mem_cons.mpr ⟨rq_ok29, List.forall_mem_cons.mpr ⟨rq_ok30, List.forall_mem_cons.mpr ⟨rq_ok31, List.forall_mem_cons.mpr ⟨rq_ok32, List.forall_mem_cons.mpr ⟨rq_ok33, List.forall_mem_cons.mpr ⟨rq_ok34, List.forall_mem_cons.mpr ⟨rq_ok35, List.forall_mem_cons.mpr ⟨rq_ok36, List.forall_mem_cons.mpr ⟨rq_ok37, List.forall_mem_cons.mpr ⟨rq_ok38, List.forall_mem_cons.mpr ⟨rq_ok39, List.forall_mem_cons.mpr ⟨rq_ok40, List.forall_mem_cons.mpr ⟨rq_ok41, List.forall_mem_cons.mpr ⟨rq_ok42, List.forall_mem_cons.mpr ⟨rq_ok43, List.forall_mem_cons.mpr ⟨rq_ok44, List.forall_mem_cons.mpr ⟨rq_ok45, List.forall_mem_cons.mpr ⟨rq_ok46, List.forall_mem_cons.mpr ⟨rq_ok47, List.forall_mem_cons.mpr ⟨rq_ok48, List.forall_mem_cons.mpr ⟨rq_ok49, List.forall_mem_cons.mpr ⟨rq_ok50, List.forall_mem_cons.mpr ⟨rq_ok51, List.forall_mem_cons.mpr ⟨rq_ok52, List.forall_mem_cons.mpr ⟨rq_ok53, List.forall_mem_cons.mpr ⟨rq_ok54, List.forall_mem_cons.mpr ⟨rq_ok55, List.forall_mem_cons.mpr ⟨rq_ok56, List.forall_mem_cons.mpr ⟨rq_ok57, List.forall_mem_cons.mpr ⟨rq_ok58, List.forall_mem_cons.mpr ⟨rq_ok59, List.forall_mem_cons.mpr ⟨rq_ok60, List.forall_mem_cons.mpr ⟨rq_ok61, List.forall_mem_cons.mpr ⟨rq_ok62, List.forall_mem_cons.mpr ⟨rq_ok63, List.forall_mem_cons.mpr ⟨rq_ok64, List.forall_mem_cons.mpr ⟨rq_ok65, List.forall_mem_cons.mpr ⟨rq_ok66, List.forall_mem_cons.mpr ⟨rq_ok67, List.forall_mem_cons.mpr ⟨rq_ok68, List.forall_mem_cons.mpr ⟨rq_ok69, fun _ h => absurd h List.not_mem_nil⟩⟩⟩⟩⟩⟩⟩⟩⟩⟩⟩⟩⟩⟩⟩⟩⟩⟩⟩⟩⟩⟩⟩⟩⟩⟩⟩⟩⟩⟩⟩⟩⟩⟩⟩⟩⟩⟩⟩⟩⟩⟩⟩⟩⟩⟩⟩⟩⟩⟩⟩⟩⟩⟩⟩⟩⟩⟩⟩⟩⟩⟩⟩⟩⟩⟩⟩⟩⟩⟩
theorem rq_ok : pv_ok rq_cl rq_ty rq_Ts rq_NW rq_mt := ⟨⟨rq_good, rq_isN⟩, rq_okC, ⟨by decide +kernel, by decide +kernel⟩, fun j y cc maxL ret stat na rt T h => rq_okms (y, cc, maxL, ret, stat, na, rt, T) (by unfold rq_mt at h; rw [pv_at_eq] at h; exact List.mem_of_getElem? h)⟩
end
section
/-! THE REFERENCE: its store; m: its numbers, a: its rows, both by the number of the field -/
abbrev r_row : Nat := 0
abbrev r_collected : Nat := 1
abbrev r_nodes : Nat := 2
abbrev r_sort : Nat := 3
abbrev r_first : Nat := 4
abbrev r_around : Nat := 5
abbrev r_part : Nat := 6
abbrev r_variable : Nat := 7
abbrev r_isStmt : Nat := 8
abbrev r_thereBefore : Nat := 9
abbrev r_thereAfter : Nat := 10
abbrev r_label : Nat := 11
abbrev r_target : Nat := 12
abbrev r_isMarked : Nat := 13
abbrev r_hasOther : Nat := 14
abbrev r_hasCatch : Nat := 15
abbrev r_hasEnd : Nat := 16
abbrev r_hasElse : Nat := 17
abbrev r_thereAtEnd : Nat := 18
abbrev r_variables : Nat := 19
abbrev r_nameOf : Nat := 20
abbrev r_isFinal : Nat := 21
abbrev r_givenAt : Nat := 22
abbrev r_named : Nat := 23
abbrev r_scope : Nat := 24
abbrev r_scopes : Nat := 25
abbrev r_at : Nat := 26
abbrev r_size : Nat := 27
abbrev r_wrong : Nat := 28
abbrev r_opSign : Nat := 29
abbrev r_opNode : Nat := 30
abbrev r_ops : Nat := 31
abbrev r_done : Nat := 32
abbrev r_dones : Nat := 33
abbrev r_nested : Nat := 34
abbrev r_wantsMore : Nat := 35
abbrev r_beginsMore : Nat := 36
abbrev r_open : Nat := 37
abbrev r_state : Nat := 38
abbrev r_mark : Nat := 39
abbrev r_opened : Nat := 40
abbrev r_isCase : Nat := 41
abbrev r_tailMarked : Nat := 42
abbrev r_deep : Nat := 43
abbrev r_number : Nat := 44
abbrev r_byNumber : Nat := 45
abbrev r_edgeTo : Nat := 46
abbrev r_edgeDoes : Nat := 47
abbrev r_edgeNext : Nat := 48
abbrev r_edgeHead : Nat := 49
abbrev r_edges : Nat := 50
abbrev r_start : Nat := 51
abbrev r_wayOf : Nat := 52
abbrev r_wayCode : Nat := 53
abbrev r_wayOn : Nat := 54
abbrev r_ways : Nat := 55
abbrev r_seen : Nat := 56
abbrev r_local : Nat := 57
abbrev r_ended : Nat := 58
abbrev r_pile : Nat := 59
abbrev r_piled : Nat := 60
abbrev r_faultPlace : Nat := 61
def rs (m : Nat → Int32) (a : Nat → Nat → Int32) : pv_S := [.inr (0, [.ref 1, .int (m 1), .int (m 2), .ref 2, .ref 3, .ref 4, .ref 5, .ref 6, .ref 7, .ref 8, .ref 9, .ref 10, .ref 11, .ref 12, .ref 13, .ref 14, .ref 15, .ref 16, .int (m 18), .int (m 19), .ref 17, .ref 18, .ref 19, .ref 20, .ref 21, .int (m 25), .int (m 26), .int (m 27), .int (m 28), .ref 22, .ref 23, .int (m 31), .ref 24, .int (m 33), .int (m 34), .int (m 35), .int (m 36), .ref 25, .ref 26, .ref 27, .int (m 40), .int (m 41), .ref 28, .ref 29, .ref 30, .ref 31, .ref 32, .ref 33, .ref 34, .ref 35, .int (m 50), .int (m 51), .ref 36, .ref 37, .ref 38, .int (m 55), .ref 39, .ref 40, .ref 41, .ref 42, .int (m 60), .int (m 61)]), .inl (1, 240, .inl (a 0)), .inl (0, 260, .inl (a 3)), .inl (0, 260, .inl (a 4)), .inl (0, 260, .inl (a 5)), .inl (0, 260, .inl (a 6)), .inl (0, 260, .inl (a 7)), .inl (2, 260, .inl (a 8)), .inl (0, 260, .inl (a 9)), .inl (0, 260, .inl (a 10)), .inl (0, 260, .inl (a 11)), .inl (0, 260, .inl (a 12)), .inl (2, 260, .inl (a 13)), .inl (2, 260, .inl (a 14)), .inl (2, 260, .inl (a 15)), .inl (2, 260, .inl (a 16)), .inl (2, 260, .inl (a 17)), .inl (0, 12, .inl (a 20)), .inl (2, 12, .inl (a 21)), .inl (0, 12, .inl (a 22)), .inl (0, 26, .inl (a 23)), .inl (0, 12, .inl (a 24)), .inl (0, 300, .inl (a 29)), .inl (0, 300, .inl (a 30)), .inl (0, 300, .inl (a 32)), .inl (0, 24, .inl (a 37)), .inl (0, 24, .inl (a 38)), .inl (0, 24, .inl (a 39)), .inl (2, 260, .inl (a 42)), .inl (0, 260, .inl (a 43)), .inl (0, 260, .inl (a 44)), .inl (0, 260, .inl (a 45)), .inl (0, 9000, .inl (a 46)), .inl (0, 9000, .inl (a 47)), .inl (0, 9000, .inl (a 48)), .inl (0, 3600, .inl (a 49)), .inl (0, 1500, .inl (a 52)), .inl (0, 1500, .inl (a 53)), .inl (0, 1500, .inl (a 54)), .inl (1, 46800, .inl (a 56)), .inl (1, 3600, .inl (a 57)), .inl (1, 520, .inl (a 58)), .inl (0, 7300, .inl (a 59))]
def upa (a : Nat → Nat → Int32) (k : Nat) (f : Nat → Int32) : Nat → Nat → Int32 := fun j => if j = k then f else a j
/-- one element of one row -/
def up2 (a : Nat → Nat → Int32) (k i : Nat) (x : Int32) : Nat → Nat → Int32 := upa a k (upd (a k) i x)
theorem rs_len (m : Nat → Int32) (a : Nat → Nat → Int32) : (rs m a).length = 43 := rfl
end
section
/-- the place behind blanks, at most k of them -/
def skp (f : Nat → Int32) : Nat → Nat → Nat
  | 0, p => p
  | k + 1, p => if f p = 32 ∨ f p = 10 then skp f k (p + 1) else p
/-! THE SPEC of reading an e: over the signs tx (0 .. 255) of a text of n signs and the names nm (NAME number to VARIABLE, -1: none); nodes are .tag code forest -/
def sp_x (tx : Nat → Int32) (n p : Nat) : Nat := skp tx (n - p) p
def sp_c (tx : Nat → Int32) (n q : Nat) : Int32 := if q < n then tx q else -1
abbrev sp_R : Type := Nat ⊕ (Nat × Std.Format)
def sp_b (r : sp_R) (f : Nat → Std.Format → sp_R) : sp_R := match r with
  | .inl q => .inl q
  | .inr (p, t) => f p t
/-- a node's code: its sort, its first sign, its VARIABLE + 1 -/
def sp_n (s f v : Nat) : Nat := s + 256 * f + 65536 * v
def sp_s (c : Nat) : Nat := c % 256
def sp_f (c : Nat) : Nat := c / 256 % 256
def sp_v (c : Nat) : Nat := c / 65536
def sp_1 (t : Std.Format) : Nat := match t with
  | .tag c _ => sp_f c
  | _ => 0
/-- how many nodes -/
def sp_z : Std.Format → Nat
  | .tag _ x => sp_z x + 1
  | .append x y => sp_z x + sp_z y
  | _ => 0
abbrev sp_nm (c : Int32) : Prop := 97 ≤ c ∧ c ≤ 122
/-- tags: 0 e, 1 cond, 2 or, 3 and, 4 unary; 5, 6: or, and, with their left side read. p is the place of a sign (or n) -/
def sp_e (tx : Nat → Int32) (n : Nat) (nm : Nat → Int32) : Nat → Nat → Nat → Nat → Std.Format → sp_R
  | 0, _, _, p, _ => .inl p
  | k + 1, g, lv, p, t =>
    if g = 0 then
      if 30 ≤ lv then .inl p
      else if sp_nm (sp_c tx n p) ∧ sp_c tx n (sp_x tx n (p + 1)) = 61 then
        if nm (sp_c tx n p - 97).toNatClampNeg = -1 then .inl p
        else sp_b (sp_e tx n nm k 0 (lv + 1) (sp_x tx n (sp_x tx n (p + 1) + 1)) .nil) fun q u => .inr (q, .tag (sp_n 61 p ((nm (sp_c tx n p - 97).toNatClampNeg).toNatClampNeg + 1)) u)
      else sp_e tx n nm k 1 lv p .nil
    else if g = 1 then
      if 30 ≤ lv then .inl p
      else sp_b (sp_e tx n nm k 2 lv p .nil) fun q u =>
        if sp_c tx n q = 63 then sp_b (sp_e tx n nm k 0 (lv + 1) (sp_x tx n (q + 1)) .nil) fun q2 u2 =>
          if sp_c tx n q2 = 58 then sp_b (sp_e tx n nm k 1 (lv + 1) (sp_x tx n (q2 + 1)) .nil) fun q3 u3 => .inr (q3, .tag (sp_n 63 (sp_1 u) 0) (.append u (.append u2 u3)))
          else .inl q2
        else .inr (q, u)
    else if g = 2 then sp_b (sp_e tx n nm k 3 lv p .nil) fun q u => sp_e tx n nm k 5 lv q u
    else if g = 5 then
      if sp_c tx n p = 124 then sp_b (sp_e tx n nm k 3 lv (sp_x tx n (p + 1)) .nil) fun q u => sp_e tx n nm k 5 lv q (.tag (sp_n 124 (sp_1 t) 0) (.append t u))
      else .inr (p, t)
    else if g = 3 then sp_b (sp_e tx n nm k 4 lv p .nil) fun q u => sp_e tx n nm k 6 lv q u
    else if g = 6 then
      if sp_c tx n p = 38 then sp_b (sp_e tx n nm k 4 lv (sp_x tx n (p + 1)) .nil) fun q u => sp_e tx n nm k 6 lv q (.tag (sp_n 38 (sp_1 t) 0) (.append t u))
      else .inr (p, t)
    else
      if 30 ≤ lv then .inl p
      else if sp_c tx n p = 40 then sp_b (sp_e tx n nm k 0 (lv + 1) (sp_x tx n (p + 1)) .nil) fun q u => if sp_c tx n q = 41 then .inr (sp_x tx n (q + 1), u) else .inl q
      else if sp_c tx n p = 33 then sp_b (sp_e tx n nm k 4 (lv + 1) (sp_x tx n (p + 1)) .nil) fun q u => .inr (q, .tag (sp_n 33 p 0) u)
      else if sp_nm (sp_c tx n p) then
        if nm (sp_c tx n p - 97).toNatClampNeg = -1 then .inl p
        else .inr (sp_x tx n (p + 1), .tag (sp_n (sp_c tx n p).toNatClampNeg p ((nm (sp_c tx n p - 97).toNatClampNeg).toNatClampNeg + 1)) .nil)
      else if sp_c tx n p = 48 ∨ sp_c tx n p = 49 ∨ sp_c tx n p = 35 then .inr (sp_x tx n (p + 1), .tag (sp_n (sp_c tx n p).toNatClampNeg p 0) .nil)
      else .inl p
end
section
theorem rc_isIn (d : Nat) (S : pv_S) (v lo hi : Int32) (P : pv_R) (h : P (some (.int (if lo ≤ v ∧ v ≤ hi then 1 else 0))) S) : pv_call rq_mt (d + 1) rq_m_R_isIn [.int v, .int lo, .int hi] S P := by
  refine pv_call_of rfl rfl rfl (pv_run [] 50 ?_)
  refine And.intro (fun c1 => ?_) (fun c1 => ?_)
  · refine And.intro (Or.inl rfl) ?_
    rw [if_neg (by intro q; exact absurd c1 (Int32.not_lt.mpr q.1))] at h
    exact h
  · refine And.intro (fun c2 => ?_) (fun c2 => ?_)
    · refine And.intro (Or.inl rfl) ?_
      rw [if_neg (by intro q; exact absurd c2 (Int32.not_lt.mpr q.2))] at h
      exact h
    · refine And.intro (Or.inr rfl) ?_
      rw [if_pos ⟨Int32.not_lt.mp c1, Int32.not_lt.mp c2⟩] at h
      exact h
theorem rc_forget (d : Nat) (m : Nat → Int32) (a : Nat → Nat → Int32) (P : pv_R) (h : P (some (.int (m r_collected))) (rs (upd m r_collected 0) a)) : pv_call rq_mt (d + 1) rq_m_R_forget [.ref 0] (rs m a) P := by
  refine pv_call_of rfl rfl rfl (pv_run [] 50 ?_)
  exact h
theorem rc_fault (d : Nat) (m : Nat → Int32) (a : Nat → Nat → Int32) (P : pv_R) (h : P (some (.int (m r_faultPlace))) (rs m a)) : pv_call rq_mt (d + 1) rq_m_R_fault [.ref 0] (rs m a) P := by
  refine pv_call_of rfl rfl rfl (pv_run [] 50 ?_)
  exact h
theorem rc_fail (d : Nat) (m : Nat → Int32) (a : Nat → Nat → Int32) (x : Int32) (P : pv_R) (h : P none (rs (upd m r_wrong (if m r_wrong = -1 then x else m r_wrong)) a)) : pv_call rq_mt (d + 1) rq_m_R_fail [.ref 0, .int x] (rs m a) P := by
  refine pv_call_of rfl rfl rfl (pv_run [] 50 ?_)
  refine And.intro (fun c1 => ?_) (fun c1 => ?_)
  · rw [if_pos c1] at h
    exact h
  · rw [if_neg c1] at h
    exact h
theorem rc_isRight (d : Nat) (m : Nat → Int32) (a : Nat → Nat → Int32) (P : pv_R) (h : P (some (.int (if m r_wrong = -1 then 1 else 0))) (rs m a)) : pv_call rq_mt (d + 1) rq_m_R_isRight [.ref 0] (rs m a) P := by
  refine pv_call_of rfl rfl rfl (pv_run [] 50 ?_)
  refine And.intro (fun c1 => ?_) (fun c1 => ?_)
  · rw [if_pos c1] at h
    exact And.intro (Or.inr rfl) h
  · rw [if_neg c1] at h
    exact And.intro (Or.inl rfl) h
end
section
theorem skp_le (f : Nat → Int32) : ∀ k p, p ≤ skp f k p ∧ skp f k p ≤ p + k := by
  intro k
  induction k with
  | zero => intro p; exact ⟨Nat.le_refl _, Nat.le_refl _⟩
  | succ k ih =>
    intro p
    unfold skp
    split
    · have := ih (p + 1); omega
    · omega
theorem upd_same {m : Nat → Int32} {k : Nat} {x : Int32} (h : m k = x) : upd m k x = m := by
  funext j
  unfold upd
  split
  · next e => rw [e, h]
  · rfl
theorem upd_upd (m : Nat → Int32) (k : Nat) (x y : Int32) : upd (upd m k x) k y = upd m k y := by
  funext j
  unfold upd
  split <;> rfl
theorem rc_pass_loop (d : Nat) (a : Nat → Nat → Int32) (n : Nat) (hn : n ≤ 240) (P : pv_R) : ∀ (k p : Nat) (m : Nat → Int32), p + k = n → m r_at = nI p → m r_size = nI n → P none (rs (upd m r_at (nI (skp (a r_row) k p))) a) → pv_go rq_T4 3 (pv_call rq_mt d) P (0, [(0, .ref 0)], [], rs m a) := by
  intro k
  induction k with
  | zero =>
    intro p m hp hat hsz h
    refine pv_run [0] 50 ?_
    have e : p = n := by omega
    refine And.intro (fun c1 => ?_) (fun c1 => ?_)
    · rw [show upd m r_at (nI (skp (a r_row) 0 p)) = m from upd_same hat] at h
      exact h
    · exfalso
      have c1 : ¬ m 27 ≤ m 26 := c1
      rw [show m 26 = nI p from hat, show m 27 = nI n from hsz, e] at c1
      exact c1 (Int32.le_refl _)
  | succ k ih =>
    intro p m hp hat hsz h
    refine pv_run [0] 50 ?_
    have hlt : p < n := by omega
    refine And.intro (fun c1 => ?_) (fun c1 => ?_)
    · exfalso
      have c1 : m 27 ≤ m 26 := c1
      rw [show m 26 = nI p from hat, show m 27 = nI n from hsz] at c1
      exact nI_ge hlt (by omega) c1
    · have hi : vp_in (m 26) 240 := by rw [show m 26 = nI p from hat]; exact vp_in_nI (by omega) (by decide)
      have hv : (a 0) (m 26).toNatClampNeg = a r_row p := by rw [show m 26 = nI p from hat, nI_clamp (by omega)]
      have hnext : (a r_row p = 32 ∨ a r_row p = 10) → pv_go rq_T4 3 (pv_call rq_mt d) P (0, [(0, .ref 0)], [], rs (upd m r_at (m 26 + 1)) a) := by
        intro hb
        refine ih (p + 1) (upd m r_at (m 26 + 1)) (by omega) ?_ hsz ?_
        · show m 26 + 1 = nI (p + 1)
          rw [show m 26 = nI p from hat, nI_1]
        · rw [upd_upd]
          unfold skp at h
          rw [if_pos hb] at h
          exact h
      refine And.intro hi ?_
      refine And.intro (fun c2 => ?_) (fun c2 => ?_)
      · exact hnext (Or.inl (hv.symm.trans c2))
      · refine And.intro hi ?_
        refine And.intro (fun c3 => ?_) (fun c3 => ?_)
        · exact hnext (Or.inr (hv.symm.trans c3))
        · unfold skp at h
          rw [if_neg (fun q => q.elim (fun q => c2 (hv.trans q)) (fun q => c3 (hv.trans q))), show upd m r_at (nI p) = m from upd_same hat] at h
          exact h
end
section
def r_nx (a : Nat → Nat → Int32) (n p : Nat) : Nat := skp (a r_row) (n - p) p
def r_ch (a : Nat → Nat → Int32) (n q : Nat) : Int32 := if q < n then a r_row q &&& 255 else -1
theorem skp_end (f : Nat → Int32) : ∀ k p, skp f k p = p + k ∨ ¬ (f (skp f k p) = 32 ∨ f (skp f k p) = 10) := by
  intro k
  induction k with
  | zero => intro p; exact Or.inl rfl
  | succ k ih =>
    intro p
    unfold skp
    split
    · rcases ih (p + 1) with h | h
      · left; omega
      · right; exact h
    · next h => right; exact h
theorem r_nx_le {a : Nat → Nat → Int32} {n p : Nat} (h : p ≤ n) : p ≤ r_nx a n p ∧ r_nx a n p ≤ n := by
  have := skp_le (a r_row) (n - p) p
  unfold r_nx
  omega
theorem r_nx_nx {a : Nat → Nat → Int32} {n p : Nat} (h : p ≤ n) : r_nx a n (r_nx a n p) = r_nx a n p := by
  have h1 := r_nx_le (a := a) h
  rcases skp_end (a r_row) (n - p) p with e | e
  · have e' : r_nx a n p = n := by unfold r_nx; omega
    rw [e']
    unfold r_nx
    rw [Nat.sub_self]; rfl
  · have e : ¬ (a r_row (r_nx a n p) = 32 ∨ a r_row (r_nx a n p) = 10) := e
    generalize r_nx a n p = q at *
    unfold r_nx
    cases n - q with
    | zero => rfl
    | succ k => unfold skp; rw [if_neg e]
theorem rc_pass (d : Nat) (m : Nat → Int32) (a : Nat → Nat → Int32) {n p : Nat} (hn : n ≤ 240) (hp : p ≤ n) (hat : m r_at = nI p) (hsz : m r_size = nI n) (P : pv_R) (h : P none (rs (upd m r_at (nI (r_nx a n p))) a)) : pv_call rq_mt (d + 1) rq_m_R_pass [.ref 0] (rs m a) P :=
  pv_call_of rfl rfl rfl (rc_pass_loop d a n hn P (n - p) p m (by omega) hat hsz h)
theorem rc_here (d : Nat) (m : Nat → Int32) (a : Nat → Nat → Int32) {n p : Nat} (hn : n ≤ 240) (hp : p ≤ n) (hat : m r_at = nI p) (hsz : m r_size = nI n) (P : pv_R) (h : P (some (.int (r_ch a n (r_nx a n p)))) (rs (upd m r_at (nI (r_nx a n p))) a)) : pv_call rq_mt (d + 2) rq_m_R_here [.ref 0] (rs m a) P := by
  obtain ⟨h1, h2⟩ := r_nx_le (a := a) hp
  refine pv_call_of rfl rfl rfl (pv_run [] 50 ?_)
  refine rc_pass d m a hn hp hat hsz _ ?_
  generalize r_nx a n p = q at *
  refine And.intro (fun c1 => ?_) (fun c1 => ?_)
  · have c1 : m 27 ≤ nI q := c1
    rw [show m 27 = nI n from hsz, nI_leI (by omega) (by omega)] at c1
    unfold r_ch at h
    rw [if_neg (by omega)] at h
    exact h
  · have c1 : ¬ m 27 ≤ nI q := c1
    rw [show m 27 = nI n from hsz, nI_leI (by omega) (by omega)] at c1
    have hi : vp_in (nI q) 240 := vp_in_nI (by omega) (by decide)
    refine And.intro hi ?_
    unfold r_ch at h
    rw [if_pos (by omega)] at h
    have hv : (a 0) (nI q).toNatClampNeg = a r_row q := by rw [nI_clamp (by omega)]
    rw [← hv] at h
    exact h
theorem rc_failHere (d : Nat) (m : Nat → Int32) (a : Nat → Nat → Int32) {n p : Nat} (hn : n ≤ 240) (hp : p ≤ n) (hat : m r_at = nI p) (hsz : m r_size = nI n) (P : pv_R) (h : P none (rs (upd (upd m r_at (nI (r_nx a n p))) r_wrong (if m r_wrong = -1 then nI (r_nx a n p) else m r_wrong)) a)) : pv_call rq_mt (d + 2) rq_m_R_failHere [.ref 0] (rs m a) P := by
  refine pv_call_of rfl rfl rfl (pv_run [] 50 ?_)
  refine rc_pass d m a hn hp hat hsz _ ?_
  exact rc_fail d _ a _ _ h
theorem rc_take (d : Nat) (m : Nat → Int32) (a : Nat → Nat → Int32) {n p : Nat} (hn : n ≤ 240) (hp : p ≤ n) (hat : m r_at = nI p) (hsz : m r_size = nI n) (c : Int32) (P : pv_R) (h0 : ¬ m r_wrong = -1 → P none (rs m a)) (h1 : m r_wrong = -1 → r_ch a n (r_nx a n p) = c → P none (rs (upd m r_at (nI (r_nx a n p + 1))) a)) (h2 : m r_wrong = -1 → ¬ r_ch a n (r_nx a n p) = c → P none (rs (upd (upd m r_at (nI (r_nx a n p))) r_wrong (nI (r_nx a n p))) a)) : pv_call rq_mt (d + 3) rq_m_R_take [.ref 0, .int c] (rs m a) P := by
  obtain ⟨l1, l2⟩ := r_nx_le (a := a) hp
  refine pv_call_of rfl rfl rfl (pv_run [] 50 ?_)
  refine rc_isRight (d + 1) m a _ ?_
  by_cases hw : m r_wrong = -1
  · rw [if_pos hw]
    refine And.intro (fun c1 => absurd c1 (by decide)) (fun _ => ?_)
    refine rc_here d m a hn hp hat hsz _ ?_
    refine And.intro (fun c1 => ?_) (fun c1 => ?_)
    · have h1 := h1 hw c1
      rw [← nI_1, ← upd_upd m r_at (nI (r_nx a n p))] at h1
      exact h1
    · have h2 := h2 hw c1
      refine rc_failHere d (upd m r_at (nI (r_nx a n p))) a hn l2 rfl hsz _ ?_
      rw [r_nx_nx hp, upd_upd]
      have e : (upd m r_at (nI (r_nx a n p))) r_wrong = -1 := hw
      rw [if_pos e]
      exact h2
  · rw [if_neg hw]
    refine And.intro (fun _ => ?_) (fun c1 => absurd rfl c1)
    exact h0 hw
theorem rc_isName (d : Nat) (S : pv_S) (c : Int32) (P : pv_R) (h : P (some (.int (if 97 ≤ c ∧ c ≤ 122 then 1 else 0))) S) : pv_call rq_mt (d + 1) rq_m_R_isName [.int c] S P := by
  refine pv_call_of rfl rfl rfl (pv_run [] 50 ?_)
  refine And.intro (fun c1 => ?_) (fun c1 => ?_)
  · refine And.intro (Or.inl rfl) ?_
    rw [if_neg (by intro q; exact absurd c1 (Int32.not_lt.mpr q.1))] at h
    exact h
  · refine And.intro (fun c2 => ?_) (fun c2 => ?_)
    · refine And.intro (Or.inl rfl) ?_
      rw [if_neg (by intro q; exact absurd c2 (Int32.not_lt.mpr q.2))] at h
      exact h
    · refine And.intro (Or.inr rfl) ?_
      rw [if_pos ⟨Int32.not_lt.mp c1, Int32.not_lt.mp c2⟩] at h
      exact h
theorem rc_isLabel (d : Nat) (S : pv_S) (c : Int32) (P : pv_R) (h : P (some (.int (if 50 ≤ c ∧ c ≤ 57 then 1 else 0))) S) : pv_call rq_mt (d + 1) rq_m_R_isLabel [.int c] S P := by
  refine pv_call_of rfl rfl rfl (pv_run [] 50 ?_)
  refine And.intro (fun c1 => ?_) (fun c1 => ?_)
  · refine And.intro (Or.inl rfl) ?_
    rw [if_neg (by intro q; exact absurd c1 (Int32.not_lt.mpr q.1))] at h
    exact h
  · refine And.intro (fun c2 => ?_) (fun c2 => ?_)
    · refine And.intro (Or.inl rfl) ?_
      rw [if_neg (by intro q; exact absurd c2 (Int32.not_lt.mpr q.2))] at h
      exact h
    · refine And.intro (Or.inr rfl) ?_
      rw [if_pos ⟨Int32.not_lt.mp c1, Int32.not_lt.mp c2⟩] at h
      exact h
theorem rc_push (d : Nat) (m : Nat → Int32) (a : Nat → Nat → Int32) {k : Nat} (hk : k < 300) (hops : m r_ops = nI k) (x y : Int32) (P : pv_R) (h : P none (rs (upd m r_ops (nI (k + 1))) (up2 (up2 a r_opSign k x) r_opNode k y))) : pv_call rq_mt (d + 1) rq_m_R_push [.ref 0, .int x, .int y] (rs m a) P := by
  refine pv_call_of rfl rfl rfl (pv_run [] 50 ?_)
  have hi : vp_in (m 31) 300 := by rw [show m 31 = nI k from hops]; exact vp_in_nI hk (by decide)
  have hc : (m 31).toNatClampNeg = k := by rw [show m 31 = nI k from hops, nI_clamp (by omega)]
  refine And.intro hi (And.intro hi ?_)
  rw [← nI_1, ← show m 31 = nI k from hops, ← hc] at h
  exact h
theorem rc_nest (d : Nat) (m : Nat → Int32) (a : Nat → Nat → Int32) {n p k : Nat} (hn : n ≤ 240) (hp : p ≤ n) (hat : m r_at = nI p) (hsz : m r_size = nI n) (hk : k < 2 ^ 30) (hne : m r_nested = nI k) (P : pv_R) (h1 : k < 30 → P none (rs (upd m r_nested (nI (k + 1))) a)) (h2 : 30 ≤ k → P none (rs (upd (upd (upd m r_at (nI (r_nx a n p))) r_wrong (if m r_wrong = -1 then nI (r_nx a n p) else m r_wrong)) r_nested (nI (k + 1))) a)) : pv_call rq_mt (d + 3) rq_m_R_nest [.ref 0] (rs m a) P := by
  refine pv_call_of rfl rfl rfl (pv_run [] 50 ?_)
  have e : m 34 = nI k := hne
  refine And.intro (fun c1 => ?_) (fun c1 => ?_)
  · have c1 : m 34 < 30 := c1
    rw [e, show (30 : Int32) = nI 30 from rfl, nI_ltI (by omega) (by omega)] at c1
    have h1 := h1 c1
    rw [← nI_1, ← e] at h1
    exact h1
  · have c1 : ¬ m 34 < 30 := c1
    rw [e, show (30 : Int32) = nI 30 from rfl, nI_ltI (by omega) (by omega)] at c1
    refine rc_failHere d m a hn hp hat hsz _ ?_
    have h2 := h2 (by omega)
    rw [← nI_1, ← e] at h2
    exact h2
theorem rc_top (d : Nat) (m : Nat → Int32) (a : Nat → Nat → Int32) {k : Nat} (hk : k ≤ 300) (hops : m r_ops = nI k) (P : pv_R) (h : P (some (.int (if k = 0 then -1 else a r_opSign (k - 1)))) (rs m a)) : pv_call rq_mt (d + 1) rq_m_R_top [.ref 0] (rs m a) P := by
  refine pv_call_of rfl rfl rfl (pv_run [] 50 ?_)
  have e : m 31 = nI k := hops
  refine And.intro (fun c1 => ?_) (fun c1 => ?_)
  · have c1 : m 31 ≤ 0 := c1
    rw [e, show (0 : Int32) = nI 0 from rfl, nI_leI (by omega) (by omega)] at c1
    rw [if_pos (by omega)] at h
    exact h
  · have c1 : ¬ m 31 ≤ 0 := c1
    rw [e, show (0 : Int32) = nI 0 from rfl, nI_leI (by omega) (by omega)] at c1
    have e2 : m 31 - 1 = nI (k - 1) := by rw [e, show k = (k - 1) + 1 by omega, nI_pred]; rfl
    have hi : vp_in (m 31 - 1) 300 := by rw [e2]; exact vp_in_nI (by omega) (by decide)
    have hc : (m 31 - 1).toNatClampNeg = k - 1 := by rw [e2, nI_clamp (by omega)]
    refine And.intro hi ?_
    rw [if_neg (by omega), ← hc] at h
    exact h
end
section
theorem upd_comm (m : Nat → Int32) {i j : Nat} (x y : Int32) (h : i ≠ j) : upd (upd m i x) j y = upd (upd m j y) i x := by
  funext k
  unfold upd
  by_cases h1 : k = j
  · rw [if_pos h1]
    by_cases h2 : k = i
    · exact absurd (h2.symm.trans h1) h
    · rw [if_neg h2, if_pos h1]
  · rw [if_neg h1]
    by_cases h2 : k = i
    · rw [if_pos h2, if_pos h2]
    · rw [if_neg h2, if_neg h2, if_neg h1]
/-- the variables of the first k scopes, as bits -/
def thr (f : Nat → Int32) : Nat → Int32
  | 0 => 0
  | k + 1 => thr f k ||| (1 <<< (f k &&& 31))
theorem rc_thereNow_loop (d : Nat) (m : Nat → Int32) (a : Nat → Nat → Int32) {n : Nat} (hn : n ≤ 12) (hsc : m r_scopes = nI n) (P : pv_R) (h : P (some (.int (thr (a r_scope) n))) (rs m a)) : ∀ (k i : Nat), i + k = n → pv_go rq_T12 0 (pv_call rq_mt d) P (4, [(0, .ref 0), (1, .int (thr (a r_scope) i)), (2, .int (nI i))], [], rs m a) := by
  have e : m 25 = nI n := hsc
  intro k
  induction k with
  | zero =>
    intro i hi
    refine pv_run [4] 50 ?_
    have ei : i = n := by omega
    subst ei
    refine And.intro (fun c1 => ?_) (fun c1 => ?_)
    · exact h
    · exfalso
      have c1 : ¬ m 25 ≤ nI i := c1
      rw [e] at c1
      exact c1 (Int32.le_refl _)
  | succ k ih =>
    intro i hi
    refine pv_run [4] 50 ?_
    refine And.intro (fun c1 => ?_) (fun c1 => ?_)
    · exfalso
      have c1 : m 25 ≤ nI i := c1
      rw [e, nI_leI (by omega) (by omega)] at c1
      omega
    · have hv : vp_in (nI i) 12 := vp_in_nI (by omega) (by decide)
      have hc : (nI i).toNatClampNeg = i := nI_clamp (by omega)
      refine And.intro hv ?_
      have g := ih (i + 1) (by omega)
      have e1 : thr (a r_scope) (i + 1) = thr (a 24) i ||| (1 <<< (a 24 (nI i).toNatClampNeg &&& 31)) := by rw [hc]; rfl
      rw [e1, ← nI_1] at g
      exact g
theorem rc_thereNow (d : Nat) (m : Nat → Int32) (a : Nat → Nat → Int32) {n : Nat} (hn : n ≤ 12) (hsc : m r_scopes = nI n) (P : pv_R) (h : P (some (.int (thr (a r_scope) n))) (rs m a)) : pv_call rq_mt (d + 1) rq_m_R_thereNow [.ref 0] (rs m a) P := by
  refine pv_call_of rfl rfl rfl (pv_run [4] 50 ?_)
  exact rc_thereNow_loop d m a hn hsc P h n 0 (by omega)
/-- the rows behind a new node b -/
def r_nodeA (a : Nat → Nat → Int32) (b : Nat) (s f st th : Int32) : Nat → Nat → Int32 :=
  up2 (up2 (up2 (up2 (up2 (up2 (up2 (up2 (up2 (up2 (up2 (up2 (up2 (up2 (up2 a r_sort b s) r_first b f) r_around b (-1)) r_part b 0) r_variable b (-1)) r_isStmt b st) r_thereBefore b th) r_thereAfter b th) r_label b (-1)) r_target b (-1)) r_isMarked b 0) r_hasOther b 0) r_hasCatch b 0) r_hasEnd b 0) r_hasElse b 0
theorem rc_node (d : Nat) (m : Nat → Int32) (a : Nat → Nat → Int32) {n b : Nat} (hn : n ≤ 12) (hsc : m r_scopes = nI n) (hb : b < 260) (hnd : m r_nodes = nI b) (s f st : Int32) (hst : st = 0 ∨ st = 1) (P : pv_R) (h : P (some (.int (nI b))) (rs (upd m r_nodes (nI (b + 1))) (r_nodeA a b s f st (thr (a r_scope) n)))) : pv_call rq_mt (d + 2) rq_m_R_node [.ref 0, .int s, .int f, .int st] (rs m a) P := by
  refine pv_call_of rfl rfl rfl (pv_run [] 120 ?_)
  have e : m 2 = nI b := hnd
  have hi : vp_in (m 2) 260 := by rw [e]; exact vp_in_nI hb (by decide)
  have hc : (m 2).toNatClampNeg = b := by rw [e, nI_clamp (by omega)]
  refine And.intro hi ?_
  refine And.intro hi ?_
  refine And.intro hi ?_
  refine And.intro hi ?_
  refine And.intro hi ?_
  refine And.intro (And.intro hi hst) ?_
  rw [← nI_1, ← e, ← hc] at h
  refine rc_thereNow d (upd m 2 (m 2 + 1)) (up2 (up2 (up2 (up2 (up2 (up2 a r_sort (m 2).toNatClampNeg s) r_first (m 2).toNatClampNeg f) r_around (m 2).toNatClampNeg (-1)) r_part (m 2).toNatClampNeg 0) r_variable (m 2).toNatClampNeg (-1)) r_isStmt (m 2).toNatClampNeg st) hn hsc _ ?_
  refine And.intro hi (And.intro hi (And.intro hi (And.intro hi (And.intro hi ?_))))
  refine And.intro (And.intro hi (Or.inl rfl)) (And.intro (And.intro hi (Or.inl rfl)) (And.intro (And.intro hi (Or.inl rfl)) (And.intro (And.intro hi (Or.inl rfl)) (And.intro (And.intro hi (Or.inl rfl)) ?_))))
  have ev : upd (a 9) (m 2).toNatClampNeg (thr (a 24) n) (m 2).toNatClampNeg = thr (a 24) n := by simp [upd]
  have h2 : P (some (.int (m 2))) (rs (upd m r_nodes (m 2 + 1)) (up2 (up2 (up2 (up2 (up2 (up2 (up2 (up2 (up2 (up2 (up2 (up2 (up2 (up2 (up2 a r_sort (m 2).toNatClampNeg s) r_first (m 2).toNatClampNeg f) r_around (m 2).toNatClampNeg (-1)) r_part (m 2).toNatClampNeg 0) r_variable (m 2).toNatClampNeg (-1)) r_isStmt (m 2).toNatClampNeg st) r_thereBefore (m 2).toNatClampNeg (thr (a 24) n)) r_thereAfter (m 2).toNatClampNeg (upd (a 9) (m 2).toNatClampNeg (thr (a 24) n) (m 2).toNatClampNeg)) r_label (m 2).toNatClampNeg (-1)) r_target (m 2).toNatClampNeg (-1)) r_isMarked (m 2).toNatClampNeg 0) r_hasOther (m 2).toNatClampNeg 0) r_hasCatch (m 2).toNatClampNeg 0) r_hasEnd (m 2).toNatClampNeg 0) r_hasElse (m 2).toNatClampNeg 0)) := by
    rw [ev]; exact h
  exact h2
end
section
set_option maxRecDepth 100000 in
theorem rc_reduce2_67 (d : Nat) (m : Nat → Int32) (a : Nat → Nat → Int32) {n y : Nat} (p c : Int32) (hn : n < 300) (hdn : m r_dones = nI (n + 1)) (hy : a r_done n = nI y) (hy2 : y < 260) (P : pv_R)
    (h : P none (rs m (up2 (up2 a r_around y p) r_done n p))) : pv_go rq_T17 3 (pv_call rq_mt d) P (67, [(0, .ref 0), (1, .int p), (2, .int c)], [], rs m a) := by
  refine pv_run [] 80 ?_
  have e2 : m 33 - 1 = nI n := by rw [show m 33 = nI (n + 1) from hdn, nI_pred]
  have i2 : vp_in (m 33 - 1) 300 := by rw [e2]; exact vp_in_nI hn (by decide)
  have c2 : (m 33 - 1).toNatClampNeg = n := by rw [e2, nI_clamp (by omega)]
  have f1 : a 32 (m 33 - 1).toNatClampNeg = nI y := by rw [c2]; exact hy
  have i4 : vp_in (a 32 (m 33 - 1).toNatClampNeg) 260 := by rw [f1]; exact vp_in_nI hy2 (by decide)
  have c4 : (a 32 (m 33 - 1).toNatClampNeg).toNatClampNeg = y := by rw [f1, nI_clamp (by omega)]
  refine And.intro i2 ?_
  refine And.intro i4 ?_
  refine And.intro i2 ?_
  have hend : P none (rs (upd (upd m 33 (m 33 - 1)) 33 (m 33 - 1 + 1)) (up2 (up2 a r_around (a 32 (m 33 - 1).toNatClampNeg).toNatClampNeg p) r_done (m 33 - 1).toNatClampNeg p)) := by
    rw [upd_upd, c4, c2, e2, nI_1, upd_same hdn]
    exact h
  exact hend
set_option maxRecDepth 100000 in
/-- reduce of & and |: two dones become one -/
theorem rc_reduce2 (d : Nat) (m : Nat → Int32) (a : Nat → Nat → Int32) {k n x y : Nat} (hk : k < 300) (hn : n + 2 ≤ 300) (hops : m r_ops = nI (k + 1)) (hdn : m r_dones = nI (n + 2)) (hx : a r_done (n + 1) = nI x) (hy : a r_done n = nI y) (hx2 : x < 260) (hy2 : y < 260) (hc : a r_opSign k = 38 ∨ a r_opSign k = 124) (P : pv_R)
    (h : P none (rs (upd (upd m r_ops (nI k)) r_dones (nI (n + 1))) (up2 (up2 (up2 a r_around x (a r_opNode k)) r_around y (a r_opNode k)) r_done n (a r_opNode k)))) : pv_call rq_mt (d + 1) rq_m_R_reduce [.ref 0] (rs m a) P := by
  refine pv_call_of rfl rfl rfl (pv_run [67] 80 ?_)
  have e1 : m 31 - 1 = nI k := by rw [show m 31 = nI (k + 1) from hops, nI_pred]
  have e2 : m 33 - 1 = nI (n + 1) := by rw [show m 33 = nI (n + 2) from hdn, nI_pred]
  have i1 : vp_in (m 31 - 1) 300 := by rw [e1]; exact vp_in_nI hk (by decide)
  have c1 : (m 31 - 1).toNatClampNeg = k := by rw [e1, nI_clamp (by omega)]
  have i2 : vp_in (m 33 - 1) 300 := by rw [e2]; exact vp_in_nI (by omega) (by decide)
  have c2 : (m 33 - 1).toNatClampNeg = n + 1 := by rw [e2, nI_clamp (by omega)]
  have f1 : a 32 (m 33 - 1).toNatClampNeg = nI x := by rw [c2]; exact hx
  have i4 : vp_in (a 32 (m 33 - 1).toNatClampNeg) 260 := by rw [f1]; exact vp_in_nI hx2 (by decide)
  have c4 : (a 32 (m 33 - 1).toNatClampNeg).toNatClampNeg = x := by rw [f1, nI_clamp (by omega)]
  refine And.intro i1 ?_
  refine And.intro i1 ?_
  refine And.intro i2 ?_
  refine And.intro i4 ?_
  have go2 : pv_go rq_T17 3 (pv_call rq_mt d) P (67, [(0, .ref 0), (1, .int (a 30 (m 31 - 1).toNatClampNeg)), (2, .int (a 29 (m 31 - 1).toNatClampNeg))], [], rs (upd (upd m 31 (m 31 - 1)) 33 (m 33 - 1)) (up2 a r_around (a 32 (m 33 - 1).toNatClampNeg).toNatClampNeg (a 30 (m 31 - 1).toNatClampNeg))) := by
    rw [c4, c1, e1, e2]
    exact rc_reduce2_67 d (upd (upd m 31 (nI k)) 33 (nI (n + 1))) (up2 a r_around x (a 30 k)) (a 30 k) (a 29 k) (by omega) rfl hy hy2 P h
  refine And.intro (fun q1 => ?_) (fun q1 => ?_)
  · exact go2
  · refine And.intro (fun q2 => ?_) (fun q2 => ?_)
    · exact go2
    · exfalso
      rw [← c1] at hc
      exact hc.elim q1 q2
set_option maxRecDepth 100000 in
/-- reduce of the others: one done becomes its operator's -/
theorem rc_reduce1 (d : Nat) (m : Nat → Int32) (a : Nat → Nat → Int32) {k n x : Nat} (hk : k < 300) (hn : n + 1 ≤ 300) (hops : m r_ops = nI (k + 1)) (hdn : m r_dones = nI (n + 1)) (hx : a r_done n = nI x) (hx2 : x < 260) (hc : ¬ a r_opSign k = 38 ∧ ¬ a r_opSign k = 124) (P : pv_R)
    (h : P none (rs (upd (upd m r_ops (nI k)) r_nested (m r_nested - 1)) (up2 (up2 a r_around x (a r_opNode k)) r_done n (a r_opNode k)))) : pv_call rq_mt (d + 1) rq_m_R_reduce [.ref 0] (rs m a) P := by
  refine pv_call_of rfl rfl rfl (pv_run [] 80 ?_)
  have e1 : m 31 - 1 = nI k := by rw [show m 31 = nI (k + 1) from hops, nI_pred]
  have e2 : m 33 - 1 = nI n := by rw [show m 33 = nI (n + 1) from hdn, nI_pred]
  have i1 : vp_in (m 31 - 1) 300 := by rw [e1]; exact vp_in_nI hk (by decide)
  have c1 : (m 31 - 1).toNatClampNeg = k := by rw [e1, nI_clamp (by omega)]
  have i2 : vp_in (m 33 - 1) 300 := by rw [e2]; exact vp_in_nI (by omega) (by decide)
  have c2 : (m 33 - 1).toNatClampNeg = n := by rw [e2, nI_clamp (by omega)]
  have f1 : a 32 (m 33 - 1).toNatClampNeg = nI x := by rw [c2]; exact hx
  have i4 : vp_in (a 32 (m 33 - 1).toNatClampNeg) 260 := by rw [f1]; exact vp_in_nI hx2 (by decide)
  have c4 : (a 32 (m 33 - 1).toNatClampNeg).toNatClampNeg = x := by rw [f1, nI_clamp (by omega)]
  refine And.intro i1 ?_
  refine And.intro i1 ?_
  refine And.intro i2 ?_
  refine And.intro i4 ?_
  have hend : P none (rs (upd (upd (upd (upd m 31 (m 31 - 1)) 33 (m 33 - 1)) 34 (m 34 - 1)) 33 (m 33 - 1 + 1)) (up2 (up2 a r_around (a 32 (m 33 - 1).toNatClampNeg).toNatClampNeg (a 30 (m 31 - 1).toNatClampNeg)) r_done (m 33 - 1).toNatClampNeg (a 30 (m 31 - 1).toNatClampNeg))) := by
    have es : upd (upd m 31 (nI k)) 33 (nI (n + 1)) = upd m 31 (nI k) := upd_same (m := upd m 31 (nI k)) (k := 33) hdn
    rw [upd_comm (upd (upd m 31 (m 31 - 1)) 33 (m 33 - 1)) (m 34 - 1) (m 33 - 1 + 1) (by decide), upd_upd, c4, c2, c1, e1, e2, nI_1, es]
    exact h
  refine And.intro (fun q1 => ?_) (fun q1 => ?_)
  · exfalso
    rw [← c1] at hc
    exact hc.1 q1
  · refine And.intro (fun q2 => ?_) (fun q2 => ?_)
    · exfalso
      rw [← c1] at hc
      exact hc.2 q2
    · refine And.intro i2 ?_
      exact hend
end
section
/-- reduceWhile's condition -/
def rw_c (x y z c : Int32) : Prop := (c = 38 ∧ ¬ x = 0) ∨ (c = 124 ∧ ¬ y = 0) ∨ ((c = 61 ∨ c = 58) ∧ ¬ z = 0)
set_option maxRecDepth 100000 in
theorem rc_rw_head (d : Nat) (m : Nat → Int32) (a : Nat → Nat → Int32) (x y z : Int32) (L : pv_L) (hL : L = [] ∨ ∃ c, L = [(5, .int c)]) {k : Nat} (hk : k ≤ 300) (hops : m r_ops = nI k) (P : pv_R)
    (h1 : rw_c x y z (if k = 0 then -1 else a r_opSign (k - 1)) → pv_call rq_mt (d + 1) rq_m_R_reduce [.ref 0] (rs m a) (fun o S => o = none ∧ pv_go rq_T18 3 (pv_call rq_mt (d + 1)) P (3, [(0, .ref 0), (1, .int x), (2, .int y), (3, .int z), (4, .int 1)] ++ [(5, .int (if k = 0 then -1 else a r_opSign (k - 1)))], [], S)))
    (h0 : ¬ rw_c x y z (if k = 0 then -1 else a r_opSign (k - 1)) → P none (rs m a)) : pv_go rq_T18 3 (pv_call rq_mt (d + 1)) P (3, [(0, .ref 0), (1, .int x), (2, .int y), (3, .int z), (4, .int 1)] ++ L, [], rs m a) := by
  generalize hc : (if k = 0 then -1 else a r_opSign (k - 1) : Int32) = c at h1 h0
  have yes : rw_c x y z c → pv_go rq_T18 3 (pv_call rq_mt (d + 1)) P (54, [(0, .ref 0), (1, .int x), (2, .int y), (3, .int z), (4, .int 1), (5, .int c)], [], rs m a) := by
    intro hq
    refine pv_run [3] 50 ?_
    refine And.intro (fun q => absurd q (by decide)) (fun _ => ?_)
    refine pv_call_cm rq_mt (d + 1) _ _ _ _ _ ?_ (h1 hq)
    intro o S hS
    obtain ⟨rfl, hS⟩ := hS
    exact hS
  have no : ¬ rw_c x y z c → pv_go rq_T18 3 (pv_call rq_mt (d + 1)) P (58, [(0, .ref 0), (1, .int x), (2, .int y), (3, .int z), (4, .int 1), (5, .int c)], [], rs m a) := by
    intro hq
    refine pv_run [] 50 ?_
    refine And.intro (fun _ => ?_) (fun q => absurd rfl q)
    refine And.intro (fun _ => ?_) (fun q => absurd rfl q)
    exact h0 hq
  have mid : pv_go rq_T18 3 (pv_call rq_mt (d + 1)) P (14, [(0, .ref 0), (1, .int x), (2, .int y), (3, .int z), (4, .int 1), (5, .int c)], [], rs m a) := by
    have p25 : (¬ (c = 38 ∧ ¬ x = 0)) → pv_go rq_T18 3 (pv_call rq_mt (d + 1)) P (25, [(0, .ref 0), (1, .int x), (2, .int y), (3, .int z), (4, .int 1), (5, .int c)], [], rs m a) := by
      intro n1
      have p36 : (¬ (c = 124 ∧ ¬ y = 0)) → pv_go rq_T18 3 (pv_call rq_mt (d + 1)) P (36, [(0, .ref 0), (1, .int x), (2, .int y), (3, .int z), (4, .int 1), (5, .int c)], [], rs m a) := by
        intro n2
        have p50 : (c = 61 ∨ c = 58) → pv_go rq_T18 3 (pv_call rq_mt (d + 1)) P (50, [(0, .ref 0), (1, .int x), (2, .int y), (3, .int z), (4, .int 1), (5, .int c)], [], rs m a) := by
          intro n3
          refine pv_run [54, 58] 50 ?_
          refine And.intro (fun q => ?_) (fun q => ?_)
          · exact no (fun r => r.elim n1 (fun r => r.elim n2 (fun r => r.2 q)))
          · exact yes (Or.inr (Or.inr ⟨n3, q⟩))
        refine pv_run [50, 58] 50 ?_
        refine And.intro (fun q => ?_) (fun q => ?_)
        · exact p50 (Or.inl q)
        · refine And.intro (fun q2 => ?_) (fun q2 => ?_)
          · exact p50 (Or.inr q2)
          · exact no (fun r => r.elim n1 (fun r => r.elim n2 (fun r => r.1.elim q q2)))
      refine pv_run [36, 54] 50 ?_
      refine And.intro (fun q => ?_) (fun q => ?_)
      · refine And.intro (fun q2 => ?_) (fun q2 => ?_)
        · exact p36 (fun r => r.2 q2)
        · exact yes (Or.inr (Or.inl ⟨q, q2⟩))
      · exact p36 (fun r => q r.1)
    refine pv_run [25, 54] 50 ?_
    refine And.intro (fun q => ?_) (fun q => ?_)
    · refine And.intro (fun q2 => ?_) (fun q2 => ?_)
      · exact p25 (fun r => r.2 q2)
      · exact yes (Or.inl ⟨q, q2⟩)
    · exact p25 (fun r => q r.1)
  rcases hL with rfl | ⟨c', rfl⟩
  · refine pv_run [14] 50 ?_
    refine And.intro (fun q => absurd q (by decide)) (fun _ => ?_)
    refine rc_top d m a hk hops _ ?_
    rw [hc]
    exact mid
  · refine pv_run [14] 50 ?_
    refine And.intro (fun q => absurd q (by decide)) (fun _ => ?_)
    refine rc_top d m a hk hops _ ?_
    rw [hc]
    exact mid
theorem rc_reduceWhile (d : Nat) (m : Nat → Int32) (a : Nat → Nat → Int32) (x y z : Int32) (P : pv_R) (h : pv_go rq_T18 3 (pv_call rq_mt (d + 1)) P (3, [(0, .ref 0), (1, .int x), (2, .int y), (3, .int z), (4, .int 1)] ++ [], [], rs m a)) : pv_call rq_mt (d + 2) rq_m_R_reduceWhile [.ref 0, .int x, .int y, .int z] (rs m a) P := by
  refine pv_call_of rfl rfl rfl (pv_run [3] 50 ?_)
  exact h
theorem rc_begin (d : Nat) (m : Nat → Int32) (a : Nat → Nat → Int32) {k : Nat} (hk : k < 24) (ho : m r_opened = nI k) (p : Int32) (P : pv_R) (h : P none (rs (upd m r_opened (nI (k + 1))) (up2 (up2 (up2 a r_open k p) r_state k 0) r_mark k (m r_scopes)))) : pv_call rq_mt (d + 1) rq_m_R_begin [.ref 0, .int p] (rs m a) P := by
  refine pv_call_of rfl rfl rfl (pv_run [] 50 ?_)
  have e : m 40 = nI k := ho
  have hi : vp_in (m 40) 24 := by rw [e]; exact vp_in_nI hk (by decide)
  have hc : (m 40).toNatClampNeg = k := by rw [e, nI_clamp (by omega)]
  refine And.intro hi ?_
  refine And.intro hi ?_
  refine And.intro hi ?_
  rw [← nI_1, ← e, ← hc] at h
  exact h
end
section
/-- does the sign wait on the stack, ahead of a bracket or a question? -/
def wts (f : Nat → Int32) (s : Int32) : Nat → Int32
  | 0 => 0
  | k + 1 => if f k = s then 1 else if f k = 40 ∨ f k = 63 then 0 else wts f s k
theorem rc_waits_loop (d : Nat) (m : Nat → Int32) (a : Nat → Nat → Int32) (s : Int32) (P : pv_R) : ∀ k : Nat, k ≤ 300 → P (some (.int (wts (a r_opSign) s k))) (rs m a) → pv_go rq_T19 1 (pv_call rq_mt d) P (7, [(0, .ref 0), (1, .int s), (2, .int (nI k - 1))], [], rs m a) := by
  intro k
  induction k with
  | zero =>
    intro _ h
    refine pv_run [7] 50 ?_
    refine And.intro (fun q => ?_) (fun q => ?_)
    · exact And.intro (Or.inl rfl) h
    · exact absurd (show nI 0 - 1 < 0 by decide) q
  | succ k ih =>
    intro hk h
    have e : nI (k + 1) - 1 = nI k := nI_pred k
    rw [e]
    have hi : vp_in (nI k) 300 := vp_in_nI (by omega) (by decide)
    have hc : (nI k).toNatClampNeg = k := nI_clamp (by omega)
    unfold wts at h
    refine pv_run [7] 50 ?_
    refine And.intro (fun q => ?_) (fun q => ?_)
    · exact absurd q (nI_pos (by omega))
    · refine And.intro hi ?_
      refine And.intro (fun q1 => ?_) (fun q1 => ?_)
      · have q1 : a 29 (nI k).toNatClampNeg = s := q1
        rw [hc] at q1
        rw [if_pos q1] at h
        exact And.intro (Or.inr rfl) h
      · have q1 : ¬ a 29 (nI k).toNatClampNeg = s := q1
        rw [hc] at q1
        rw [if_neg q1] at h
        refine And.intro hi ?_
        refine And.intro (fun q2 => ?_) (fun q2 => ?_)
        · have q2 : a 29 (nI k).toNatClampNeg = 40 := q2
          rw [hc] at q2
          rw [if_pos (Or.inl q2)] at h
          exact And.intro (Or.inl rfl) h
        · have q2 : ¬ a 29 (nI k).toNatClampNeg = 40 := q2
          rw [hc] at q2
          refine And.intro hi ?_
          refine And.intro (fun q3 => ?_) (fun q3 => ?_)
          · have q3 : a 29 (nI k).toNatClampNeg = 63 := q3
            rw [hc] at q3
            rw [if_pos (Or.inr q3)] at h
            exact And.intro (Or.inl rfl) h
          · have q3 : ¬ a 29 (nI k).toNatClampNeg = 63 := q3
            rw [hc] at q3
            rw [if_neg (fun q => q.elim q2 q3)] at h
            have g := ih (by omega) h
            rw [Int32.sub_eq_add_neg] at g
            exact g
theorem rc_waits (d : Nat) (m : Nat → Int32) (a : Nat → Nat → Int32) {k : Nat} (hk : k ≤ 300) (hops : m r_ops = nI k) (s : Int32) (P : pv_R) (h : P (some (.int (wts (a r_opSign) s k))) (rs m a)) : pv_call rq_mt (d + 1) rq_m_R_waits [.ref 0, .int s] (rs m a) P := by
  refine pv_call_of rfl rfl rfl (pv_run [7] 50 ?_)
  have g := rc_waits_loop d m a s P k hk h
  rw [← show m 31 = nI k from hops] at g
  exact g
set_option maxRecDepth 100000 in
theorem rc_infix (d : Nat) (m : Nat → Int32) (a : Nat → Nat → Int32) {n b k t x : Nat} (hn : n ≤ 12) (hsc : m r_scopes = nI n) (hb : b < 260) (hnd : m r_nodes = nI b) (hk : k < 300) (hops : m r_ops = nI k) (ht : t < 300) (hdn : m r_dones = nI (t + 1)) (hx : a r_done t = nI x) (hx2 : x < 260) (s : Int32) (P : pv_R)
    (h : P (some (.int (nI b))) (rs (upd (upd (upd m r_nodes (nI (b + 1))) r_ops (nI (k + 1))) r_at (m r_at + 1)) (up2 (up2 (r_nodeA a b s (a r_first x) 0 (thr (a r_scope) n)) r_opSign k s) r_opNode k (nI b)))) : pv_call rq_mt (d + 3) rq_m_R_infix [.ref 0, .int s] (rs m a) P := by
  refine pv_call_of rfl rfl rfl (pv_run [] 50 ?_)
  have e2 : m 33 - 1 = nI t := by rw [show m 33 = nI (t + 1) from hdn, nI_pred]
  have i2 : vp_in (m 33 - 1) 300 := by rw [e2]; exact vp_in_nI ht (by decide)
  have c2 : (m 33 - 1).toNatClampNeg = t := by rw [e2, nI_clamp (by omega)]
  have f1 : a 32 (m 33 - 1).toNatClampNeg = nI x := by rw [c2]; exact hx
  have i4 : vp_in (a 32 (m 33 - 1).toNatClampNeg) 260 := by rw [f1]; exact vp_in_nI hx2 (by decide)
  have c4 : (a 32 (m 33 - 1).toNatClampNeg).toNatClampNeg = x := by rw [f1, nI_clamp (by omega)]
  refine And.intro i2 ?_
  refine And.intro i4 ?_
  rw [c4]
  refine rc_node d m a hn hsc hb hnd s (a 4 x) 0 (Or.inl rfl) _ ?_
  refine rc_push (d + 1) (upd m r_nodes (nI (b + 1))) (r_nodeA a b s (a 4 x) 0 (thr (a r_scope) n)) hk hops s (nI b) _ ?_
  exact h
/-- the names behind closing: k scopes on top of t are taken away -/
def clz (sc no : Nat → Int32) (t : Nat) : Nat → (Nat → Int32) → (Nat → Int32)
  | 0, f => f
  | k + 1, f => clz sc no t k (upd f (no (sc (t + k)).toNatClampNeg).toNatClampNeg (-1))
theorem rc_close_loop (d : Nat) (t : Nat) (ht : t ≤ 12) (P : pv_R) : ∀ (k : Nat) (m : Nat → Int32) (a : Nat → Nat → Int32), t + k ≤ 12 → m r_scopes = nI (t + k) → (∀ i, i < 12 → ∃ v, v < 12 ∧ a r_scope i = nI v) → (∀ v, v < 12 → ∃ u, u < 26 ∧ a r_nameOf v = nI u) → P none (rs (upd m r_scopes (nI t)) (upa a r_named (clz (a r_scope) (a r_nameOf) t k (a r_named)))) → pv_go rq_T24 3 (pv_call rq_mt d) P (0, [(0, .ref 0), (1, .int (nI t))], [], rs m a) := by
  intro k
  induction k with
  | zero =>
    intro m a hk hsc h1 h2 h
    have e : m 25 = nI t := hsc
    refine pv_run [0] 50 ?_
    refine And.intro (fun q => ?_) (fun q => ?_)
    · have e1 : upd m r_scopes (nI t) = m := upd_same hsc
      have e2 : upa a r_named (clz (a r_scope) (a r_nameOf) t 0 (a r_named)) = a := by
        funext j
        unfold upa clz
        split
        · next e => rw [e]
        · rfl
      rw [e1, e2] at h
      exact h
    · exfalso
      have q : ¬ m 25 ≤ nI t := q
      rw [e] at q
      exact q (Int32.le_refl _)
  | succ k ih =>
    intro m a hk hsc h1 h2 h
    have e : m 25 = nI (t + k + 1) := hsc
    have e1 : m 25 - 1 = nI (t + k) := by rw [e, nI_pred]
    obtain ⟨v, hv, hv2⟩ := h1 (t + k) (by omega)
    obtain ⟨u, hu, hu2⟩ := h2 v hv
    have i1 : vp_in (m 25 - 1) 12 := by rw [e1]; exact vp_in_nI (by omega) (by decide)
    have c1 : (m 25 - 1).toNatClampNeg = t + k := by rw [e1, nI_clamp (by omega)]
    have f1 : a 24 (m 25 - 1).toNatClampNeg = nI v := by rw [c1]; exact hv2
    have i2 : vp_in (a 24 (m 25 - 1).toNatClampNeg) 12 := by rw [f1]; exact vp_in_nI hv (by decide)
    have c2 : (a 24 (m 25 - 1).toNatClampNeg).toNatClampNeg = v := by rw [f1, nI_clamp (by omega)]
    have f2 : a 20 (a 24 (m 25 - 1).toNatClampNeg).toNatClampNeg = nI u := by rw [c2]; exact hu2
    have i3 : vp_in (a 20 (a 24 (m 25 - 1).toNatClampNeg).toNatClampNeg) 26 := by rw [f2]; exact vp_in_nI hu (by decide)
    have g := ih (upd m r_scopes (nI (t + k))) (up2 a r_named (a 20 (a 24 (m 25 - 1).toNatClampNeg).toNatClampNeg).toNatClampNeg (-1)) (by omega) rfl h1 h2 (by
      rw [upd_upd]
      have ea : upa (up2 a r_named (a 20 (a 24 (m 25 - 1).toNatClampNeg).toNatClampNeg).toNatClampNeg (-1)) r_named (clz (a r_scope) (a r_nameOf) t k (upd (a r_named) (a 20 (a 24 (m 25 - 1).toNatClampNeg).toNatClampNeg).toNatClampNeg (-1))) = upa a r_named (clz (a r_scope) (a r_nameOf) t (k + 1) (a r_named)) := by
        rw [c1]
        funext j
        unfold up2 upa
        split
        · rfl
        · rfl
      rw [← ea] at h
      exact h)
    refine pv_run [0] 50 ?_
    refine And.intro (fun q => ?_) (fun q => ?_)
    · exfalso
      have q : m 25 ≤ nI t := q
      rw [e, nI_leI (by omega) (by omega)] at q
      omega
    · refine And.intro i1 ?_
      refine And.intro i2 ?_
      refine And.intro i3 ?_
      rw [← e1] at g
      exact g
theorem rc_close (d : Nat) (m : Nat → Int32) (a : Nat → Nat → Int32) {t k : Nat} (hk : t + k ≤ 12) (hsc : m r_scopes = nI (t + k)) (h1 : ∀ i, i < 12 → ∃ v, v < 12 ∧ a r_scope i = nI v) (h2 : ∀ v, v < 12 → ∃ u, u < 26 ∧ a r_nameOf v = nI u) (P : pv_R) (h : P none (rs (upd m r_scopes (nI t)) (upa a r_named (clz (a r_scope) (a r_nameOf) t k (a r_named))))) : pv_call rq_mt (d + 1) rq_m_R_close [.ref 0, .int (nI t)] (rs m a) P :=
  pv_call_of rfl rfl rfl (rc_close_loop d t (by omega) P k m a hk hsc h1 h2 h)
end
section
/-- the numbers of the reading of an e: at, nodes, ops, dones, nested -/
def em (m : Nat → Int32) (p b k t z : Nat) : Nat → Int32 := upd (upd (upd (upd (upd m r_at (nI p)) r_nodes (nI b)) r_ops (nI k)) r_dones (nI t)) r_nested (nI z)
theorem em_at (m : Nat → Int32) (p b k t z q : Nat) : upd (em m p b k t z) r_at (nI q) = em m q b k t z := by
  funext j
  simp only [em, upd]
  by_cases h : j = 26
  · subst h; rfl
  · simp [h]
theorem em_nodes (m : Nat → Int32) (p b k t z q : Nat) : upd (em m p b k t z) r_nodes (nI q) = em m p q k t z := by
  funext j
  simp only [em, upd]
  by_cases h : j = 2
  · subst h; rfl
  · simp [h]
theorem em_ops (m : Nat → Int32) (p b k t z q : Nat) : upd (em m p b k t z) r_ops (nI q) = em m p b q t z := by
  funext j
  simp only [em, upd]
  by_cases h : j = 31
  · subst h; rfl
  · simp [h]
theorem em_dones (m : Nat → Int32) (p b k t z q : Nat) : upd (em m p b k t z) r_dones (nI q) = em m p b k q z := by
  funext j
  simp only [em, upd]
  by_cases h : j = 33
  · subst h; rfl
  · simp [h]
theorem em_nested (m : Nat → Int32) (p b k t z q : Nat) : upd (em m p b k t z) r_nested (nI q) = em m p b k t q := by
  funext j
  simp only [em, upd]
  by_cases h : j = 34
  · subst h; rfl
  · simp [h]
set_option maxRecDepth 100000 in
theorem rc_readName_bad (d : Nat) (m : Nat → Int32) (a : Nat → Nat → Int32) {p b k t z u : Nat} (hw : m r_wrong = -1) (c g : Int32) (hu : u < 26) (hc : c - 97 = nI u) (hv : a r_named u = -1) (P : pv_R) (h : P (some (.int 0)) (rs (upd (em m p b k t z) r_wrong (nI p)) a)) : pv_call rq_mt (d + 2) rq_m_R_readName [.ref 0, .int c, .int g] (rs (em m p b k t z) a) P := by
  refine pv_call_of rfl rfl rfl (pv_run [] 50 ?_)
  have hi : vp_in (c - 97) 26 := by rw [hc]; exact vp_in_nI hu (by decide)
  have hx : a 23 (c - 97).toNatClampNeg = -1 := by rw [hc, nI_clamp (by omega)]; exact hv
  refine And.intro hi ?_
  rw [hx]
  refine And.intro (fun _ => ?_) (fun q => absurd rfl q)
  refine rc_fail d (em m p b k t z) a (nI p) _ ?_
  rw [if_pos (show em m p b k t z r_wrong = -1 from hw)]
  exact And.intro (Or.inl rfl) h
set_option maxRecDepth 100000 in
/-- a NAME that is used -/
theorem rc_readName_use (d : Nat) (m : Nat → Int32) (a : Nat → Nat → Int32) {n p b k t z u sc : Nat} (hn : n ≤ 240) (hp : p < n) (hsz : m r_size = nI n) (hsc2 : sc ≤ 12) (hsc : m r_scopes = nI sc) (hb : b < 260) (ht : t < 300) (c g : Int32) (hu : u < 26) (hc : c - 97 = nI u) (hv : ¬ a r_named u = -1) (hg : g = 0 ∨ ¬ r_ch a n (r_nx a n (p + 1)) = 61) (P : pv_R)
    (h : P (some (.int 0)) (rs (em m (if g = 0 then p + 1 else r_nx a n (p + 1)) (b + 1) k (t + 1) z) (up2 (up2 (r_nodeA a b c (nI p) 0 (thr (a r_scope) sc)) r_variable b (a r_named u)) r_done t (nI b)))) : pv_call rq_mt (d + 3) rq_m_R_readName [.ref 0, .int c, .int g] (rs (em m p b k t z) a) P := by
  refine pv_call_of rfl rfl rfl (pv_run [103] 50 ?_)
  have hi : vp_in (c - 97) 26 := by rw [hc]; exact vp_in_nI hu (by decide)
  have hx : a 23 (c - 97).toNatClampNeg = a r_named u := by rw [hc, nI_clamp (by omega)]
  refine And.intro hi ?_
  rw [hx]
  generalize a r_named u = v at *
  have go : ∀ q, P (some (.int 0)) (rs (em m q (b + 1) k (t + 1) z) (up2 (up2 (r_nodeA a b c (nI p) 0 (thr (a r_scope) sc)) r_variable b v) r_done t (nI b))) → pv_go rq_T22 1 (pv_call rq_mt (d + 2)) P (103, [(0, .ref 0), (1, .int c), (2, .int g), (3, .int (nI p)), (4, .int v)], [], rs (em m q b k t z) a) := by
    intro q hq
    refine pv_run [] 50 ?_
    refine rc_node d (em m q b k t z) a hsc2 hsc hb rfl c (nI p) 0 (Or.inl rfl) _ ?_
    rw [em_nodes]
    have i1 : vp_in (nI b) 260 := vp_in_nI hb (by decide)
    have i2 : vp_in (nI t) 300 := vp_in_nI ht (by decide)
    refine And.intro i1 ?_
    refine And.intro i2 ?_
    rw [← em_dones m q (b + 1) k t z (t + 1), ← nI_1 t] at hq
    have e1 : (nI b).toNatClampNeg = b := nI_clamp (by omega)
    have e2 : (nI t).toNatClampNeg = t := nI_clamp (by omega)
    have hq2 : P (some (.int 0)) (rs (upd (em m q (b + 1) k t z) r_dones (nI t + 1)) (up2 (up2 (r_nodeA a b c (nI p) 0 (thr (a r_scope) sc)) r_variable (nI b).toNatClampNeg v) r_done (nI t).toNatClampNeg (nI b))) := by rw [e1, e2]; exact hq
    exact And.intro (Or.inl rfl) hq2
  refine And.intro (fun q => absurd q hv) (fun _ => ?_)
  refine And.intro (fun q => ?_) (fun q => ?_)
  · rw [if_pos q] at h
    have g1 := go (p + 1) h
    rw [← em_at m p b k t z (p + 1), ← nI_1] at g1
    exact g1
  · have q : ¬ g = 0 := q
    rw [if_neg q] at h
    have hne : ¬ r_ch a n (r_nx a n (p + 1)) = 61 := hg.elim (fun e => absurd e q) id
    show pv_call rq_mt (d + 2) 5 [.ref 0] (rs (upd (em m p b k t z) r_at (nI p + 1)) a) _
    rw [nI_1, em_at]
    refine rc_here d (em m (p + 1) b k t z) a hn (by omega) rfl hsz _ ?_
    rw [em_at]
    refine And.intro (fun q2 => absurd q2 hne) (fun _ => ?_)
    exact go (r_nx a n (p + 1)) h
end
section
set_option maxRecDepth 100000 in
/-- a NAME that is assigned: its node waits on the stack -/
theorem rc_readName_set (d : Nat) (m : Nat → Int32) (a : Nat → Nat → Int32) {n p b k t z u sc : Nat} (hn : n ≤ 240) (hp : p < n) (hp2 : r_nx a n (p + 1) < n) (hsz : m r_size = nI n) (hw : m r_wrong = -1) (hsc2 : sc ≤ 12) (hsc : m r_scopes = nI sc) (hb : b < 260) (hk : k < 300) (hz : z < 2 ^ 30) (c g : Int32) (hu : u < 26) (hc : c - 97 = nI u) (hv : ¬ a r_named u = -1) (hg : ¬ g = 0) (hne : r_ch a n (r_nx a n (p + 1)) = 61) (P : pv_R)
    (h1 : z < 30 → P (some (.int 1)) (rs (em m (r_nx a n (r_nx a n (p + 1) + 1)) (b + 1) (k + 1) t (z + 1)) (up2 (up2 (up2 (r_nodeA a b 61 (nI p) 0 (thr (a r_scope) sc)) r_variable b (a r_named u)) r_opSign k 61) r_opNode k (nI b))))
    (h2 : 30 ≤ z → P (some (.int 1)) (rs (upd (em m (r_nx a n (r_nx a n (p + 1) + 1)) (b + 1) (k + 1) t (z + 1)) r_wrong (nI (r_nx a n (r_nx a n (p + 1) + 1)))) (up2 (up2 (up2 (r_nodeA a b 61 (nI p) 0 (thr (a r_scope) sc)) r_variable b (a r_named u)) r_opSign k 61) r_opNode k (nI b)))) : pv_call rq_mt (d + 4) rq_m_R_readName [.ref 0, .int c, .int g] (rs (em m p b k t z) a) P := by
  refine pv_call_of rfl rfl rfl (pv_run [103] 80 ?_)
  have hi : vp_in (c - 97) 26 := by rw [hc]; exact vp_in_nI hu (by decide)
  have hx : a 23 (c - 97).toNatClampNeg = a r_named u := by rw [hc, nI_clamp (by omega)]
  refine And.intro hi ?_
  rw [hx]
  generalize a r_named u = v at *
  refine And.intro (fun q => absurd q hv) (fun _ => ?_)
  refine And.intro (fun q => absurd q hg) (fun _ => ?_)
  show pv_call rq_mt (d + 3) 5 [.ref 0] (rs (upd (em m p b k t z) r_at (nI p + 1)) a) _
  rw [nI_1, em_at]
  refine rc_here (d + 1) (em m (p + 1) b k t z) a hn (by omega) rfl hsz _ ?_
  rw [em_at]
  have hl := r_nx_le (a := a) (n := n) (p := p + 1) (by omega)
  generalize r_nx a n (p + 1) = p1 at *
  refine And.intro (fun _ => ?_) (fun q2 => absurd hne q2)
  refine rc_node (d + 1) (em m p1 b k t z) a hsc2 hsc hb rfl 61 (nI p) 0 (Or.inl rfl) _ ?_
  rw [em_nodes]
  have i1 : vp_in (nI b) 260 := vp_in_nI hb (by decide)
  have e1 : (nI b).toNatClampNeg = b := nI_clamp (by omega)
  refine And.intro i1 ?_
  show pv_call rq_mt (d + 3) 14 [.ref 0, .int 61, .int (nI b)] (rs (em m p1 (b + 1) k t z) (up2 (r_nodeA a b 61 (nI p) 0 (thr (a r_scope) sc)) r_variable (nI b).toNatClampNeg v)) _
  rw [e1]
  refine rc_push (d + 2) (em m p1 (b + 1) k t z) (up2 (r_nodeA a b 61 (nI p) 0 (thr (a r_scope) sc)) r_variable b v) hk rfl 61 (nI b) _ ?_
  rw [em_ops]
  have er : ∀ x y, r_nx (up2 (up2 (up2 (r_nodeA a b 61 (nI p) 0 (thr (a r_scope) sc)) r_variable b v) r_opSign k 61) r_opNode k (nI b)) x y = r_nx a x y := fun x y => rfl
  generalize hA : up2 (up2 (up2 (r_nodeA a b 61 (nI p) 0 (thr (a r_scope) sc)) r_variable b v) r_opSign k 61) r_opNode k (nI b) = a2 at h1 h2 er ⊢
  show pv_call rq_mt (d + 3) 5 [.ref 0] (rs (upd (em m p1 (b + 1) (k + 1) t z) r_at (nI p1 + 1)) a2) _
  rw [nI_1, em_at]
  refine rc_here (d + 1) (em m (p1 + 1) (b + 1) (k + 1) t z) a2 hn (by omega) rfl hsz _ ?_
  rw [em_at, er]
  have hl2 := r_nx_le (a := a) (n := n) (p := p1 + 1) (by omega)
  have hnn : r_nx a n (r_nx a n (p1 + 1)) = r_nx a n (p1 + 1) := r_nx_nx (by omega)
  generalize r_nx a n (p1 + 1) = p2 at *
  refine rc_nest d (em m p2 (b + 1) (k + 1) t z) a2 hn hl2.2 rfl hsz hz rfl _ (fun hz1 => ?_) (fun hz1 => ?_)
  · rw [em_nested]
    exact And.intro (Or.inr rfl) (h1 hz1)
  · rw [er, hnn, em_at, if_pos (show em m p2 (b + 1) (k + 1) t z r_wrong = -1 from hw), upd_comm _ _ _ (by decide), em_nested]
    exact And.intro (Or.inr rfl) (h2 hz1)
end
section
def wb (m : Nat → Int32) (w g : Int32) : Nat → Int32 := upd (upd m r_wantsMore w) r_beginsMore g
theorem em_wb (m : Nat → Int32) (p b k t z : Nat) (w g : Int32) : upd (upd (em m p b k t z) r_wantsMore w) r_beginsMore g = em (wb m w g) p b k t z := by
  funext j
  simp only [em, wb, upd]
  by_cases h : j = 36
  · subst h; rfl
  · by_cases h2 : j = 35
    · subst h2; rfl
    · simp [h, h2]
theorem em_w (m : Nat → Int32) (p b k t z : Nat) (w g x : Int32) : upd (em (wb m w g) p b k t z) r_wantsMore x = em (wb m x g) p b k t z := by
  funext j
  simp only [em, wb, upd]
  by_cases h2 : j = 35
  · subst h2; rfl
  · simp [h2]
theorem em_g (m : Nat → Int32) (p b k t z : Nat) (w g x : Int32) : upd (em (wb m w g) p b k t z) r_beginsMore x = em (wb m w x) p b k t z := by
  funext j
  simp only [em, wb, upd]
  by_cases h2 : j = 36
  · subst h2; rfl
  · simp [h2]
/-- reduceWhile leads from one state to another -/
def rwTo (d : Nat) (x y z : Int32) (m : Nat → Int32) (a : Nat → Nat → Int32) (m' : Nat → Int32) (a' : Nat → Nat → Int32) : Prop := ∀ P : pv_R, P none (rs m' a') → pv_call rq_mt (d + 2) rq_m_R_reduceWhile [.ref 0, .int x, .int y, .int z] (rs m a) P
set_option maxRecDepth 100000 in
theorem rc_ro_and (d : Nat) (m : Nat → Int32) (a a' : Nat → Nat → Int32) {p b k t z k' t' z' sc x : Nat} (hsc2 : sc ≤ 12) (hsc : m r_scopes = nI sc) (hb : b < 260) (hk : k' < 300) (ht : t' < 300) (hx : a' r_done t' = nI x) (hx2 : x < 260) (hrw : rwTo (d + 1) 1 0 0 (em (wb m 1 0) p b k t z) a (em (wb m 1 0) p b k' (t' + 1) z') a') (P : pv_R)
    (h : P (some (.int 1)) (rs (em (wb m 1 0) (p + 1) (b + 1) (k' + 1) (t' + 1) z') (up2 (up2 (r_nodeA a' b 38 (a' r_first x) 0 (thr (a' r_scope) sc)) r_opSign k' 38) r_opNode k' (nI b)))) : pv_call rq_mt (d + 4) rq_m_R_readOperator [.ref 0, .int 38] (rs (em m p b k t z) a) P := by
  refine pv_call_of rfl rfl rfl (pv_run [] 80 ?_)
  refine And.intro (Or.inr rfl) ?_
  refine And.intro (Or.inl rfl) ?_
  refine And.intro (fun _ => ?_) (fun q => absurd rfl q)
  show pv_call rq_mt (d + 3) 18 [.ref 0, .int 1, .int 0, .int 0] (rs (upd (upd (em m p b k t z) r_wantsMore 1) r_beginsMore 0) a) _
  rw [em_wb]
  refine hrw _ ?_
  refine rc_infix d (em (wb m 1 0) p b k' (t' + 1) z') a' hsc2 hsc hb rfl hk rfl ht rfl hx hx2 38 _ ?_
  show pv_wp _ _ _ _ _ _ _ (_, _, _, rs (upd (upd (upd (em (wb m 1 0) p b k' (t' + 1) z') r_nodes (nI (b + 1))) r_ops (nI (k' + 1))) r_at (nI p + 1)) _)
  rw [em_nodes, em_ops, nI_1 p, em_at]
  exact And.intro (Or.inr rfl) h
set_option maxRecDepth 100000 in
theorem rc_ro_or (d : Nat) (m : Nat → Int32) (a a' : Nat → Nat → Int32) {p b k t z k' t' z' sc x : Nat} (hsc2 : sc ≤ 12) (hsc : m r_scopes = nI sc) (hb : b < 260) (hk : k' < 300) (ht : t' < 300) (hx : a' r_done t' = nI x) (hx2 : x < 260) (hrw : rwTo (d + 1) 1 1 0 (em (wb m 1 0) p b k t z) a (em (wb m 1 0) p b k' (t' + 1) z') a') (P : pv_R)
    (h : P (some (.int 1)) (rs (em (wb m 1 0) (p + 1) (b + 1) (k' + 1) (t' + 1) z') (up2 (up2 (r_nodeA a' b 124 (a' r_first x) 0 (thr (a' r_scope) sc)) r_opSign k' 124) r_opNode k' (nI b)))) : pv_call rq_mt (d + 4) rq_m_R_readOperator [.ref 0, .int 124] (rs (em m p b k t z) a) P := by
  refine pv_call_of rfl rfl rfl (pv_run [] 80 ?_)
  refine And.intro (Or.inr rfl) ?_
  refine And.intro (Or.inl rfl) ?_
  refine And.intro (fun q => absurd q (by decide)) (fun _ => ?_)
  refine And.intro (fun _ => ?_) (fun q => absurd rfl q)
  show pv_call rq_mt (d + 3) 18 [.ref 0, .int 1, .int 1, .int 0] (rs (upd (upd (em m p b k t z) r_wantsMore 1) r_beginsMore 0) a) _
  rw [em_wb]
  refine hrw _ ?_
  refine rc_infix d (em (wb m 1 0) p b k' (t' + 1) z') a' hsc2 hsc hb rfl hk rfl ht rfl hx hx2 124 _ ?_
  show pv_wp _ _ _ _ _ _ _ (_, _, _, rs (upd (upd (upd (em (wb m 1 0) p b k' (t' + 1) z') r_nodes (nI (b + 1))) r_ops (nI (k' + 1))) r_at (nI p + 1)) _)
  rw [em_nodes, em_ops, nI_1 p, em_at]
  exact And.intro (Or.inr rfl) h
end
section
theorem wts_01 (f : Nat → Int32) (s : Int32) : ∀ k, wts f s k = 0 ∨ wts f s k = 1 := by
  intro k
  induction k with
  | zero => exact Or.inl rfl
  | succ k ih =>
    unfold wts
    split
    · exact Or.inr rfl
    · split
      · exact Or.inl rfl
      · exact ih
set_option maxRecDepth 100000 in
theorem rc_ro_ask (d : Nat) (m : Nat → Int32) (a a' : Nat → Nat → Int32) {n p b k t z k' t' z' sc x : Nat} (hn : n ≤ 240) (hp : p < n) (hsz : m r_size = nI n) (hw : m r_wrong = -1) (hsc2 : sc ≤ 12) (hsc : m r_scopes = nI sc) (hb : b < 260) (hk : k' < 300) (ht : t' < 300) (hz : z' < 2 ^ 30) (hx : a' r_done t' = nI x) (hx2 : x < 260) (hrw : rwTo (d + 1) 1 1 0 (em (wb m 1 0) p b k t z) a (em (wb m 1 0) p b k' (t' + 1) z') a') (P : pv_R)
    (h1 : z' < 30 → P (some (.int 1)) (rs (em (wb m 1 1) (r_nx a' n (p + 1)) (b + 1) (k' + 1) t' (z' + 1)) (up2 (up2 (up2 (r_nodeA a' b 63 (a' r_first x) 0 (thr (a' r_scope) sc)) r_opSign k' 63) r_opNode k' (nI b)) r_around x (nI b))))
    (h2 : 30 ≤ z' → P (some (.int 1)) (rs (upd (em (wb m 1 1) (r_nx a' n (p + 1)) (b + 1) (k' + 1) t' (z' + 1)) r_wrong (nI (r_nx a' n (p + 1)))) (up2 (up2 (up2 (r_nodeA a' b 63 (a' r_first x) 0 (thr (a' r_scope) sc)) r_opSign k' 63) r_opNode k' (nI b)) r_around x (nI b)))) : pv_call rq_mt (d + 4) rq_m_R_readOperator [.ref 0, .int 63] (rs (em m p b k t z) a) P := by
  refine pv_call_of rfl rfl rfl (pv_run [74] 80 ?_)
  refine And.intro (Or.inr rfl) ?_
  refine And.intro (Or.inl rfl) ?_
  refine And.intro (fun q => absurd q (by decide)) (fun _ => ?_)
  refine And.intro (fun q => absurd q (by decide)) (fun _ => ?_)
  refine And.intro (fun _ => ?_) (fun q => absurd rfl q)
  show pv_call rq_mt (d + 3) 18 [.ref 0, .int 1, .int 1, .int 0] (rs (upd (upd (em m p b k t z) r_wantsMore 1) r_beginsMore 0) a) _
  rw [em_wb]
  refine hrw _ ?_
  refine rc_infix d (em (wb m 1 0) p b k' (t' + 1) z') a' hsc2 hsc hb rfl hk rfl ht rfl hx hx2 63 _ ?_
  show pv_wp _ _ _ _ _ _ _ (_, _, _, rs (upd (upd (upd (em (wb m 1 0) p b k' (t' + 1) z') r_nodes (nI (b + 1))) r_ops (nI (k' + 1))) r_at (nI p + 1)) _)
  rw [em_nodes, em_ops, nI_1 p, em_at]
  have er : ∀ u w, r_nx (up2 (up2 (up2 (r_nodeA a' b 63 (a' r_first x) 0 (thr (a' r_scope) sc)) r_opSign k' 63) r_opNode k' (nI b)) r_around x (nI b)) u w = r_nx a' u w := fun u w => rfl
  have hx' : (up2 (up2 (r_nodeA a' b 63 (a' r_first x) 0 (thr (a' r_scope) sc)) r_opSign k' 63) r_opNode k' (nI b)) r_done t' = nI x := hx
  generalize up2 (up2 (r_nodeA a' b 63 (a' r_first x) 0 (thr (a' r_scope) sc)) r_opSign k' 63) r_opNode k' (nI b) = a1 at h1 h2 hx' er ⊢
  show pv_go rq_T23 1 (pv_call rq_mt (d + 3)) P (74, [(0, .ref 0), (1, .int 63), (2, .int (nI b))], [], rs (em (wb m 1 0) (p + 1) (b + 1) (k' + 1) (t' + 1) z') a1)
  refine pv_run [] 80 ?_
  have e2 : nI (t' + 1) - 1 = nI t' := nI_pred t'
  have i2 : vp_in (nI (t' + 1) - 1) 300 := by rw [e2]; exact vp_in_nI ht (by decide)
  have c2 : (nI (t' + 1) - 1).toNatClampNeg = t' := by rw [e2, nI_clamp (by omega)]
  have f1 : a1 32 (nI (t' + 1) - 1).toNatClampNeg = nI x := by rw [c2]; exact hx'
  have i4 : vp_in (a1 32 (nI (t' + 1) - 1).toNatClampNeg) 260 := by rw [f1]; exact vp_in_nI hx2 (by decide)
  have c4 : (a1 32 (nI (t' + 1) - 1).toNatClampNeg).toNatClampNeg = x := by rw [f1, nI_clamp (by omega)]
  refine And.intro i2 ?_
  refine And.intro i4 ?_
  refine And.intro (Or.inr rfl) ?_
  show pv_call rq_mt (d + 3) 5 [.ref 0] (rs (upd (upd (em (wb m 1 0) (p + 1) (b + 1) (k' + 1) (t' + 1) z') r_dones (nI (t' + 1) - 1)) r_beginsMore 1) (up2 a1 r_around (a1 32 (nI (t' + 1) - 1).toNatClampNeg).toNatClampNeg (nI b))) _
  rw [c4, e2, em_dones, em_g]
  refine rc_here (d + 1) (em (wb m 1 1) (p + 1) (b + 1) (k' + 1) t' z') (up2 a1 r_around x (nI b)) hn (by omega) rfl hsz _ ?_
  rw [em_at, er]
  have hl2 := r_nx_le (a := a') (n := n) (p := p + 1) (by omega)
  have hnn : r_nx a' n (r_nx a' n (p + 1)) = r_nx a' n (p + 1) := r_nx_nx (by omega)
  generalize r_nx a' n (p + 1) = p2 at *
  refine rc_nest d (em (wb m 1 1) p2 (b + 1) (k' + 1) t' z') (up2 a1 r_around x (nI b)) hn hl2.2 rfl hsz hz rfl _ (fun hz1 => ?_) (fun hz1 => ?_)
  · rw [em_nested]
    exact And.intro (Or.inr rfl) (h1 hz1)
  · rw [er, hnn, em_at, if_pos (show em (wb m 1 1) p2 (b + 1) (k' + 1) t' z' r_wrong = -1 from hw), upd_comm _ _ _ (by decide), em_nested]
    exact And.intro (Or.inr rfl) (h2 hz1)
set_option maxRecDepth 100000 in
theorem rc_ro_end (d : Nat) (m : Nat → Int32) (a : Nat → Nat → Int32) {n p b k t z : Nat} (hn : n ≤ 240) (hp : p ≤ n) (hpn : r_nx a n p = p) (hsz : m r_size = nI n) (hw : m r_wrong = -1) (hk : k ≤ 300) (c : Int32) (h38 : ¬ c = 38) (h124 : ¬ c = 124) (h63 : ¬ c = 63) (h58 : c = 58 → wts (a r_opSign) 63 k = 0) (h41 : c = 41 → wts (a r_opSign) 40 k = 0) (P : pv_R)
    (h0 : wts (a r_opSign) 63 k = 0 → wts (a r_opSign) 40 k = 0 → P (some (.int 0)) (rs (em (wb m 1 0) p b k t z) a))
    (h1 : ¬ (wts (a r_opSign) 63 k = 0 ∧ wts (a r_opSign) 40 k = 0) → P (some (.int 0)) (rs (upd (em (wb m 1 0) p b k t z) r_wrong (nI p)) a)) : pv_call rq_mt (d + 3) rq_m_R_readOperator [.ref 0, .int c] (rs (em m p b k t z) a) P := by
  have fl : ¬ (wts (a r_opSign) 63 k = 0 ∧ wts (a r_opSign) 40 k = 0) → pv_go rq_T23 1 (pv_call rq_mt (d + 2)) P (293, [(0, .ref 0), (1, .int c)], [], rs (em (wb m 1 0) p b k t z) a) := by
    intro hq
    refine pv_run [] 80 ?_
    refine rc_failHere d (em (wb m 1 0) p b k t z) a hn hp rfl hsz _ ?_
    rw [hpn, em_at, if_pos (show em (wb m 1 0) p b k t z r_wrong = -1 from hw)]
    exact And.intro (Or.inl rfl) (h1 hq)
  have g275 : pv_go rq_T23 1 (pv_call rq_mt (d + 2)) P (275, [(0, .ref 0), (1, .int c)], [], rs (em (wb m 1 0) p b k t z) a) := by
    refine pv_run [293] 80 ?_
    refine rc_waits (d + 1) (em (wb m 1 0) p b k t z) a hk rfl 63 _ ?_
    refine And.intro (fun q1 => ?_) (fun q1 => ?_)
    · refine rc_waits (d + 1) (em (wb m 1 0) p b k t z) a hk rfl 40 _ ?_
      refine And.intro (fun q2 => ?_) (fun q2 => ?_)
      · exact And.intro (Or.inl rfl) (h0 q1 q2)
      · exact fl (fun r => q2 r.2)
    · exact fl (fun r => q1 r.1)
  have g216 : pv_go rq_T23 1 (pv_call rq_mt (d + 2)) P (216, [(0, .ref 0), (1, .int c)], [], rs (em (wb m 1 0) p b k t z) a) := by
    refine pv_run [275] 80 ?_
    refine And.intro (fun q1 => ?_) (fun q1 => ?_)
    · refine rc_waits (d + 1) (em (wb m 1 0) p b k t z) a hk rfl 40 _ ?_
      refine And.intro (fun q2 => ?_) (fun q2 => ?_)
      · exact g275
      · exact absurd (h41 q1) q2
    · exact g275
  refine pv_call_of rfl rfl rfl (pv_run [115] 80 ?_)
  refine And.intro (Or.inr rfl) ?_
  refine And.intro (Or.inl rfl) ?_
  refine And.intro (fun q => absurd q h38) (fun _ => ?_)
  refine And.intro (fun q => absurd q h124) (fun _ => ?_)
  refine And.intro (fun q => absurd q h63) (fun _ => ?_)
  show pv_go rq_T23 1 (pv_call rq_mt (d + 2)) P (115, [(0, .ref 0), (1, .int c)], [], rs (upd (upd (em m p b k t z) r_wantsMore 1) r_beginsMore 0) a)
  rw [em_wb]
  refine pv_run [216] 80 ?_
  refine And.intro (fun q1 => ?_) (fun q1 => ?_)
  · refine rc_waits (d + 1) (em (wb m 1 0) p b k t z) a hk rfl 63 _ ?_
    refine And.intro (fun q2 => ?_) (fun q2 => ?_)
    · exact g216
    · exact absurd (h58 q1) q2
  · exact g216
end
section
set_option maxRecDepth 100000 in
theorem rc_ro_shut (d : Nat) (m : Nat → Int32) (a a' : Nat → Nat → Int32) {p b k t z k' t' z' : Nat} (hk0 : k ≤ 300) (hwt : ¬ wts (a r_opSign) 40 k = 0) (hrw : rwTo (d + 1) 1 1 1 (em (wb m 1 0) p b k t z) a (em (wb m 1 0) p b (k' + 1) t' (z' + 1)) a') (P : pv_R)
    (h : P (some (.int 1)) (rs (em (wb m 0 0) (p + 1) b k' t' z') a')) : pv_call rq_mt (d + 4) rq_m_R_readOperator [.ref 0, .int 41] (rs (em m p b k t z) a) P := by
  refine pv_call_of rfl rfl rfl (pv_run [216] 80 ?_)
  refine And.intro (Or.inr rfl) ?_
  refine And.intro (Or.inl rfl) ?_
  refine And.intro (fun q => absurd q (by decide)) (fun _ => ?_)
  refine And.intro (fun q => absurd q (by decide)) (fun _ => ?_)
  refine And.intro (fun q => absurd q (by decide)) (fun _ => ?_)
  refine And.intro (fun q => absurd q (by decide)) (fun _ => ?_)
  show pv_go rq_T23 1 (pv_call rq_mt (d + 3)) P (216, [(0, .ref 0), (1, .int 41)], [], rs (upd (upd (em m p b k t z) r_wantsMore 1) r_beginsMore 0) a)
  rw [em_wb]
  refine pv_run [238] 80 ?_
  refine And.intro (fun _ => ?_) (fun q => absurd rfl q)
  refine rc_waits (d + 2) (em (wb m 1 0) p b k t z) a hk0 rfl 40 _ ?_
  refine And.intro (fun q2 => absurd q2 hwt) (fun _ => ?_)
  refine hrw _ ?_
  show pv_go rq_T23 1 (pv_call rq_mt (d + 3)) P (238, [(0, .ref 0), (1, .int 41)], [], rs (em (wb m 1 0) p b (k' + 1) t' (z' + 1)) a')
  refine pv_run [] 80 ?_
  refine And.intro (Or.inl rfl) ?_
  have hend : P (some (.int 1)) (rs (upd (upd (upd (upd (em (wb m 1 0) p b (k' + 1) t' (z' + 1)) r_ops (nI (k' + 1) - 1)) r_nested (nI (z' + 1) - 1)) r_at (nI p + 1)) r_wantsMore 0) a') := by
    rw [nI_pred, nI_pred, nI_1, em_ops, em_nested, em_at, em_w]
    exact h
  exact And.intro (Or.inr rfl) hend
set_option maxRecDepth 100000 in
theorem rc_ro_else (d : Nat) (m : Nat → Int32) (a a' : Nat → Nat → Int32) {n p b k t z k' t' z' x : Nat} (hn : n ≤ 240) (hp : p < n) (hsz : m r_size = nI n) (hw : m r_wrong = -1) (hk0 : k ≤ 300) (hwt : ¬ wts (a r_opSign) 63 k = 0) (hk : k' < 300) (ht : t' < 300) (hz : z' < 2 ^ 30) (hx : a' r_done t' = nI x) (hx2 : x < 260) (hrw : rwTo (d + 1) 1 1 1 (em (wb m 1 0) p b k t z) a (em (wb m 1 0) p b (k' + 1) (t' + 1) (z' + 1)) a') (P : pv_R)
    (h1 : z' < 30 → P (some (.int 1)) (rs (em (wb m 1 0) (r_nx a' n (p + 1)) b (k' + 1) t' (z' + 1)) (up2 (up2 a' r_around x (a' r_opNode k')) r_opSign k' 58)))
    (h2 : 30 ≤ z' → P (some (.int 1)) (rs (upd (em (wb m 1 0) (r_nx a' n (p + 1)) b (k' + 1) t' (z' + 1)) r_wrong (nI (r_nx a' n (p + 1)))) (up2 (up2 a' r_around x (a' r_opNode k')) r_opSign k' 58))) : pv_call rq_mt (d + 4) rq_m_R_readOperator [.ref 0, .int 58] (rs (em m p b k t z) a) P := by
  refine pv_call_of rfl rfl rfl (pv_run [115] 80 ?_)
  refine And.intro (Or.inr rfl) ?_
  refine And.intro (Or.inl rfl) ?_
  refine And.intro (fun q => absurd q (by decide)) (fun _ => ?_)
  refine And.intro (fun q => absurd q (by decide)) (fun _ => ?_)
  refine And.intro (fun q => absurd q (by decide)) (fun _ => ?_)
  show pv_go rq_T23 1 (pv_call rq_mt (d + 3)) P (115, [(0, .ref 0), (1, .int 58)], [], rs (upd (upd (em m p b k t z) r_wantsMore 1) r_beginsMore 0) a)
  rw [em_wb]
  refine pv_run [137] 80 ?_
  refine And.intro (fun _ => ?_) (fun q => absurd rfl q)
  refine rc_waits (d + 2) (em (wb m 1 0) p b k t z) a hk0 rfl 63 _ ?_
  refine And.intro (fun q2 => absurd q2 hwt) (fun _ => ?_)
  refine hrw _ ?_
  show pv_go rq_T23 1 (pv_call rq_mt (d + 3)) P (137, [(0, .ref 0), (1, .int 58)], [], rs (em (wb m 1 0) p b (k' + 1) (t' + 1) (z' + 1)) a')
  refine pv_run [] 80 ?_
  have e2 : nI (t' + 1) - 1 = nI t' := nI_pred t'
  have i2 : vp_in (nI (t' + 1) - 1) 300 := by rw [e2]; exact vp_in_nI ht (by decide)
  have c2 : (nI (t' + 1) - 1).toNatClampNeg = t' := by rw [e2, nI_clamp (by omega)]
  have f1 : a' 32 (nI (t' + 1) - 1).toNatClampNeg = nI x := by rw [c2]; exact hx
  have i4 : vp_in (a' 32 (nI (t' + 1) - 1).toNatClampNeg) 260 := by rw [f1]; exact vp_in_nI hx2 (by decide)
  have c4 : (a' 32 (nI (t' + 1) - 1).toNatClampNeg).toNatClampNeg = x := by rw [f1, nI_clamp (by omega)]
  have e5 : nI (k' + 1) - 1 = nI k' := nI_pred k'
  have i5 : vp_in (nI (k' + 1) - 1) 300 := by rw [e5]; exact vp_in_nI hk (by decide)
  have c5 : (nI (k' + 1) - 1).toNatClampNeg = k' := by rw [e5, nI_clamp (by omega)]
  refine And.intro i2 ?_
  refine And.intro i5 ?_
  refine And.intro i4 ?_
  refine And.intro i5 ?_
  show pv_call rq_mt (d + 3) 5 [.ref 0] (rs (upd (upd (upd (em (wb m 1 0) p b (k' + 1) (t' + 1) (z' + 1)) r_dones (nI (t' + 1) - 1)) r_nested (nI (z' + 1) - 1)) r_at (nI p + 1)) (up2 (up2 a' r_around (a' 32 (nI (t' + 1) - 1).toNatClampNeg).toNatClampNeg (a' 30 (nI (k' + 1) - 1).toNatClampNeg)) r_opSign (nI (k' + 1) - 1).toNatClampNeg 58)) _
  rw [c4, c5, e2, nI_pred, nI_1, em_dones, em_nested, em_at]
  have er : ∀ u w, r_nx (up2 (up2 a' r_around x (a' r_opNode k')) r_opSign k' 58) u w = r_nx a' u w := fun u w => rfl
  refine rc_here (d + 1) (em (wb m 1 0) (p + 1) b (k' + 1) t' z') (up2 (up2 a' r_around x (a' r_opNode k')) r_opSign k' 58) hn (by omega) rfl hsz _ ?_
  rw [em_at, er]
  have hl2 := r_nx_le (a := a') (n := n) (p := p + 1) (by omega)
  have hnn : r_nx a' n (r_nx a' n (p + 1)) = r_nx a' n (p + 1) := r_nx_nx (by omega)
  generalize r_nx a' n (p + 1) = p2 at *
  refine rc_nest d (em (wb m 1 0) p2 b (k' + 1) t' z') (up2 (up2 a' r_around x (a' r_opNode k')) r_opSign k' 58) hn hl2.2 rfl hsz hz rfl _ (fun hz1 => ?_) (fun hz1 => ?_)
  · rw [em_nested]
    exact And.intro (Or.inr rfl) (h1 hz1)
  · rw [er, hnn, em_at, if_pos (show em (wb m 1 0) p2 b (k' + 1) t' z' r_wrong = -1 from hw), upd_comm _ _ _ (by decide), em_nested]
    exact And.intro (Or.inr rfl) (h2 hz1)
end
section
/-- the locals of readE -/
abbrev eL (st w g mo : Int32) : pv_L := [(0, .ref 0), (1, .int st), (2, .int w), (3, .int g), (4, .int mo)]
abbrev eM (st w g mo c : Int32) : pv_L := [(0, .ref 0), (1, .int st), (2, .int w), (3, .int g), (4, .int mo), (5, .int c)]
set_option maxRecDepth 100000 in
/-- behind a fault the answer is -1 -/
theorem rc_e_fault (d : Nat) (m : Nat → Int32) (a : Nat → Nat → Int32) (hw : ¬ m r_wrong = -1) (st w g c : Int32) (P : pv_R) (h : P (some (.int (-1))) (rs m a)) : pv_go rq_T21 0 (pv_call rq_mt (d + 1)) P (259, eM st w g 1 c, [], rs m a) := by
  have z : (if m r_wrong = -1 then 1 else 0 : Int32) = 0 := if_neg hw
  refine pv_run [26] 80 ?_
  refine rc_isRight d m a _ ?_
  rw [z]
  refine And.intro (fun _ => ?_) (fun q => absurd rfl q)
  show pv_go rq_T21 0 (pv_call rq_mt (d + 1)) P (26, eM st w g 1 c, [], rs m a)
  refine pv_run [] 80 ?_
  refine And.intro (fun q => absurd q (by decide)) (fun _ => ?_)
  refine rc_isRight d m a _ ?_
  rw [z]
  refine And.intro (fun _ => ?_) (fun q => absurd rfl q)
  refine rc_isRight d m a _ ?_
  rw [z]
  refine And.intro (fun _ => ?_) (fun q => absurd rfl q)
  exact h
set_option maxRecDepth 100000 in
/-- with an operand wanted: on to the next sign -/
theorem rc_e_want (d : Nat) (m : Nat → Int32) (a : Nat → Nat → Int32) (hw : m r_wrong = -1) (st w g c : Int32) (hw1 : ¬ w = 0) (P : pv_R) (h : pv_go rq_T21 0 (pv_call rq_mt (d + 1)) P (26, eM st w g 1 c, [], rs m a)) : pv_go rq_T21 0 (pv_call rq_mt (d + 1)) P (259, eM st w g 1 c, [], rs m a) := by
  refine pv_run [26] 80 ?_
  refine rc_isRight d m a _ ?_
  rw [if_pos hw]
  refine And.intro (fun q => absurd q (by decide)) (fun _ => ?_)
  refine And.intro (fun q => absurd q hw1) (fun _ => ?_)
  exact h
set_option maxRecDepth 100000 in
/-- behind an operand, no ! waits -/
theorem rc_e_have (d : Nat) (m : Nat → Int32) (a : Nat → Nat → Int32) (hw : m r_wrong = -1) {k : Nat} (hk : k ≤ 300) (hops : m r_ops = nI k) (htop : ¬ (if k = 0 then -1 else a r_opSign (k - 1) : Int32) = 33) (st g c : Int32) (P : pv_R) (h : pv_go rq_T21 0 (pv_call rq_mt (d + 1)) P (26, eM st 0 g 1 c, [], rs m a)) : pv_go rq_T21 0 (pv_call rq_mt (d + 1)) P (259, eM st 0 g 1 c, [], rs m a) := by
  refine pv_run [26] 80 ?_
  refine rc_isRight d m a _ ?_
  rw [if_pos hw]
  refine And.intro (fun q => absurd q (by decide)) (fun _ => ?_)
  refine And.intro (fun _ => ?_) (fun q => absurd rfl q)
  refine rc_top d m a hk hops _ ?_
  refine And.intro (fun q => absurd q htop) (fun _ => ?_)
  exact h
set_option maxRecDepth 100000 in
/-- behind an operand, a ! waits: it is reduced -/
theorem rc_e_bang (d : Nat) (m : Nat → Int32) (a : Nat → Nat → Int32) (hw : m r_wrong = -1) {k n x : Nat} (hk : k < 300) (hn : n + 1 ≤ 300) (hops : m r_ops = nI (k + 1)) (hdn : m r_dones = nI (n + 1)) (hx : a r_done n = nI x) (hx2 : x < 260) (htop : a r_opSign k = 33) (st g c : Int32) (P : pv_R) (h : pv_go rq_T21 0 (pv_call rq_mt (d + 1)) P (259, eM st 0 g 1 c, [], rs (upd (upd m r_ops (nI k)) r_nested (m r_nested - 1)) (up2 (up2 a r_around x (a r_opNode k)) r_done n (a r_opNode k)))) : pv_go rq_T21 0 (pv_call rq_mt (d + 1)) P (259, eM st 0 g 1 c, [], rs m a) := by
  refine pv_run [259] 80 ?_
  refine rc_isRight d m a _ ?_
  rw [if_pos hw]
  refine And.intro (fun q => absurd q (by decide)) (fun _ => ?_)
  refine And.intro (fun _ => ?_) (fun q => absurd rfl q)
  refine rc_top d m a (k := k + 1) (by omega) hops _ ?_
  rw [if_neg (by omega), show k + 1 - 1 = k by omega]
  refine And.intro (fun _ => ?_) (fun q => absurd htop q)
  refine rc_reduce1 d m a hk hn hops hdn hx hx2 ⟨by rw [htop]; decide, by rw [htop]; decide⟩ _ ?_
  exact h
end
section
set_option maxRecDepth 100000 in
/-- an operand is wanted: the next sign is looked at -/
theorem rc_e_B (d : Nat) (m : Nat → Int32) (a : Nat → Nat → Int32) {n p b k t z : Nat} (hn : n ≤ 240) (hp : p ≤ n) (hsz : m r_size = nI n) (hw : m r_wrong = -1) (st g : Int32) (L : pv_L) (hL : L = [] ∨ ∃ c, L = [(5, .int c)]) (P : pv_R) (h : pv_go rq_T21 0 (pv_call rq_mt (d + 2)) P (48, eM st 1 g 1 (r_ch a n (r_nx a n p)), [], rs (em m (r_nx a n p) b k t z) a)) : pv_go rq_T21 0 (pv_call rq_mt (d + 2)) P (26, eL st 1 g 1 ++ L, [], rs (em m p b k t z) a) := by
  have hw' : em m p b k t z r_wrong = -1 := hw
  rcases hL with rfl | ⟨c, rfl⟩
  · refine pv_run [48] 80 ?_
    refine And.intro (fun q => absurd q (by decide)) (fun _ => ?_)
    refine rc_isRight (d + 1) (em m p b k t z) a _ ?_
    rw [if_pos hw']
    refine And.intro (fun q => absurd q (by decide)) (fun _ => ?_)
    refine rc_here d (em m p b k t z) a hn hp rfl hsz _ ?_
    rw [em_at]
    refine And.intro (fun q => absurd q (by decide)) (fun _ => ?_)
    exact h
  · refine pv_run [48] 80 ?_
    refine And.intro (fun q => absurd q (by decide)) (fun _ => ?_)
    refine rc_isRight (d + 1) (em m p b k t z) a _ ?_
    rw [if_pos hw']
    refine And.intro (fun q => absurd q (by decide)) (fun _ => ?_)
    refine rc_here d (em m p b k t z) a hn hp rfl hsz _ ?_
    rw [em_at]
    refine And.intro (fun q => absurd q (by decide)) (fun _ => ?_)
    exact h
set_option maxRecDepth 100000 in
theorem rc_e_leaf (d : Nat) (m : Nat → Int32) (a : Nat → Nat → Int32) {p b k t z sc : Nat} (hsc2 : sc ≤ 12) (hsc : m r_scopes = nI sc) (hb : b < 260) (ht : t < 300) (st g c : Int32) (hc : c = 48 ∨ c = 49 ∨ c = 35) (P : pv_R) (h : pv_go rq_T21 0 (pv_call rq_mt (d + 2)) P (259, eM st 0 g 1 c, [], rs (em m (p + 1) (b + 1) k (t + 1) z) (up2 (r_nodeA a b c (nI p) 0 (thr (a r_scope) sc)) r_done t (nI b)))) : pv_go rq_T21 0 (pv_call rq_mt (d + 2)) P (48, eM st 1 g 1 c, [], rs (em m p b k t z) a) := by
  have g90 : pv_go rq_T21 0 (pv_call rq_mt (d + 2)) P (90, eM st 1 g 1 c, [], rs (em m p b k t z) a) := by
    refine pv_run [259] 80 ?_
    refine rc_node d (em m p b k t z) a hsc2 hsc hb rfl c (nI p) 0 (Or.inl rfl) _ ?_
    rw [em_nodes]
    have i2 : vp_in (nI t) 300 := vp_in_nI ht (by decide)
    have e2 : (nI t).toNatClampNeg = t := nI_clamp (by omega)
    refine And.intro i2 ?_
    have h2 : pv_go rq_T21 0 (pv_call rq_mt (d + 2)) P (259, eM st 0 g 1 c, [], rs (upd (upd (em m p (b + 1) k t z) r_dones (nI t + 1)) r_at (nI p + 1)) (up2 (r_nodeA a b c (nI p) 0 (thr (a r_scope) sc)) r_done (nI t).toNatClampNeg (nI b))) := by
      rw [e2, nI_1, nI_1, em_dones, em_at]
      exact h
    exact h2
  have hnm : ¬ (97 ≤ c ∧ c ≤ 122) := by
    rcases hc with rfl | rfl | rfl <;> decide
  refine pv_run [90] 80 ?_
  refine rc_isName (d + 1) _ c _ ?_
  rw [if_neg hnm]
  refine And.intro (fun _ => ?_) (fun q => absurd rfl q)
  refine And.intro (fun _ => g90) (fun q1 => ?_)
  refine And.intro (fun _ => g90) (fun q2 => ?_)
  refine And.intro (fun _ => g90) (fun q3 => ?_)
  exact absurd hc (fun r => r.elim q1 (fun r => r.elim q2 q3))
set_option maxRecDepth 100000 in
/-- no sign with which an e goes on -/
theorem rc_e_bad (d : Nat) (m : Nat → Int32) (a : Nat → Nat → Int32) {n p b k t z : Nat} (hn : n ≤ 240) (hp : p ≤ n) (hpn : r_nx a n p = p) (hsz : m r_size = nI n) (hw : m r_wrong = -1) (st g c : Int32) (hnm : ¬ (97 ≤ c ∧ c ≤ 122)) (h48 : ¬ c = 48) (h49 : ¬ c = 49) (h35 : ¬ c = 35) (h33 : ¬ c = 33) (h40 : ¬ c = 40) (P : pv_R) (h : pv_go rq_T21 0 (pv_call rq_mt (d + 2)) P (259, eM st 1 g 1 c, [], rs (upd (em m p b k t z) r_wrong (nI p)) a)) : pv_go rq_T21 0 (pv_call rq_mt (d + 2)) P (48, eM st 1 g 1 c, [], rs (em m p b k t z) a) := by
  refine pv_run [259] 80 ?_
  refine rc_isName (d + 1) _ c _ ?_
  rw [if_neg hnm]
  refine And.intro (fun _ => ?_) (fun q => absurd rfl q)
  refine And.intro (fun q => absurd q h48) (fun _ => ?_)
  refine And.intro (fun q => absurd q h49) (fun _ => ?_)
  refine And.intro (fun q => absurd q h35) (fun _ => ?_)
  refine And.intro (fun q => absurd q h33) (fun _ => ?_)
  refine And.intro (fun q => absurd q h40) (fun _ => ?_)
  refine rc_failHere d (em m p b k t z) a hn hp rfl hsz _ ?_
  rw [hpn, em_at, if_pos (show em m p b k t z r_wrong = -1 from hw)]
  exact h
end
section
set_option maxRecDepth 100000 in
theorem rc_e_not (d : Nat) (m : Nat → Int32) (a : Nat → Nat → Int32) {n p b k t z sc : Nat} (hn : n ≤ 240) (hp : p < n) (hsz : m r_size = nI n) (hw : m r_wrong = -1) (hsc2 : sc ≤ 12) (hsc : m r_scopes = nI sc) (hb : b < 260) (hk : k < 300) (hz : z < 2 ^ 30) (st g : Int32) (P : pv_R)
    (h1 : z < 30 → pv_go rq_T21 0 (pv_call rq_mt (d + 3)) P (259, eM st 1 0 1 33, [], rs (em m (r_nx a n (p + 1)) (b + 1) (k + 1) t (z + 1)) (up2 (up2 (r_nodeA a b 33 (nI p) 0 (thr (a r_scope) sc)) r_opSign k 33) r_opNode k (nI b))))
    (h2 : 30 ≤ z → pv_go rq_T21 0 (pv_call rq_mt (d + 3)) P (259, eM st 1 0 1 33, [], rs (upd (em m (r_nx a n (p + 1)) (b + 1) (k + 1) t (z + 1)) r_wrong (nI (r_nx a n (p + 1)))) (up2 (up2 (r_nodeA a b 33 (nI p) 0 (thr (a r_scope) sc)) r_opSign k 33) r_opNode k (nI b)))) : pv_go rq_T21 0 (pv_call rq_mt (d + 3)) P (48, eM st 1 g 1 33, [], rs (em m p b k t z) a) := by
  refine pv_run [259] 80 ?_
  refine rc_isName (d + 2) _ 33 _ ?_
  rw [if_neg (by decide)]
  refine And.intro (fun _ => ?_) (fun q => absurd rfl q)
  refine And.intro (fun q => absurd q (by decide)) (fun _ => ?_)
  refine And.intro (fun q => absurd q (by decide)) (fun _ => ?_)
  refine And.intro (fun q => absurd q (by decide)) (fun _ => ?_)
  refine And.intro (fun _ => ?_) (fun q => absurd rfl q)
  refine rc_node (d + 1) (em m p b k t z) a hsc2 hsc hb rfl 33 (nI p) 0 (Or.inl rfl) _ ?_
  rw [em_nodes]
  refine rc_push (d + 2) (em m p (b + 1) k t z) (r_nodeA a b 33 (nI p) 0 (thr (a r_scope) sc)) hk rfl 33 (nI b) _ ?_
  rw [em_ops]
  have er : ∀ u w, r_nx (up2 (up2 (r_nodeA a b 33 (nI p) 0 (thr (a r_scope) sc)) r_opSign k 33) r_opNode k (nI b)) u w = r_nx a u w := fun u w => rfl
  generalize up2 (up2 (r_nodeA a b 33 (nI p) 0 (thr (a r_scope) sc)) r_opSign k 33) r_opNode k (nI b) = a2 at h1 h2 er ⊢
  show pv_call rq_mt (d + 3) 5 [.ref 0] (rs (upd (em m p (b + 1) (k + 1) t z) r_at (nI p + 1)) a2) _
  rw [nI_1, em_at]
  refine rc_here (d + 1) (em m (p + 1) (b + 1) (k + 1) t z) a2 hn (by omega) rfl hsz _ ?_
  rw [em_at, er]
  have hl2 := r_nx_le (a := a) (n := n) (p := p + 1) (by omega)
  have hnn : r_nx a n (r_nx a n (p + 1)) = r_nx a n (p + 1) := r_nx_nx (by omega)
  generalize r_nx a n (p + 1) = p2 at *
  refine rc_nest d (em m p2 (b + 1) (k + 1) t z) a2 hn hl2.2 rfl hsz hz rfl _ (fun hz1 => ?_) (fun hz1 => ?_)
  · rw [em_nested]
    exact h1 hz1
  · rw [er, hnn, em_at, if_pos (show em m p2 (b + 1) (k + 1) t z r_wrong = -1 from hw), upd_comm _ _ _ (by decide), em_nested]
    exact h2 hz1
set_option maxRecDepth 100000 in
theorem rc_e_open (d : Nat) (m : Nat → Int32) (a : Nat → Nat → Int32) {n p b k t z : Nat} (hn : n ≤ 240) (hp : p < n) (hsz : m r_size = nI n) (hw : m r_wrong = -1) (hk : k < 300) (hz : z < 2 ^ 30) (st g : Int32) (P : pv_R)
    (h1 : z < 30 → pv_go rq_T21 0 (pv_call rq_mt (d + 3)) P (259, eM st 1 1 1 40, [], rs (em m (r_nx a n (p + 1)) b (k + 1) t (z + 1)) (up2 (up2 a r_opSign k 40) r_opNode k (-1))))
    (h2 : 30 ≤ z → pv_go rq_T21 0 (pv_call rq_mt (d + 3)) P (259, eM st 1 1 1 40, [], rs (upd (em m (r_nx a n (p + 1)) b (k + 1) t (z + 1)) r_wrong (nI (r_nx a n (p + 1)))) (up2 (up2 a r_opSign k 40) r_opNode k (-1)))) : pv_go rq_T21 0 (pv_call rq_mt (d + 3)) P (48, eM st 1 g 1 40, [], rs (em m p b k t z) a) := by
  refine pv_run [259] 80 ?_
  refine rc_isName (d + 2) _ 40 _ ?_
  rw [if_neg (by decide)]
  refine And.intro (fun _ => ?_) (fun q => absurd rfl q)
  refine And.intro (fun q => absurd q (by decide)) (fun _ => ?_)
  refine And.intro (fun q => absurd q (by decide)) (fun _ => ?_)
  refine And.intro (fun q => absurd q (by decide)) (fun _ => ?_)
  refine And.intro (fun q => absurd q (by decide)) (fun _ => ?_)
  refine And.intro (fun _ => ?_) (fun q => absurd rfl q)
  refine rc_push (d + 2) (em m p b k t z) a hk rfl 40 (-1) _ ?_
  rw [em_ops]
  have er : ∀ u w, r_nx (up2 (up2 a r_opSign k 40) r_opNode k (-1)) u w = r_nx a u w := fun u w => rfl
  generalize up2 (up2 a r_opSign k 40) r_opNode k (-1) = a2 at h1 h2 er ⊢
  show pv_call rq_mt (d + 3) 5 [.ref 0] (rs (upd (em m p b (k + 1) t z) r_at (nI p + 1)) a2) _
  rw [nI_1, em_at]
  refine rc_here (d + 1) (em m (p + 1) b (k + 1) t z) a2 hn (by omega) rfl hsz _ ?_
  rw [em_at, er]
  have hl2 := r_nx_le (a := a) (n := n) (p := p + 1) (by omega)
  have hnn : r_nx a n (r_nx a n (p + 1)) = r_nx a n (p + 1) := r_nx_nx (by omega)
  generalize r_nx a n (p + 1) = p2 at *
  refine rc_nest d (em m p2 b (k + 1) t z) a2 hn hl2.2 rfl hsz hz rfl _ (fun hz1 => ?_) (fun hz1 => ?_)
  · rw [em_nested]
    exact h1 hz1
  · rw [er, hnn, em_at, if_pos (show em m p2 b (k + 1) t z r_wrong = -1 from hw), upd_comm _ _ _ (by decide), em_nested]
    exact h2 hz1
set_option maxRecDepth 100000 in
/-- a NAME: readName decides; its answer is wants and begins -/
theorem rc_e_name (d : Nat) (m : Nat → Int32) (a : Nat → Nat → Int32) (st g c : Int32) (hnm : 97 ≤ c ∧ c ≤ 122) (P : pv_R) (h : pv_call rq_mt (d + 1) rq_m_R_readName [.ref 0, .int c, .int g] (rs m a) (fun o S => ∃ w, o = some (.int w) ∧ pv_go rq_T21 0 (pv_call rq_mt (d + 1)) P (259, eM st w w 1 c, [], S))) : pv_go rq_T21 0 (pv_call rq_mt (d + 1)) P (48, eM st 1 g 1 c, [], rs m a) := by
  refine pv_run [259] 80 ?_
  refine rc_isName d _ c _ ?_
  rw [if_pos hnm]
  refine And.intro (fun q => absurd q (by decide)) (fun _ => ?_)
  refine pv_call_cm rq_mt (d + 1) _ _ _ _ _ ?_ h
  intro o S hS
  obtain ⟨w, rfl, hS⟩ := hS
  exact hS
end
section
set_option maxRecDepth 100000 in
/-- behind an operand: the next sign goes to readOperator -/
theorem rc_e_O (d : Nat) (m : Nat → Int32) (a : Nat → Nat → Int32) {n p b k t z : Nat} (hn : n ≤ 240) (hp : p ≤ n) (hsz : m r_size = nI n) (hw : m r_wrong = -1) (st g c0 : Int32) (P : pv_R)
    (h : pv_call rq_mt (d + 2) rq_m_R_readOperator [.ref 0, .int (r_ch a n (r_nx a n p))] (rs (em m (r_nx a n p) b k t z) a) (fun o S => ∃ (r : Int32) (m' : Nat → Int32) (a' : Nat → Nat → Int32), o = some (.int r) ∧ S = rs m' a' ∧ pv_go rq_T21 0 (pv_call rq_mt (d + 2)) P (259, eM st (if r = 0 ∨ m' r_wantsMore = 0 then 0 else 1) (m' r_beginsMore) r (r_ch a n (r_nx a n p)), [], rs m' a'))) : pv_go rq_T21 0 (pv_call rq_mt (d + 2)) P (26, eM st 0 g 1 c0, [], rs (em m p b k t z) a) := by
  have hw' : em m p b k t z r_wrong = -1 := hw
  refine pv_run [259] 80 ?_
  refine And.intro (fun q => absurd q (by decide)) (fun _ => ?_)
  refine rc_isRight (d + 1) (em m p b k t z) a _ ?_
  rw [if_pos hw']
  refine And.intro (fun q => absurd q (by decide)) (fun _ => ?_)
  refine rc_here d (em m p b k t z) a hn hp rfl hsz _ ?_
  rw [em_at]
  refine And.intro (fun _ => ?_) (fun q => absurd rfl q)
  refine pv_call_cm rq_mt (d + 2) _ _ _ _ _ ?_ h
  intro o S hS
  obtain ⟨r, m', a', rfl, rfl, hS⟩ := hS
  refine And.intro (fun q1 => ?_) (fun q1 => ?_)
  · have q1 : r = 0 := q1
    rw [if_pos (Or.inl q1)] at hS
    exact hS
  · have q1 : ¬ r = 0 := q1
    refine And.intro (fun q2 => ?_) (fun q2 => ?_)
    · have q2 : m' 35 = 0 := q2
      rw [if_pos (Or.inr q2)] at hS
      exact hS
    · have q2 : ¬ m' 35 = 0 := q2
      rw [if_neg (fun r => r.elim q1 q2)] at hS
      exact hS
set_option maxRecDepth 100000 in
/-- an e has ended: what waits is reduced, its root goes to the stmt -/
theorem rc_e_end (d : Nat) (m : Nat → Int32) (a a' : Nat → Nat → Int32) {p b k t z k' t' z' x : Nat} (hw : m r_wrong = -1) (hk : k ≤ 300) (htop : ¬ (if k = 0 then -1 else a r_opSign (k - 1) : Int32) = 33) (hx : a' r_done 0 = nI x) (hx2 : x < 260) (hrw : rwTo d 1 1 1 (em m p b k t z) a (em m p b k' t' z') a') (st g c : Int32) (P : pv_R) (h : P (some (.int (nI x))) (rs (em m p b k' t' z') (up2 a' r_around x st))) : pv_go rq_T21 0 (pv_call rq_mt (d + 2)) P (259, eM st 0 g 0 c, [], rs (em m p b k t z) a) := by
  have hw' : em m p b k t z r_wrong = -1 := hw
  refine pv_run [26] 80 ?_
  refine rc_isRight (d + 1) (em m p b k t z) a _ ?_
  rw [if_pos hw']
  refine And.intro (fun q => absurd q (by decide)) (fun _ => ?_)
  refine And.intro (fun _ => ?_) (fun q => absurd rfl q)
  refine rc_top (d + 1) (em m p b k t z) a hk rfl _ ?_
  refine And.intro (fun q => absurd q htop) (fun _ => ?_)
  show pv_go rq_T21 0 (pv_call rq_mt (d + 2)) P (26, eM st 0 g 0 c, [], rs (em m p b k t z) a)
  refine pv_run [] 80 ?_
  refine And.intro (fun _ => ?_) (fun q => absurd rfl q)
  refine rc_isRight (d + 1) (em m p b k t z) a _ ?_
  rw [if_pos hw']
  refine And.intro (fun q => absurd q (by decide)) (fun _ => ?_)
  refine hrw _ ?_
  have i0 : vp_in 0 300 := vp_in_nI (n := 0) (by decide) (by decide)
  have c0 : (0 : Int32).toNatClampNeg = 0 := by decide
  have f0 : a' 32 (0 : Int32).toNatClampNeg = nI x := by rw [c0]; exact hx
  have i1 : vp_in (a' 32 (0 : Int32).toNatClampNeg) 260 := by rw [f0]; exact vp_in_nI hx2 (by decide)
  have c1 : (a' 32 (0 : Int32).toNatClampNeg).toNatClampNeg = x := by rw [f0, nI_clamp (by omega)]
  refine And.intro i0 ?_
  refine And.intro i1 ?_
  refine And.intro i0 ?_
  have h2 : P (some (.int (a' 32 (0 : Int32).toNatClampNeg))) (rs (em m p b k' t' z') (up2 a' r_around (a' 32 (0 : Int32).toNatClampNeg).toNatClampNeg st)) := by rw [c1, f0]; exact h
  exact h2
set_option maxRecDepth 100000 in
/-- readE, from its entry to the first sign -/
theorem rc_readE (d : Nat) (m : Nat → Int32) (a : Nat → Nat → Int32) {n p b : Nat} (hn : n ≤ 240) (hp : p ≤ n) (hat : m r_at = nI p) (hnd : m r_nodes = nI b) (hsz : m r_size = nI n) (st : Int32) (P : pv_R) (h : pv_go rq_T21 0 (pv_call rq_mt (d + 3)) P (26, eL st 1 1 1 ++ [], [], rs (em m p b 0 0 1) a)) : pv_call rq_mt (d + 4) rq_m_R_readE [.ref 0, .int st] (rs m a) P := by
  have em0 : upd (upd (upd m r_ops 0) r_dones 0) r_nested 0 = em m p b 0 0 0 := by
    funext j
    simp only [em, upd]
    by_cases h1 : j = 26
    · subst h1; exact hat
    · by_cases h2 : j = 2
      · subst h2; exact hnd
      · simp [h1, h2]
        rfl
  refine pv_call_of rfl rfl rfl (pv_run [26] 80 ?_)
  show pv_call rq_mt (d + 3) 15 [.ref 0] (rs (upd (upd (upd m r_ops 0) r_dones 0) r_nested 0) a) _
  rw [em0]
  refine rc_nest d (em m p b 0 0 0) a hn hp rfl hsz (k := 0) (by decide) rfl _ (fun _ => ?_) (fun hz => absurd hz (by decide))
  rw [em_nested]
  exact h
end
section
theorem skp_congr {f g : Nat → Int32} (h : ∀ i, (f i = 32 ∨ f i = 10) ↔ (g i = 32 ∨ g i = 10)) : ∀ k p, skp f k p = skp g k p := by
  intro k
  induction k with
  | zero => intro p; rfl
  | succ k ih =>
    intro p
    unfold skp
    by_cases hp : f p = 32 ∨ f p = 10
    · rw [if_pos hp, if_pos ((h p).mp hp), ih]
    · rw [if_neg hp, if_neg (fun q => hp ((h p).mpr q))]
/-- the signs of the reference's row -/
def r_tx (a : Nat → Nat → Int32) : Nat → Int32 := fun i => a r_row i &&& 255
theorem r_blank {b : Int32} (hb : b.toInt8.toInt32 = b) : (b = 32 ∨ b = 10) ↔ (b &&& 255 = 32 ∨ b &&& 255 = 10) := by
  have h1 := sc_eq hb (n := 32) (by decide)
  have h2 := sc_eq hb (n := 10) (by decide)
  have e1 : (nI 32).toInt8.toInt32 = 32 := by decide +kernel
  have e2 : (nI 10).toInt8.toInt32 = 10 := by decide +kernel
  rw [e1] at h1
  rw [e2] at h2
  rw [h1, h2]
  exact Iff.rfl
theorem r_nx_sp {a : Nat → Nat → Int32} (hb : ∀ i, (a r_row i).toInt8.toInt32 = a r_row i) (n p : Nat) : r_nx a n p = sp_x (r_tx a) n p := skp_congr (fun i => r_blank (hb i)) (n - p) p
theorem r_ch_sp (a : Nat → Nat → Int32) (n q : Nat) : r_ch a n q = sp_c (r_tx a) n q := rfl
end
section
/-- reduceWhile's loop leads from one state to another -/
def rwG (d : Nat) (x y z : Int32) (m : Nat → Int32) (a : Nat → Nat → Int32) (m' : Nat → Int32) (a' : Nat → Nat → Int32) : Prop := ∀ (P : pv_R) (L : pv_L), (L = [] ∨ ∃ c, L = [(5, .int c)]) → P none (rs m' a') → pv_go rq_T18 3 (pv_call rq_mt (d + 1)) P (3, [(0, .ref 0), (1, .int x), (2, .int y), (3, .int z), (4, .int 1)] ++ L, [], rs m a)
theorem rwG_to {d : Nat} {x y z : Int32} {m m' : Nat → Int32} {a a' : Nat → Nat → Int32} (h : rwG d x y z m a m' a') : rwTo d x y z m a m' a' := fun P hP => rc_reduceWhile d m a x y z P (h P [] (Or.inl rfl) hP)
theorem rwG_stop (d : Nat) (x y z : Int32) (m : Nat → Int32) (a : Nat → Nat → Int32) {p b k t s : Nat} (hk : k ≤ 300) (h : ¬ rw_c x y z (if k = 0 then -1 else a r_opSign (k - 1))) : rwG d x y z (em m p b k t s) a (em m p b k t s) a := fun P L hL hP => rc_rw_head d (em m p b k t s) a x y z L hL hk rfl P (fun q => absurd q h) (fun _ => hP)
theorem rwG_2 (d : Nat) (x y z : Int32) (m m' : Nat → Int32) (a a' : Nat → Nat → Int32) {p b k t s u v : Nat} (hk : k < 300) (ht : t + 2 ≤ 300) (hu : a r_done (t + 1) = nI u) (hv : a r_done t = nI v) (hu2 : u < 260) (hv2 : v < 260) (hc : (a r_opSign k = 38 ∧ ¬ x = 0) ∨ (a r_opSign k = 124 ∧ ¬ y = 0)) (h : rwG d x y z (em m p b k (t + 1) s) (up2 (up2 (up2 a r_around u (a r_opNode k)) r_around v (a r_opNode k)) r_done t (a r_opNode k)) m' a') : rwG d x y z (em m p b (k + 1) (t + 2) s) a m' a' := by
  intro P L hL hP
  have e : (if k + 1 = 0 then -1 else a r_opSign (k + 1 - 1) : Int32) = a r_opSign k := by rw [if_neg (by omega), show k + 1 - 1 = k by omega]
  have hcond : rw_c x y z (if k + 1 = 0 then -1 else a r_opSign (k + 1 - 1)) := by
    rw [e]
    rcases hc with hc | hc
    · exact Or.inl hc
    · exact Or.inr (Or.inl hc)
  refine rc_rw_head d (em m p b (k + 1) (t + 2) s) a x y z L hL (k := k + 1) (by omega) rfl P (fun _ => ?_) (fun q => absurd hcond q)
  refine rc_reduce2 d (em m p b (k + 1) (t + 2) s) a hk ht rfl rfl hu hv hu2 hv2 (hc.elim (fun q => Or.inl q.1) (fun q => Or.inr q.1)) _ ?_
  rw [em_ops, em_dones]
  exact ⟨rfl, h P _ (Or.inr ⟨_, rfl⟩) hP⟩
theorem rwG_1 (d : Nat) (x y z : Int32) (m m' : Nat → Int32) (a a' : Nat → Nat → Int32) {p b k t s u : Nat} (hk : k < 300) (ht : t + 1 ≤ 300) (hu : a r_done t = nI u) (hu2 : u < 260) (hc : (a r_opSign k = 61 ∨ a r_opSign k = 58) ∧ ¬ z = 0) (h : rwG d x y z (em m p b k (t + 1) s) (up2 (up2 a r_around u (a r_opNode k)) r_done t (a r_opNode k)) m' a') : rwG d x y z (em m p b (k + 1) (t + 1) (s + 1)) a m' a' := by
  intro P L hL hP
  have e : (if k + 1 = 0 then -1 else a r_opSign (k + 1 - 1) : Int32) = a r_opSign k := by rw [if_neg (by omega), show k + 1 - 1 = k by omega]
  have hcond : rw_c x y z (if k + 1 = 0 then -1 else a r_opSign (k + 1 - 1)) := by
    rw [e]
    exact Or.inr (Or.inr hc)
  refine rc_rw_head d (em m p b (k + 1) (t + 1) (s + 1)) a x y z L hL (k := k + 1) (by omega) rfl P (fun _ => ?_) (fun q => absurd hcond q)
  refine rc_reduce1 d (em m p b (k + 1) (t + 1) (s + 1)) a hk ht rfl rfl hu hu2 ⟨by rcases hc.1 with q | q <;> rw [q] <;> decide, by rcases hc.1 with q | q <;> rw [q] <;> decide⟩ _ ?_
  rw [show em m p b (k + 1) (t + 1) (s + 1) r_nested - 1 = nI s from nI_pred s, em_ops, em_nested]
  exact ⟨rfl, h P _ (Or.inr ⟨_, rfl⟩) hP⟩
end
section
/-- node r of the reference bears the code c of an e -/
def ndF (a : Nat → Nat → Int32) (r c : Nat) : Prop := (a r_sort r = nI (sp_s c) ∧ a r_first r = nI (sp_f c)) ∧ (a r_variable r = nI (sp_v c) - 1 ∧ a r_isStmt r = 0)
/-- the nodes of a tree lie from b on, in the order of their making; r is the root; around is set but for the root's -/
def Blk (a : Nat → Nat → Int32) : Std.Format → Nat → Nat → Prop
  | .tag c .nil, b, r => r = b ∧ ndF a b c
  | .tag c (.append u (.append v w)), b, r => (r = b + sp_z u ∧ ndF a r c) ∧ ∃ x y z, (Blk a u b x ∧ Blk a v (r + 1) y ∧ Blk a w (r + 1 + sp_z v) z) ∧ (a r_around x = nI r ∧ a r_around y = nI r ∧ a r_around z = nI r)
  | .tag c (.append u v), b, r => (r = b + sp_z u ∧ ndF a r c) ∧ ∃ x y, (Blk a u b x ∧ Blk a v (r + 1) y) ∧ (a r_around x = nI r ∧ a r_around y = nI r)
  | .tag c u, b, r => (r = b ∧ ndF a b c) ∧ ∃ x, Blk a u (b + 1) x ∧ a r_around x = nI b
  | _, _, _ => False
/-- an e's tree as sp_e makes them -/
def sp_ok : Std.Format → Prop
  | .tag _ .nil => True
  | .tag _ (.append u (.append v w)) => sp_ok u ∧ sp_ok v ∧ sp_ok w
  | .tag _ (.append u v) => sp_ok u ∧ sp_ok v
  | .tag _ u => sp_ok u
  | _ => False
theorem Blk_2 {a : Nat → Nat → Int32} {c b r x y : Nat} {u v : Std.Format} (hv : sp_ok v) (h1 : r = b + sp_z u) (h2 : ndF a r c) (h3 : Blk a u b x) (h4 : Blk a v (r + 1) y) (h5 : a r_around x = nI r) (h6 : a r_around y = nI r) : Blk a (.tag c (.append u v)) b r := by
  cases v with
  | tag c' v' => exact ⟨⟨h1, h2⟩, x, y, ⟨h3, h4⟩, h5, h6⟩
  | _ => exact hv.elim
theorem Blk_3 {a : Nat → Nat → Int32} {c b r x y z : Nat} {u v w : Std.Format} (h1 : r = b + sp_z u) (h2 : ndF a r c) (h3 : Blk a u b x) (h4 : Blk a v (r + 1) y) (h4' : Blk a w (r + 1 + sp_z v) z) (h5 : a r_around x = nI r) (h6 : a r_around y = nI r) (h7 : a r_around z = nI r) : Blk a (.tag c (.append u (.append v w))) b r := ⟨⟨h1, h2⟩, x, y, z, ⟨h3, h4, h4'⟩, h5, h6, h7⟩
theorem Blk_1 {a : Nat → Nat → Int32} {c b x : Nat} {u : Std.Format} (hu : sp_ok u) (h2 : ndF a b c) (h3 : Blk a u (b + 1) x) (h5 : a r_around x = nI b) : Blk a (.tag c u) b b := by
  cases u with
  | tag c' u' => exact ⟨⟨rfl, h2⟩, x, h3, h5⟩
  | _ => exact hu.elim
end
section
theorem Blk_root {a : Nat → Nat → Int32} {t : Std.Format} : ∀ {b r : Nat}, Blk a t b r → b ≤ r ∧ r < b + sp_z t := by
  intro b r h
  unfold Blk at h
  split at h
  · obtain ⟨rfl, -⟩ := h
    simp [sp_z]
  · obtain ⟨⟨rfl, -⟩, -⟩ := h
    simp only [sp_z]; omega
  · obtain ⟨⟨rfl, -⟩, -⟩ := h
    simp only [sp_z]; omega
  · obtain ⟨⟨rfl, -⟩, -⟩ := h
    simp only [sp_z]; omega
  · exact h.elim
/-- two rows of nodes agree on a tree's place: all but the root's around -/
def sameOn (a a' : Nat → Nat → Int32) (b n r : Nat) : Prop := ∀ i, b ≤ i → i < b + n → (a' r_sort i = a r_sort i ∧ a' r_first i = a r_first i) ∧ (a' r_variable i = a r_variable i ∧ a' r_isStmt i = a r_isStmt i) ∧ (¬ i = r → a' r_around i = a r_around i)
theorem ndF_same {a a' : Nat → Nat → Int32} {b n r i c : Nat} (h : sameOn a a' b n r) (h1 : b ≤ i) (h2 : i < b + n) (hf : ndF a i c) : ndF a' i c := by
  obtain ⟨⟨e1, e2⟩, ⟨e3, e4⟩, -⟩ := h i h1 h2
  exact ⟨⟨e1.trans hf.1.1, e2.trans hf.1.2⟩, e3.trans hf.2.1, e4.trans hf.2.2⟩
theorem sameOn_sub {a a' : Nat → Nat → Int32} {b n r b' n' r' : Nat} (h : sameOn a a' b n r) (h1 : b ≤ b') (h2 : b' + n' ≤ b + n) (h3 : r < b' ∨ b' + n' ≤ r) : sameOn a a' b' n' r' := by
  intro i hi hj
  obtain ⟨e1, e2, e3⟩ := h i (by omega) (by omega)
  exact ⟨e1, e2, fun _ => e3 (by omega)⟩
end
section
theorem Blk_same {a a' : Nat → Nat → Int32} : ∀ (n : Nat) (t : Std.Format), sp_z t ≤ n → ∀ b r, sameOn a a' b (sp_z t) r → Blk a t b r → Blk a' t b r := by
  intro n
  induction n with
  | zero =>
    intro t ht b r _ h
    have := Blk_root h
    omega
  | succ n ih =>
    intro t ht b r hs h
    have hr := Blk_root h
    cases t with
    | tag c x =>
      cases x with
      | nil =>
        obtain ⟨rfl, h2⟩ := h
        exact ⟨rfl, ndF_same hs (by omega) hr.2 h2⟩
      | append u v =>
        cases v with
        | append v w =>
          simp only [sp_z] at ht hs hr
          obtain ⟨⟨h1, h2⟩, x, y, z, ⟨h3, h4, h5⟩, h6, h7, h8⟩ := h
          have r3 := Blk_root h3
          have r4 := Blk_root h4
          have r5 := Blk_root h5
          subst h1
          exact ⟨⟨rfl, ndF_same hs (by omega) (by omega) h2⟩, x, y, z, ⟨ih u (by omega) _ _ (sameOn_sub hs (by omega) (by omega) (Or.inr (by omega))) h3, ih v (by omega) _ _ (sameOn_sub hs (by omega) (by omega) (Or.inl (by omega))) h4, ih w (by omega) _ _ (sameOn_sub hs (by omega) (by omega) (Or.inl (by omega))) h5⟩, ((hs x (by omega) (by omega)).2.2 (by omega)).trans h6, ((hs y (by omega) (by omega)).2.2 (by omega)).trans h7, ((hs z (by omega) (by omega)).2.2 (by omega)).trans h8⟩
        | tag c' v' =>
          simp only [sp_z] at ht hs hr
          obtain ⟨⟨h1, h2⟩, x, y, ⟨h3, h4⟩, h6, h7⟩ := h
          have r3 := Blk_root h3
          have r4 := Blk_root h4
          simp only [sp_z] at r4
          subst h1
          exact ⟨⟨rfl, ndF_same hs (by omega) (by omega) h2⟩, x, y, ⟨ih u (by omega) _ _ (sameOn_sub hs (by omega) (by omega) (Or.inr (by omega))) h3, ih (.tag c' v') (by simp only [sp_z]; omega) _ _ (sameOn_sub hs (by omega) (by simp only [sp_z]; omega) (Or.inl (by omega))) h4⟩, ((hs x (by omega) (by omega)).2.2 (by omega)).trans h6, ((hs y (by omega) (by omega)).2.2 (by omega)).trans h7⟩
        | _ => exact absurd h.2.choose_spec.choose_spec.1.2 (by simp [Blk])
      | tag c' u' =>
        simp only [sp_z] at ht hs hr
        obtain ⟨⟨h1, h2⟩, x, h3, h6⟩ := h
        have r3 := Blk_root h3
        simp only [sp_z] at r3
        subst h1
        exact ⟨⟨rfl, ndF_same hs (by omega) (by omega) h2⟩, x, ih (.tag c' u') (by simp only [sp_z]; omega) _ _ (sameOn_sub hs (by omega) (by simp only [sp_z]; omega) (Or.inl (by omega))) h3, ((hs x (by omega) (by omega)).2.2 (by omega)).trans h6⟩
      | _ => exact absurd h.2.choose_spec.1 (by simp [Blk])
    | _ => exact absurd h (by simp [Blk])
end
section
set_option maxRecDepth 100000 in
theorem rc_finish (d : Nat) (m : Nat → Int32) (a : Nat → Nat → Int32) {k t j : Nat} (hk : k < 24) (ho : m r_opened = nI (k + 1)) (hm : a r_mark k = nI t) (hj : t + j ≤ 12) (hsc : m r_scopes = nI (t + j)) (h1 : ∀ i, i < 12 → ∃ v, v < 12 ∧ a r_scope i = nI v) (h2 : ∀ v, v < 12 → ∃ u, u < 26 ∧ a r_nameOf v = nI u) (P : pv_R) (h : P none (rs (upd (upd m r_opened (nI k)) r_scopes (nI t)) (upa a r_named (clz (a r_scope) (a r_nameOf) t j (a r_named))))) : pv_call rq_mt (d + 2) rq_m_R_finish [.ref 0] (rs m a) P := by
  refine pv_call_of rfl rfl rfl (pv_run [] 80 ?_)
  have e1 : m 40 - 1 = nI k := by rw [show m 40 = nI (k + 1) from ho, nI_pred]
  have i1 : vp_in (m 40 - 1) 24 := by rw [e1]; exact vp_in_nI hk (by decide)
  have c1 : (m 40 - 1).toNatClampNeg = k := by rw [e1, nI_clamp (by omega)]
  refine And.intro i1 ?_
  show pv_call rq_mt (d + 1) 24 [.ref 0, .int (a 39 (m 40 - 1).toNatClampNeg)] (rs (upd m r_opened (m 40 - 1)) a) _
  rw [c1, e1, show a 39 k = nI t from hm]
  refine rc_close d (upd m r_opened (nI k)) a hj hsc h1 h2 _ ?_
  exact h
theorem rc_isLoop (d : Nat) (S : pv_S) (c : Int32) (P : pv_R) (h : P (some (.int (if c = 87 ∨ c = 68 ∨ c = 70 then 1 else 0))) S) : pv_call rq_mt (d + 1) rq_m_R_isLoop [.int c] S P := by
  refine pv_call_of rfl rfl rfl (pv_run [] 50 ?_)
  refine And.intro (fun c1 => ?_) (fun c1 => ?_)
  · rw [if_pos (Or.inl c1)] at h
    exact And.intro (Or.inr rfl) h
  · refine And.intro (fun c2 => ?_) (fun c2 => ?_)
    · rw [if_pos (Or.inr (Or.inl c2))] at h
      exact And.intro (Or.inr rfl) h
    · refine And.intro (fun c3 => ?_) (fun c3 => ?_)
      · rw [if_pos (Or.inr (Or.inr c3))] at h
        exact And.intro (Or.inr rfl) h
      · rw [if_neg (fun r => r.elim c1 (fun r => r.elim c2 c3))] at h
        exact And.intro (Or.inl rfl) h
theorem rc_point (d : Nat) (S : pv_S) (p k : Int32) (P : pv_R) (h : P (some (.int (5 * p + k))) S) : pv_call rq_mt (d + 1) rq_m_R_point [.int p, .int k] S P := by
  refine pv_call_of rfl rfl rfl (pv_run [] 50 ?_)
  exact h
end
