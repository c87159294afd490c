/-! THE PURE MACHINE: configurations whose references are numbers of cells; one step as a transformer of predicates -/
abbrev pv_S : Type := List va_E
abbrev pv_L : Type := List (Nat × Value)
abbrev pv_c : Type := Nat × pv_L × List Value × pv_S
abbrev pv_I : Type := Instr × Nat × Nat × Nat × Nat × Value
abbrev pv_R : Type := Option Value → pv_S → Prop
abbrev pv_C : Type := Nat → List Value → pv_S → pv_R → Prop
def pv_at {α : Type} : List α → Nat → Option α
  | [], _ => none
  | x :: _, 0 => some x
  | _ :: l, n + 1 => pv_at l n
def pv_set {α : Type} : List α → Nat → α → List α
  | [], _, _ => []
  | _ :: l, 0, y => y :: l
  | x :: l, n + 1, y => x :: pv_set l n y
theorem pv_at_eq {α : Type} (l : List α) (n : Nat) : pv_at l n = l[n]? := by
  induction l generalizing n with
  | nil => simp [pv_at]
  | cons x l ih => cases n with
    | zero => simp [pv_at]
    | succ n => simp [pv_at, ih]
theorem pv_set_eq {α : Type} (l : List α) (n : Nat) (y : α) : pv_set l n y = l.set n y := by
  induction l generalizing n with
  | nil => simp [pv_set]
  | cons x l ih => cases n with
    | zero => simp [pv_set]
    | succ n => simp [pv_set, ih]
def pv_get : pv_L → Nat → Option Value
  | [], _ => none
  | q :: l, i => bif Nat.beq q.1 i then some q.2 else pv_get l i
theorem pv_get_mem {l : pv_L} {i : Nat} {v : Value} (h : pv_get l i = some v) : (i, v) ∈ l := by
  induction l with
  | nil => cases h
  | cons q l ih =>
    unfold pv_get at h
    by_cases hq : Nat.beq q.1 i = true
    · rw [hq] at h
      have h1 : q.2 = v := Option.some.inj h
      have h2 : q.1 = i := Nat.eq_of_beq_eq_true hq
      rw [← h1, ← h2]
      exact List.mem_cons_self
    · have hq' : Nat.beq q.1 i = false := by
        cases hb : Nat.beq q.1 i with
        | true => exact absurd hb hq
        | false => rfl
      rw [hq'] at h
      exact List.mem_cons_of_mem _ (ih h)
def pv_ins (i : Nat) (v : Value) : pv_L → pv_L
  | [] => [(i, v)]
  | q :: l => bif Nat.blt q.1 i then q :: pv_ins i v l else (i, v) :: q :: l
theorem pv_ins_mem {i : Nat} {v : Value} {l : pv_L} {x : Nat × Value} (h : x ∈ pv_ins i v l) : x ∈ (i, v) :: l := by
  induction l with
  | nil => exact h
  | cons q l ih =>
    unfold pv_ins at h
    cases hb : Nat.blt q.1 i with
    | true =>
      rw [hb] at h
      rcases List.mem_cons.mp h with e | h
      · rw [e]; exact List.mem_cons_of_mem _ List.mem_cons_self
      · rcases List.mem_cons.mp (ih h) with e | h
        · rw [e]; exact List.mem_cons_self
        · exact List.mem_cons_of_mem _ (List.mem_cons_of_mem _ h)
    | false => rw [hb] at h; exact h
def pv_put (i : Nat) (v : Value) (l : pv_L) : pv_L := pv_ins i v (l.filter (fun q => !(q.1 == i) && !(q.1 + 1 == i && q.2.category == 2)))
def pv_put2 (i : Nat) (v : Value) (l : pv_L) : pv_L := pv_ins i v (l.filter (fun q => !(q.1 == i) && (!(q.1 == i + 1) && !(q.1 + 1 == i && q.2.category == 2))))
def pv_pop : Nat → List Value → List Value → Option (List Value × List Value)
  | 0, acc, st => some (acc, st)
  | n + 1, acc, v :: st => pv_pop n (v :: acc) st
  | _ + 1, _, [] => none
theorem pv_pop_eq : ∀ (n : Nat) (acc st As r : List Value), pv_pop n acc st = some (As, r) → ∃ L : List Value, L.length = n ∧ As = L ++ acc ∧ st = L.reverse ++ r := by
  intro n
  induction n with
  | zero =>
    intro acc st As r h
    cases h
    exact ⟨[], rfl, rfl, rfl⟩
  | succ n ih =>
    intro acc st As r h
    cases st with
    | nil => cases h
    | cons v st =>
      obtain ⟨L, h1, h2, h3⟩ := ih (v :: acc) st As r h
      refine ⟨L ++ [v], by simp [h1], by simp [h2], by simp [h3]⟩
def pv_wd (l : List Value) : Nat := (l.map fun v => v.category).sum
def pv_gi (o : Option Value) (f : Int32 → Prop) : Prop := match o with
  | some (.int x) => f x
  | _ => False
def pv_gl (o : Option Value) (f : Int64 → Prop) : Prop := match o with
  | some (.long x) => f x
  | _ => False
def pv_gr (o : Option Value) (f : Nat → Prop) : Prop := match o with
  | some (.ref x) => f x
  | _ => False
def pv_1i (st : List Value) (f : Int32 → List Value → Prop) : Prop := match st with
  | .int x :: r => f x r
  | _ => False
def pv_2i (st : List Value) (f : Int32 → Int32 → List Value → Prop) : Prop := match st with
  | .int y :: .int x :: r => f x y r
  | _ => False
def pv_1l (st : List Value) (f : Int64 → List Value → Prop) : Prop := match st with
  | .long x :: r => f x r
  | _ => False
def pv_2l (st : List Value) (f : Int64 → Int64 → List Value → Prop) : Prop := match st with
  | .long y :: .long x :: r => f x y r
  | _ => False
def pv_li (st : List Value) (f : Int64 → Int32 → List Value → Prop) : Prop := match st with
  | .int y :: .long x :: r => f x y r
  | _ => False
def pv_1r (st : List Value) (f : Nat → List Value → Prop) : Prop := match st with
  | .ref a :: r => f a r
  | _ => False
def pv_ir (st : List Value) (f : Int32 → Nat → List Value → Prop) : Prop := match st with
  | .int i :: .ref a :: r => f i a r
  | _ => False
def pv_iir (st : List Value) (f : Int32 → Int32 → Nat → List Value → Prop) : Prop := match st with
  | .int x :: .int i :: .ref a :: r => f x i a r
  | _ => False
def pv_lir (st : List Value) (f : Int64 → Int32 → Nat → List Value → Prop) : Prop := match st with
  | .long x :: .int i :: .ref a :: r => f x i a r
  | _ => False
def pv_ob (S : pv_S) (a ci : Nat) (f : List Value → Prop) : Prop := match pv_at S a with
  | some (.inr (c, fs)) => bif Nat.beq c ci then f fs else False
  | _ => False
def pv_ai (S : pv_S) (a : Nat) (f : Nat → Nat → (Nat → Int32) → Prop) : Prop := match pv_at S a with
  | some (.inl (t, n, .inl g)) => f t n g
  | _ => False
def pv_al (S : pv_S) (a : Nat) (f : Nat → Nat → (Nat → Int64) → Prop) : Prop := match pv_at S a with
  | some (.inl (t, n, .inr (.inl g))) => f t n g
  | _ => False
def pv_an (S : pv_S) (a : Nat) (f : Nat → Nat → Prop) : Prop := match pv_at S a with
  | some (.inl q) => f q.1 q.2.1
  | _ => False
def pv_ri (st : List Value) (f : Int32 → Prop) : Prop := match st with
  | [.int x] => f x
  | _ => False
def pv_rl (st : List Value) (f : Int64 → Prop) : Prop := match st with
  | [.long x] => f x
  | _ => False
def pv_so (o : Option Value) (f : Value → Prop) : Prop := match o with
  | some v => f v
  | none => False
def pv_if (P : Prop) (kt kf : Prop) : Prop := (P → kt) ∧ (¬ P → kf)
def pv_sw (k : Nat → Prop) (pc : Nat) (x : Int32) : List (Int × Int) → Int → Prop
  | [], d => k ((pc : Int) + d).toNat
  | q :: r, d => (x = Int32.ofInt q.1 → k ((pc : Int) + q.2).toNat) ∧ (¬ x = Int32.ofInt q.1 → pv_sw k pc x r d)
def pv_tb (lo : Int) : Nat → List Int → List (Int × Int)
  | _, [] => []
  | n, o :: r => (lo + (n : Int), o) :: pv_tb lo (n + 1) r
def pv_ol (o : Option Value) (r : List Value) : List Value := match o with
  | some v => v :: r
  | none => r
/-- one instruction -/
def pv_ex (rt : Nat) (call : pv_C) (Q : pv_R) (k : pv_c → Prop) (nx a1 a2 : Nat) (v : Value) (pc : Nat) (ls : pv_L) (st : List Value) (S : pv_S) (ins : Instr) : Prop := match ins with
  | .iconst _ => k (nx, ls, v :: st, S)
  | .bipush _ => k (nx, ls, v :: st, S)
  | .sipush _ => k (nx, ls, v :: st, S)
  | .lconst _ => k (nx, ls, v :: st, S)
  | .ldc _ => k (nx, ls, v :: st, S)
  | .ldc2_w _ => k (nx, ls, v :: st, S)
  | .iload _ => pv_gi (pv_get ls a1) fun x => k (nx, ls, .int x :: st, S)
  | .iload_n _ => pv_gi (pv_get ls a1) fun x => k (nx, ls, .int x :: st, S)
  | .lload _ => pv_gl (pv_get ls a1) fun x => k (nx, ls, .long x :: st, S)
  | .lload_n _ => pv_gl (pv_get ls a1) fun x => k (nx, ls, .long x :: st, S)
  | .aload _ => pv_gr (pv_get ls a1) fun x => k (nx, ls, .ref x :: st, S)
  | .aload_n _ => pv_gr (pv_get ls a1) fun x => k (nx, ls, .ref x :: st, S)
  | .istore _ => pv_1i st fun x r => k (nx, pv_put a1 (.int x) ls, r, S)
  | .istore_n _ => pv_1i st fun x r => k (nx, pv_put a1 (.int x) ls, r, S)
  | .lstore _ => pv_1l st fun x r => k (nx, pv_put2 a1 (.long x) ls, r, S)
  | .lstore_n _ => pv_1l st fun x r => k (nx, pv_put2 a1 (.long x) ls, r, S)
  | .iinc _ _ => pv_gi (pv_get ls a1) fun x => pv_gi (some v) fun n => k (nx, pv_put a1 (.int (x + n)) ls, st, S)
  | .iadd => pv_2i st fun x y r => k (nx, ls, .int (x + y) :: r, S)
  | .isub => pv_2i st fun x y r => k (nx, ls, .int (x - y) :: r, S)
  | .imul => pv_2i st fun x y r => k (nx, ls, .int (x * y) :: r, S)
  | .iand => pv_2i st fun x y r => k (nx, ls, .int (x &&& y) :: r, S)
  | .ior => pv_2i st fun x y r => k (nx, ls, .int (x ||| y) :: r, S)
  | .ixor => pv_2i st fun x y r => k (nx, ls, .int (x ^^^ y) :: r, S)
  | .ishl => pv_2i st fun x y r => k (nx, ls, .int (x <<< (y &&& 31)) :: r, S)
  | .ishr => pv_2i st fun x y r => k (nx, ls, .int (x >>> (y &&& 31)) :: r, S)
  | .idiv => pv_2i st fun x y r => ¬ y = 0 ∧ k (nx, ls, .int (x / y) :: r, S)
  | .irem => pv_2i st fun x y r => ¬ y = 0 ∧ k (nx, ls, .int (x - x / y * y) :: r, S)
  | .ladd => pv_2l st fun x y r => k (nx, ls, .long (x + y) :: r, S)
  | .land => pv_2l st fun x y r => k (nx, ls, .long (x &&& y) :: r, S)
  | .lor => pv_2l st fun x y r => k (nx, ls, .long (x ||| y) :: r, S)
  | .lxor => pv_2l st fun x y r => k (nx, ls, .long (x ^^^ y) :: r, S)
  | .lshl => pv_li st fun x y r => k (nx, ls, .long (x <<< (y.toInt64 &&& 63)) :: r, S)
  | .lshr => pv_li st fun x y r => k (nx, ls, .long (x >>> (y.toInt64 &&& 63)) :: r, S)
  | .lushr => pv_li st fun x y r => k (nx, ls, .long ((x.toUInt64 >>> (y.toInt64.toUInt64 &&& Int64.toUInt64 63)).toInt64) :: r, S)
  | .lcmp => pv_2l st fun x y r => k (nx, ls, .int (lg_cmp x y) :: r, S)
  | .i2l => pv_1i st fun x r => k (nx, ls, .long x.toInt64 :: r, S)
  | .l2i => pv_1l st fun x r => k (nx, ls, .int x.toInt32 :: r, S)
  | .i2b => pv_1i st fun x r => k (nx, ls, .int x.toInt8.toInt32 :: r, S)
  | .dup => match st with
    | w :: r => bif Nat.beq w.category 1 then k (nx, ls, w :: w :: r, S) else False
    | _ => False
  | .dup2 => match st with
    | w :: u :: r => bif (Nat.beq w.category 1 && Nat.beq u.category 1) then k (nx, ls, w :: u :: w :: u :: r, S) else False
    | _ => False
  | .pop => match st with
    | w :: r => bif Nat.beq w.category 1 then k (nx, ls, r, S) else False
    | _ => False
  | .pop2 => match st with
    | w :: r => bif Nat.beq w.category 2 then k (nx, ls, r, S) else False
    | _ => False
  | .goto _ => k (a1, ls, st, S)
  | .ifCond c _ => pv_1i st fun x r => match c with
    | .eq => pv_if (x = 0) (k (a1, ls, r, S)) (k (nx, ls, r, S))
    | .ne => pv_if (x = 0) (k (nx, ls, r, S)) (k (a1, ls, r, S))
    | .lt => pv_if (x < 0) (k (a1, ls, r, S)) (k (nx, ls, r, S))
    | .ge => pv_if (0 ≤ x) (k (a1, ls, r, S)) (k (nx, ls, r, S))
    | .gt => pv_if (0 < x) (k (a1, ls, r, S)) (k (nx, ls, r, S))
    | .le => pv_if (x ≤ 0) (k (a1, ls, r, S)) (k (nx, ls, r, S))
  | .if_icmp c _ => pv_2i st fun x y r => match c with
    | .eq => pv_if (x = y) (k (a1, ls, r, S)) (k (nx, ls, r, S))
    | .ne => pv_if (x = y) (k (nx, ls, r, S)) (k (a1, ls, r, S))
    | .lt => pv_if (x < y) (k (a1, ls, r, S)) (k (nx, ls, r, S))
    | .ge => pv_if (y ≤ x) (k (a1, ls, r, S)) (k (nx, ls, r, S))
    | .gt => pv_if (y < x) (k (a1, ls, r, S)) (k (nx, ls, r, S))
    | .le => pv_if (x ≤ y) (k (a1, ls, r, S)) (k (nx, ls, r, S))
  | .lookupswitch d ps => pv_1i st fun x r => pv_sw (fun t => k (t, ls, r, S)) pc x ps.toList d
  | .tableswitch d lo _ offs => pv_1i st fun x r => pv_sw (fun t => k (t, ls, r, S)) pc x (pv_tb lo 0 offs.toList) d
  | .getfield _ => pv_1r st fun a r => pv_ob S a a1 fun fs => pv_so (pv_at fs a2) fun w => k (nx, ls, w :: r, S)
  | .putfield _ => match v with
    | .null => pv_ir st fun x a r => pv_ob S a a1 fun fs => pv_so (pv_at fs a2) fun _ => k (nx, ls, r, pv_set S a (.inr (a1, pv_set fs a2 (.int x))))
    | .int _ => pv_ir st fun x a r => pv_ob S a a1 fun fs => pv_so (pv_at fs a2) fun _ => (x = 0 ∨ x = 1) ∧ k (nx, ls, r, pv_set S a (.inr (a1, pv_set fs a2 (.int x))))
    | .long _ => pv_1l st fun x r => pv_1r r fun a r => pv_ob S a a1 fun fs => pv_so (pv_at fs a2) fun _ => k (nx, ls, r, pv_set S a (.inr (a1, pv_set fs a2 (.long x))))
    | _ => False
  | .iaload => pv_ir st fun i a r => pv_ai S a fun t n f => bif Nat.beq t 0 then vp_in i n ∧ k (nx, ls, .int (f i.toNatClampNeg) :: r, S) else False
  | .baload => pv_ir st fun i a r => pv_ai S a fun t n f => bif (Nat.beq t 1 || Nat.beq t 2) then vp_in i n ∧ k (nx, ls, .int (f i.toNatClampNeg) :: r, S) else False
  | .laload => pv_ir st fun i a r => pv_al S a fun t n f => bif Nat.beq t 3 then vp_in i n ∧ k (nx, ls, .long (f i.toNatClampNeg) :: r, S) else False
  | .iastore => pv_iir st fun x i a r => pv_ai S a fun t n f => bif Nat.beq t 0 then vp_in i n ∧ k (nx, ls, r, pv_set S a (.inl (0, n, .inl (upd f i.toNatClampNeg x)))) else False
  | .bastore => pv_iir st fun x i a r => pv_ai S a fun t n f => bif Nat.beq t 1 then vp_in i n ∧ k (nx, ls, r, pv_set S a (.inl (1, n, .inl (upd f i.toNatClampNeg x.toInt8.toInt32)))) else (bif Nat.beq t 2 then (vp_in i n ∧ (x = 0 ∨ x = 1)) ∧ k (nx, ls, r, pv_set S a (.inl (2, n, .inl (upd f i.toNatClampNeg x)))) else False)
  | .lastore => pv_lir st fun x i a r => pv_al S a fun t n f => bif Nat.beq t 3 then vp_in i n ∧ k (nx, ls, r, pv_set S a (.inl (3, n, .inr (.inl (vp_updL f i.toNatClampNeg x))))) else False
  | .arraylength => pv_1r st fun a r => pv_an S a fun t n => bif Nat.blt t 4 then k (nx, ls, .int (Int32.ofNat n) :: r, S) else False
  | .invokevirtual _ => match pv_pop a2 [] st with
    | some (As, .ref b :: r) => bif Nat.ble (pv_wd r) 8 then pv_gr (some v) fun ci => pv_ob S b ci fun _ => call a1 (.ref b :: As) S (fun o S' => k (nx, ls, pv_ol o r, S')) else False
    | _ => False
  | .invokestatic _ => match pv_pop a2 [] st with
    | some (As, r) => bif Nat.ble (pv_wd r) 8 then call a1 As S (fun o S' => k (nx, ls, pv_ol o r, S')) else False
    | _ => False
  | .ireturn => pv_ri st fun x => bif Nat.beq rt 0 then Q (some (.int x)) S else (bif Nat.beq rt 1 then (x = 0 ∨ x = 1) ∧ Q (some (.int x)) S else False)
  | .lreturn => pv_rl st fun x => bif Nat.beq rt 2 then Q (some (.long x)) S else False
  | .return_ => match st with
    | [] => bif Nat.beq rt 3 then Q none S else False
    | _ => False
  | _ => False
def pv_st (T : Nat → Option pv_I) (rt : Nat) (call : pv_C) (Q : pv_R) (k : pv_c → Prop) (c : pv_c) : Prop := match c with
  | (pc, ls, st, S) => match T pc with
    | some (ins, _, nx, a1, a2, v) => pv_ex rt call Q k nx a1 a2 v pc ls st S ins
    | none => False
