/-! the tables' check, by program: what pv_ck accepts, pv_oi says -/
def pv_sorted (ps : List (Int × Int)) : Bool := (ps.zip (ps.drop 1)).all (fun (a, next) => a.1 < next.1)
def pv_ck (FL : List (Nat × Nat × Nat × Nat)) (ML : List (Nat × Nat × Nat)) (CL : List (Nat × Nat × Value)) (cl : List vw_C) (tyf : Nat → Nat → FieldType) (ma : Nat → Option (Bool × Nat × Nat)) (own nL pc len a1 a2 : Nat) (v : Value) (ins : Instr) : Bool := match ins with
  | .iconst n => decide (v = .int (Int32.ofInt n)) && len == 1
  | .bipush n => decide (v = .int (Int8.ofInt n).toInt32) && len == 2
  | .sipush n => decide (v = .int (Int16.ofInt n).toInt32) && len == 3
  | .lconst n => decide (v = .long (Int64.ofNat n.val)) && len == 1
  | .ldc i => (match v with | .int x => decide ((own, i, Value.int x) ∈ CL) | _ => false) && len == 2
  | .ldc2_w i => (match v with | .long x => decide ((own, i, Value.long x) ∈ CL) | _ => false) && len == 3
  | .iload i => i == a1 && len == 2
  | .iload_n i => i.val == a1 && len == 1
  | .lload i => i == a1 && len == 2
  | .lload_n i => i.val == a1 && len == 1
  | .aload i => i == a1 && len == 2
  | .aload_n i => i.val == a1 && len == 1
  | .istore i => (i == a1 && len == 2) && decide (a1 < nL)
  | .istore_n i => (i.val == a1 && len == 1) && decide (a1 < nL)
  | .lstore i => (i == a1 && len == 2) && decide (a1 + 1 < nL)
  | .lstore_n i => (i.val == a1 && len == 1) && decide (a1 + 1 < nL)
  | .iinc i n => ((i == a1 && len == 3) && decide (a1 < nL)) && decide (v = .int (Int32.ofInt n))
  | .goto off => decide ((pc : Int) + off = (a1 : Int)) && len == 3
  | .ifCond _ off => decide ((pc : Int) + off = (a1 : Int)) && len == 3
  | .if_icmp _ off => decide ((pc : Int) + off = (a1 : Int)) && len == 3
  | .lookupswitch d ps => (pv_sorted ps.toList && decide (0 ≤ (pc : Int) + d)) && ps.toList.all (fun q => decide ((Int32.ofInt q.1).toInt = q.1) && decide (0 ≤ (pc : Int) + q.2))
  | .tableswitch d lo hi offs => (decide (hi + 1 = lo + (offs.size : Int)) && decide (0 ≤ (pc : Int) + d)) && (pv_tb lo 0 offs.toList).all (fun q => decide ((Int32.ofInt q.1).toInt = q.1) && decide (0 ≤ (pc : Int) + q.2))
  | .getfield i => len == 3 && decide ((own, i, a1, a2) ∈ FL)
  | .putfield i => (len == 3 && decide ((own, i, a1, a2) ∈ FL)) && ((match cl[a1]? with | some q => !(q.2.1 a2).2.2.2 | none => true) && pv_kd (tyf a1 a2) v)
  | .invokevirtual i => (len == 3 && decide ((own, i, a1) ∈ ML)) && (match ma a1, v with | some (st, na, ci), .ref c => (!st && a2 == na) && ci == c | _, _ => false)
  | .invokestatic i => (len == 3 && decide ((own, i, a1) ∈ ML)) && ((a1 == 999 && a2 == 5) || ((a1 == 998 && a2 == 2) || ((!(a1 == 999) && !(a1 == 998)) && (match ma a1 with | some (st, na, _) => st && a2 == na | _ => false))))
  | _ => len == 1
/-- what the link tables must say -/
def pv_okL (cn : Nat → String) (FL : List (Nat × Nat × Nat × Nat)) (ML : List (Nat × Nat × Nat)) (CL : List (Nat × Nat × Value)) (cl : List vw_C) (Ts NW : List Cond) (mt : Nat → Option pv_M) (ma : Nat → Option (Bool × Nat × Nat)) : Prop :=
  (∀ q ∈ FL, pv_of cl Ts NW (cn q.1) q.2.1 q.2.2.1 q.2.2.2) ∧
  (∀ q ∈ ML, (q.2.2 = 999 → Cond.methodLink (cn q.1) q.2.1 arraycopyName ∈ Ts ∧ Cond.native arraycopyName ∈ Ts ∧ Cond.static arraycopyName ∈ Ts ∧ Cond.initialized "java/lang/System" ∈ Ts) ∧ (q.2.2 = 998 → Cond.methodLink (cn q.1) q.2.1 Lib.Math.min.name ∈ Ts ∧ Cond.static Lib.Math.min.name ∈ Ts ∧ Cond.initialized "java/lang/Math" ∈ Ts ∧ Cond.code Lib.Math.min.name Lib.Math.min.code 2 (some .int) ∈ Ts) ∧ ∀ x, mt q.2.2 = some x → pv_ml Ts NW (cn q.1) q.2.1 x.1) ∧
  (∀ q ∈ CL, (∀ x, q.2.2 = .int x → Cond.constant (cn q.1) q.2.1 x ∈ Ts) ∧ (∀ x, q.2.2 = .long x → Cond.constantLong (cn q.1) q.2.1 x ∈ Ts)) ∧
  (∀ j st na ci, ma j = some (st, na, ci) → ∃ x, mt j = some x ∧ (x.2.2.2.2.1 = st ∧ x.2.2.2.2.2.1 = na) ∧ (st = false → ∃ T N, cl[ci]? = some (x.1.cls, T, N)))
set_option maxHeartbeats 4000000 in
theorem pv_ck_ok {cn : Nat → String} {FL : List (Nat × Nat × Nat × Nat)} {ML : List (Nat × Nat × Nat)} {CL : List (Nat × Nat × Value)} {cl : List vw_C} {tyf : Nat → Nat → FieldType} {Ts NW : List Cond} {mt : Nat → Option pv_M} {ma : Nat → Option (Bool × Nat × Nat)} (hL : pv_okL cn FL ML CL cl Ts NW mt ma) {own nL pc len a1 a2 : Nat} {v : Value} {ins : Instr} (h : pv_ck FL ML CL cl tyf ma own nL pc len a1 a2 v ins = true) : pv_oi cl tyf Ts NW mt (cn own) nL pc len a1 a2 v ins := by
  obtain ⟨hF, hM, hC, hma⟩ := hL
  cases ins
  case ldc i =>
    simp only [pv_ck, Bool.and_eq_true] at h
    obtain ⟨h1, h2⟩ := h
    split at h1
    · rename_i x
      exact ⟨⟨x, rfl, (hC _ (of_decide_eq_true h1)).1 x rfl⟩, by simpa using h2⟩
    · cases h1
  case ldc2_w i =>
    simp only [pv_ck, Bool.and_eq_true] at h
    obtain ⟨h1, h2⟩ := h
    split at h1
    · rename_i x
      exact ⟨⟨x, rfl, (hC _ (of_decide_eq_true h1)).2 x rfl⟩, by simpa using h2⟩
    · cases h1
  case lookupswitch d ps =>
    simp only [pv_ck, Bool.and_eq_true, List.all_eq_true, decide_eq_true_eq] at h
    exact ⟨⟨h.1.1, h.1.2⟩, fun q hq => h.2 q hq⟩
  case tableswitch d lo hi offs =>
    simp only [pv_ck, Bool.and_eq_true, List.all_eq_true, decide_eq_true_eq] at h
    exact ⟨⟨h.1.1, h.1.2⟩, fun q hq => h.2 q hq⟩
  case getfield i =>
    simp only [pv_ck, Bool.and_eq_true, decide_eq_true_eq, beq_iff_eq] at h
    exact ⟨h.1, hF _ h.2⟩
  case putfield i =>
    simp only [pv_ck, Bool.and_eq_true, decide_eq_true_eq, beq_iff_eq] at h
    obtain ⟨⟨h1, h2⟩, h3, h4⟩ := h
    refine ⟨⟨h1, hF _ h2⟩, fun C T N hc => ?_, h4⟩
    rw [hc] at h3
    simpa using h3
  case invokevirtual i =>
    simp only [pv_ck, Bool.and_eq_true, decide_eq_true_eq, beq_iff_eq] at h
    obtain ⟨⟨h1, h2⟩, h3⟩ := h
    split at h3
    · rename_i st na ci c hm
      simp only [Bool.and_eq_true, Bool.not_eq_true', beq_iff_eq] at h3
      obtain ⟨⟨h4, h5⟩, h6⟩ := h3
      obtain ⟨x, hx, ⟨e1, e2⟩, hcl⟩ := hma _ _ _ _ hm
      obtain ⟨T, N, hc⟩ := hcl h4
      subst h6
      exact ⟨h1, x, hx, ⟨e1.trans h4, h5.trans e2.symm⟩, ⟨ci, T, N, rfl, hc⟩, (hM _ h2).2.2 x hx⟩
    · cases h3
  case invokestatic i =>
    simp only [pv_ck, Bool.and_eq_true, decide_eq_true_eq, beq_iff_eq, Bool.or_eq_true] at h
    obtain ⟨⟨h1, h2⟩, h3⟩ := h
    rcases h3 with ⟨h4, h5⟩ | ⟨h4, h5⟩ | ⟨h4, h5⟩
    · exact ⟨h1, Or.inl ⟨h4, h5, (hM _ h2).1 h4⟩⟩
    · exact ⟨h1, Or.inr (Or.inl ⟨h4, h5, (hM _ h2).2.1 h4⟩)⟩
    · split at h5
      · rename_i st na ci hm
        simp only [Bool.and_eq_true, beq_iff_eq] at h5
        obtain ⟨x, hx, ⟨e1, e2⟩, -⟩ := hma _ _ _ _ hm
        exact ⟨h1, Or.inr (Or.inr ⟨by simpa using h4, x, hx, ⟨e1.trans h5.1, h5.2.trans e2.symm⟩, (hM _ h2).2.2 x hx⟩)⟩
      · cases h5
  all_goals (simp only [pv_ck, Bool.and_eq_true, decide_eq_true_eq, beq_iff_eq] at h; exact h)
/-- a method's table, checked to its end -/
def pv_ckT (FL : List (Nat × Nat × Nat × Nat)) (ML : List (Nat × Nat × Nat)) (CL : List (Nat × Nat × Value)) (cl : List vw_C) (tyf : Nat → Nat → FieldType) (ma : Nat → Option (Bool × Nat × Nat)) (own nL : Nat) (cc : ByteArray) (T : Nat → Option pv_I) (pc : Nat) : Bool := match T pc with
  | some (ins, len, nx, a1, a2, v) => decide (decode cc pc = .ok (ins, len)) && (nx == pc + len && pv_ck FL ML CL cl tyf ma own nL pc len a1 a2 v ins)
  | none => true
theorem pv_ckT_ok {cn : Nat → String} {FL : List (Nat × Nat × Nat × Nat)} {ML : List (Nat × Nat × Nat)} {CL : List (Nat × Nat × Value)} {cl : List vw_C} {tyf : Nat → Nat → FieldType} {Ts NW : List Cond} {mt : Nat → Option pv_M} {ma : Nat → Option (Bool × Nat × Nat)} (hL : pv_okL cn FL ML CL cl Ts NW mt ma) {own nL N : Nat} {cc : ByteArray} {T : Nat → Option pv_I} (hN : ∀ pc, N ≤ pc → T pc = none) (h : (List.range N).all (pv_ckT FL ML CL cl tyf ma own nL cc T) = true) :
    ∀ (pc : Nat) (ins : Instr) (len nx a1 a2 : Nat) (v : Value), T pc = some (ins, len, nx, a1, a2, v) → decode cc pc = .ok (ins, len) ∧ nx = pc + len ∧ pv_oi cl tyf Ts NW mt (cn own) nL pc len a1 a2 v ins := by
  intro pc ins len nx a1 a2 v hT
  have hlt : pc < N := by
    rcases Nat.lt_or_ge pc N with q | q
    · exact q
    · rw [hN pc q] at hT; cases hT
  have h1 := List.all_eq_true.mp h pc (List.mem_range.mpr hlt)
  unfold pv_ckT at h1
  rw [hT] at h1
  simp only [Bool.and_eq_true, decide_eq_true_eq, beq_iff_eq] at h1
  exact ⟨h1.1, h1.2.1, pv_ck_ok hL h1.2.2⟩
theorem pv_blt_none {N : Nat} {α : Type} (f : Nat → Option α) : ∀ pc, N ≤ pc → (bif Nat.blt pc N then f pc else none) = none := by
  intro pc h
  have : Nat.blt pc N = false := by
    cases hb : Nat.blt pc N with
    | true => exact absurd (Nat.blt_eq.mp hb) (Nat.not_lt.mpr h)
    | false => rfl
  rw [this]; rfl
