/-! bits of states -/
def tb (s : Int64) (k : Nat) : Bool := s.toBitVec.getLsbD k
theorem tb_or (x y : Int64) (k : Nat) : tb (x ||| y) k = (tb x k || tb y k) := by
  unfold tb
  rw [Int64.toBitVec_or, BitVec.getLsbD_or]
theorem tb_and (x y : Int64) (k : Nat) : tb (x &&& y) k = (tb x k && tb y k) := by
  unfold tb
  rw [Int64.toBitVec_and, BitVec.getLsbD_and]
theorem tb_ge {x : Int64} {k : Nat} (h : 64 ≤ k) : tb x k = false := BitVec.getLsbD_of_ge _ _ h
theorem tb_0 (k : Nat) : tb 0 k = false := by
  unfold tb
  exact BitVec.getLsbD_zero
theorem tb_ext {x y : Int64} (h : ∀ k, k < 64 → tb x k = tb y k) : x = y := by
  apply Int64.toBitVec_inj.mp
  apply BitVec.eq_of_getLsbD_eq
  intro i hi
  exact h i hi
theorem tb_shl16 (x : Int64) (k : Nat) : tb (shl x 16) k = (decide (k < 64) && !decide (k < 16) && tb x (k - 16)) := by
  have e : ((16 : Int32).toInt64 &&& 63) = (16 : Int64) := by decide
  unfold tb shl
  rw [e, Int64.toBitVec_shiftLeft]
  have e2 : BitVec.smod (16 : Int64).toBitVec (64 : BitVec 64) = 16#64 := by decide
  have e3 : (x.toBitVec <<< BitVec.smod (16 : Int64).toBitVec (64 : BitVec 64)) = x.toBitVec <<< 16 := by rw [e2]; rfl
  exact (congrArg (fun z => BitVec.getLsbD z k) e3).trans (BitVec.getLsbD_shiftLeft _ _)
theorem tb_shl32 (x : Int64) (k : Nat) : tb (shl x 32) k = (decide (k < 64) && !decide (k < 32) && tb x (k - 32)) := by
  have e : ((32 : Int32).toInt64 &&& 63) = (32 : Int64) := by decide
  unfold tb shl
  rw [e, Int64.toBitVec_shiftLeft]
  have e2 : BitVec.smod (32 : Int64).toBitVec (64 : BitVec 64) = 32#64 := by decide
  have e3 : (x.toBitVec <<< BitVec.smod (32 : Int64).toBitVec (64 : BitVec 64)) = x.toBitVec <<< 32 := by rw [e2]; rfl
  exact (congrArg (fun z => BitVec.getLsbD z k) e3).trans (BitVec.getLsbD_shiftLeft _ _)
theorem tb_shr16 (x : Int64) (k : Nat) : tb (shr x 16) k = tb x (16 + k) := by
  have e : ((16 : Int32).toInt64.toUInt64 &&& Int64.toUInt64 63) = (16 : UInt64) := by decide
  unfold tb shr
  rw [e, UInt64.toBitVec_toInt64, UInt64.toBitVec_shiftRight, Int64.toBitVec_toUInt64]
  have e3 : (x.toBitVec >>> ((16 : UInt64).toBitVec % (64 : BitVec 64))) = x.toBitVec >>> 16 := by
    have e2 : ((16 : UInt64).toBitVec % (64 : BitVec 64)) = 16#64 := by decide
    rw [e2]; rfl
  exact (congrArg (fun z => BitVec.getLsbD z k) e3).trans (BitVec.getLsbD_ushiftRight _ _ _)
theorem tb_shr32 (x : Int64) (k : Nat) : tb (shr x 32) k = tb x (32 + k) := by
  have e : ((32 : Int32).toInt64.toUInt64 &&& Int64.toUInt64 63) = (32 : UInt64) := by decide
  unfold tb shr
  rw [e, UInt64.toBitVec_toInt64, UInt64.toBitVec_shiftRight, Int64.toBitVec_toUInt64]
  have e3 : (x.toBitVec >>> ((32 : UInt64).toBitVec % (64 : BitVec 64))) = x.toBitVec >>> 32 := by
    have e2 : ((32 : UInt64).toBitVec % (64 : BitVec 64)) = 32#64 := by decide
    rw [e2]; rfl
  exact (congrArg (fun z => BitVec.getLsbD z k) e3).trans (BitVec.getLsbD_ushiftRight _ _ _)
theorem tb_shr12 (x : Int64) (k : Nat) : tb (shr x 12) k = tb x (12 + k) := by
  have e : ((12 : Int32).toInt64.toUInt64 &&& Int64.toUInt64 63) = (12 : UInt64) := by decide
  unfold tb shr
  rw [e, UInt64.toBitVec_toInt64, UInt64.toBitVec_shiftRight, Int64.toBitVec_toUInt64]
  have e3 : (x.toBitVec >>> ((12 : UInt64).toBitVec % (64 : BitVec 64))) = x.toBitVec >>> 12 := by
    have e2 : ((12 : UInt64).toBitVec % (64 : BitVec 64)) = 12#64 := by decide
    rw [e2]; rfl
  exact (congrArg (fun z => BitVec.getLsbD z k) e3).trans (BitVec.getLsbD_ushiftRight _ _ _)
theorem mk_a {v i : Nat} (hv : v < 13) (hi : i < 64) : tb (shl 1 (nI v) ||| shl 1 (nI v + 32)) i = decide (i = v ∨ i = v + 32) := by
  have : ∀ (v : Fin 13) (i : Fin 64), tb (shl 1 (nI v.1) ||| shl 1 (nI v.1 + 32)) i.1 = decide (i.1 = v.1 ∨ i.1 = v.1 + 32) := by decide +kernel
  exact this ⟨v, hv⟩ ⟨i, hi⟩
theorem mk_b {v i : Nat} (hv : v < 13) (hi : i < 64) : tb ((shl 1 (nI v) ||| shl 1 (nI v + 32)) ^^^ (-1)) i = !decide (i = v ∨ i = v + 32) := by
  have : ∀ (v : Fin 13) (i : Fin 64), tb ((shl 1 (nI v.1) ||| shl 1 (nI v.1 + 32)) ^^^ (-1)) i.1 = !decide (i.1 = v.1 ∨ i.1 = v.1 + 32) := by decide +kernel
  exact this ⟨v, hv⟩ ⟨i, hi⟩
theorem mk_c {v i : Nat} (hv : v < 13) (hi : i < 64) : tb (shl (shl 1 (nI v) ||| shl 1 (nI v + 32)) 16) i = decide (i = v + 16 ∨ i = v + 48) := by
  have : ∀ (v : Fin 13) (i : Fin 64), tb (shl (shl 1 (nI v.1) ||| shl 1 (nI v.1 + 32)) 16) i.1 = decide (i.1 = v.1 + 16 ∨ i.1 = v.1 + 48) := by decide +kernel
  exact this ⟨v, hv⟩ ⟨i, hi⟩
theorem mk_d {v i : Nat} (hv : v < 13) (hi : i < 64) : tb (shl (shl 1 (nI v) ||| shl 1 (nI v + 32)) 16 ^^^ (-1)) i = !decide (i = v + 16 ∨ i = v + 48) := by
  have : ∀ (v : Fin 13) (i : Fin 64), tb (shl (shl 1 (nI v.1) ||| shl 1 (nI v.1 + 32)) 16 ^^^ (-1)) i.1 = !decide (i.1 = v.1 + 16 ∨ i.1 = v.1 + 48) := by decide +kernel
  exact this ⟨v, hv⟩ ⟨i, hi⟩
theorem mk_u {i : Nat} (hi : i < 64) : tb 281470681808895 i = decide (i < 16 ∨ (32 ≤ i ∧ i < 48)) := by
  have : ∀ (i : Fin 64), tb 281470681808895 i.1 = decide (i.1 < 16 ∨ (32 ≤ i.1 ∧ i.1 < 48)) := by decide +kernel
  exact this ⟨i, hi⟩
theorem mk_h {i : Nat} (hi : i < 64) : tb 4294967295 i = decide (i < 32) := by
  have : ∀ (i : Fin 64), tb 4294967295 i.1 = decide (i.1 < 32) := by decide +kernel
  exact this ⟨i, hi⟩
theorem mk_n {i : Nat} (hi : i < 64) : tb (-4294967296) i = decide (32 ≤ i) := by
  have : ∀ (i : Fin 64), tb (-4294967296) i.1 = decide (32 ≤ i.1) := by decide +kernel
  exact this ⟨i, hi⟩
/-- lane v of walks that began with b0: bit b -/
abbrev lb (v b0 b : Nat) : Nat := v + 32 * b0 + 16 * b
def LB (v b0 : Nat) (s : Int64) (b : Nat) : Prop := tb s (lb v b0 b) = true
theorem LB_or {v b0 : Nat} {x y : Int64} {b : Nat} : LB v b0 (x ||| y) b ↔ (LB v b0 x b ∨ LB v b0 y b) := by
  unfold LB
  rw [tb_or, Bool.or_eq_true]
theorem LB_0 {v b0 b : Nat} : ¬ LB v b0 0 b := by
  unfold LB
  rw [tb_0]
  exact Bool.false_ne_true
theorem LB_asg {v b0 b k : Nat} {s : Int64} (hv : v < 16) (hb0 : b0 < 2) (hb : b < 2) (hk : k < 13) : LB v b0 (sAsg s (nI k)) b ↔ (if k = v then b = 1 ∧ (LB v b0 s 0 ∨ LB v b0 s 1) else LB v b0 s b) := by
  unfold LB sAsg
  have hi : lb v b0 b < 64 := by unfold lb; omega
  rw [tb_or, tb_and, mk_b hk hi, tb_shl16, tb_and, mk_a hk (by omega), Bool.or_eq_true, Bool.and_eq_true, Bool.and_eq_true, Bool.and_eq_true, Bool.and_eq_true]
  simp only [decide_eq_true_eq, Bool.not_eq_true', decide_eq_false_iff_not]
  unfold lb at *
  by_cases e : k = v
  · rw [if_pos e]
    subst e
    by_cases c : b = 1
    · subst c
      have e1 : k + 32 * b0 + 16 * 1 - 16 = k + 32 * b0 + 16 * 0 := by omega
      rw [e1]
      constructor
      · rintro (⟨h1, -⟩ | ⟨-, h1, -⟩)
        · exact ⟨rfl, Or.inr h1⟩
        · exact ⟨rfl, Or.inl h1⟩
      · rintro ⟨-, h | h⟩
        · exact Or.inr ⟨⟨by omega, by omega⟩, h, by omega⟩
        · exact Or.inl ⟨h, by omega⟩
    · constructor
      · rintro (⟨h1, h2⟩ | ⟨⟨h0, h1⟩, h2, h3⟩)
        · omega
        · omega
      · rintro ⟨h, -⟩
        exact absurd h c
  · rw [if_neg e]
    constructor
    · rintro (⟨h1, h2⟩ | ⟨⟨h0, h1⟩, h2, h3⟩)
      · exact h1
      · omega
    · intro h
      exact Or.inl ⟨h, by omega⟩
theorem LB_uns {v b0 b k : Nat} {s : Int64} (hv : v < 16) (hb0 : b0 < 2) (hb : b < 2) (hk : k < 13) : LB v b0 (sUns s (nI k)) b ↔ (if k = v then b = 0 ∧ (LB v b0 s 0 ∨ LB v b0 s 1) else LB v b0 s b) := by
  unfold LB sUns
  have hi : lb v b0 b < 64 := by unfold lb; omega
  rw [tb_or, tb_and, mk_d hk hi, tb_shr16, tb_and]
  by_cases c0 : 16 + lb v b0 b < 64
  · rw [mk_c hk c0, Bool.or_eq_true, Bool.and_eq_true, Bool.and_eq_true]
    simp only [decide_eq_true_eq, Bool.not_eq_true', decide_eq_false_iff_not]
    unfold lb at *
    by_cases e : k = v
    · rw [if_pos e]
      subst e
      by_cases c : b = 0
      · subst c
        have e1 : 16 + (k + 32 * b0 + 16 * 0) = k + 32 * b0 + 16 * 1 := by omega
        rw [e1]
        constructor
        · rintro (⟨h1, -⟩ | ⟨h1, -⟩)
          · exact ⟨rfl, Or.inl h1⟩
          · exact ⟨rfl, Or.inr h1⟩
        · rintro ⟨-, h | h⟩
          · exact Or.inl ⟨h, by omega⟩
          · exact Or.inr ⟨h, by omega⟩
      · constructor
        · rintro (⟨h1, h2⟩ | ⟨h2, h3⟩)
          · omega
          · omega
        · rintro ⟨h, -⟩
          exact absurd h c
    · rw [if_neg e]
      constructor
      · rintro (⟨h1, h2⟩ | ⟨h2, h3⟩)
        · exact h1
        · omega
      · intro h
        exact Or.inl ⟨h, by omega⟩
  · rw [tb_ge (x := s) (k := 16 + lb v b0 b) (by omega), Bool.false_and, Bool.or_false, Bool.and_eq_true]
    simp only [decide_eq_true_eq, Bool.not_eq_true', decide_eq_false_iff_not]
    unfold lb at *
    by_cases e : k = v
    · rw [if_pos e]
      subst e
      constructor
      · rintro ⟨h1, h2⟩
        omega
      · rintro ⟨h, -⟩
        omega
    · rw [if_neg e]
      constructor
      · rintro ⟨h1, h2⟩
        exact h1
      · intro h
        exact ⟨h, by omega⟩
theorem LB_thr {v b0 b : Nat} {c s : Int64} (hv : v < 16) (hb0 : b0 < 2) (hb : b < 2) : LB v b0 (sThr c s) b ↔ ((LB v b0 s 0 ∧ LB v 0 c b) ∨ (LB v b0 s 1 ∧ LB v 1 c b)) := by
  unfold LB sThr
  have hi : lb v b0 b < 64 := by unfold lb; omega
  have ea : tb ((s &&& 281470681808895) ||| shl (s &&& 281470681808895) 16) (lb v b0 b) = tb s (lb v b0 0) := by
    rw [tb_or, tb_and, tb_shl16, tb_and, mk_u hi, mk_u (by omega)]
    by_cases e : b = 0
    · subst e
      have e1 : lb v b0 0 = v + 32 * b0 := by unfold lb; omega
      have : (decide (lb v b0 0 < 16 ∨ (32 ≤ lb v b0 0 ∧ lb v b0 0 < 48))) = true := by
        rw [decide_eq_true_eq]; unfold lb; omega
      rw [this, Bool.and_true]
      have : (!decide (lb v b0 0 < 16) && decide (lb v b0 0 - 16 < 16 ∨ (32 ≤ lb v b0 0 - 16 ∧ lb v b0 0 - 16 < 48))) = false := by
        rw [Bool.and_eq_false_iff, Bool.not_eq_false', decide_eq_true_eq, decide_eq_false_iff_not]
        unfold lb; omega
      cases h1 : tb s (lb v b0 0)
      · rw [Bool.false_or]
        revert this
        cases (!decide (lb v b0 0 < 16))
        · simp
        · intro h
          rw [Bool.true_and] at h
          rw [h]
          simp
      · rfl
    · have : (decide (lb v b0 b < 16 ∨ (32 ≤ lb v b0 b ∧ lb v b0 b < 48))) = false := by
        rw [decide_eq_false_iff_not]; unfold lb; omega
      rw [this, Bool.and_false, Bool.false_or]
      have e1 : lb v b0 b - 16 = lb v b0 0 := by unfold lb; omega
      have : decide (lb v b0 b < 64) = true := by rw [decide_eq_true_eq]; exact hi
      rw [this, e1]
      have : decide (lb v b0 b < 16) = false := by rw [decide_eq_false_iff_not]; unfold lb; omega
      rw [this]
      have : decide (lb v b0 0 < 16 ∨ (32 ≤ lb v b0 0 ∧ lb v b0 0 < 48)) = true := by rw [decide_eq_true_eq]; unfold lb; omega
      rw [this]
      simp
  have eb : tb ((shr s 16 &&& 281470681808895) ||| shl (shr s 16 &&& 281470681808895) 16) (lb v b0 b) = tb s (lb v b0 1) := by
    rw [tb_or, tb_and, tb_shl16, tb_and, mk_u hi, mk_u (by omega), tb_shr16, tb_shr16]
    by_cases e : b = 0
    · subst e
      have : (decide (lb v b0 0 < 16 ∨ (32 ≤ lb v b0 0 ∧ lb v b0 0 < 48))) = true := by
        rw [decide_eq_true_eq]; unfold lb; omega
      rw [this, Bool.and_true]
      have e1 : 16 + lb v b0 0 = lb v b0 1 := by unfold lb; omega
      rw [e1]
      have : (!decide (lb v b0 0 < 16) && decide (lb v b0 0 - 16 < 16 ∨ (32 ≤ lb v b0 0 - 16 ∧ lb v b0 0 - 16 < 48))) = false := by
        rw [Bool.and_eq_false_iff, Bool.not_eq_false', decide_eq_true_eq, decide_eq_false_iff_not]
        unfold lb; omega
      cases h1 : tb s (lb v b0 1)
      · rw [Bool.false_or]
        revert this
        cases (!decide (lb v b0 0 < 16))
        · simp
        · intro h
          rw [Bool.true_and] at h
          rw [h]
          simp
      · rfl
    · have : (decide (lb v b0 b < 16 ∨ (32 ≤ lb v b0 b ∧ lb v b0 b < 48))) = false := by
        rw [decide_eq_false_iff_not]; unfold lb; omega
      rw [this, Bool.and_false, Bool.false_or]
      have e1 : lb v b0 b - 16 = lb v b0 0 := by unfold lb; omega
      have : decide (lb v b0 b < 64) = true := by rw [decide_eq_true_eq]; exact hi
      rw [this, e1]
      have : decide (lb v b0 b < 16) = false := by rw [decide_eq_false_iff_not]; unfold lb; omega
      rw [this]
      have : decide (lb v b0 0 < 16 ∨ (32 ≤ lb v b0 0 ∧ lb v b0 0 < 48)) = true := by rw [decide_eq_true_eq]; unfold lb; omega
      rw [this]
      have e2 : 16 + lb v b0 0 = lb v b0 1 := by unfold lb; omega
      rw [e2]
      simp
  have ec : tb ((c &&& 4294967295) ||| shl c 32) (lb v b0 b) = tb c (lb v 0 b) := by
    rw [tb_or, tb_and, tb_shl32, mk_h hi]
    by_cases e : b0 = 0
    · subst e
      have : decide (lb v 0 b < 32) = true := by rw [decide_eq_true_eq]; unfold lb; omega
      rw [this]
      simp
    · have e1 : lb v b0 b - 32 = lb v 0 b := by unfold lb; omega
      have : decide (lb v b0 b < 32) = false := by rw [decide_eq_false_iff_not]; unfold lb; omega
      rw [this, e1]
      have : decide (lb v b0 b < 64) = true := by rw [decide_eq_true_eq]; exact hi
      rw [this]
      simp
  have ed : tb (shr c 32 ||| (c &&& (-4294967296))) (lb v b0 b) = tb c (lb v 1 b) := by
    rw [tb_or, tb_and, tb_shr32, mk_n hi]
    by_cases e : b0 = 0
    · subst e
      have e1 : 32 + lb v 0 b = lb v 1 b := by unfold lb; omega
      have : decide (32 ≤ lb v 0 b) = false := by rw [decide_eq_false_iff_not]; unfold lb; omega
      rw [this, e1]
      simp
    · have e1 : lb v b0 b = lb v 1 b := by unfold lb; omega
      have : decide (32 ≤ lb v b0 b) = true := by rw [decide_eq_true_eq]; unfold lb; omega
      rw [this, tb_ge (x := c) (k := 32 + lb v b0 b) (by unfold lb; omega), e1]
      simp
  rw [tb_or, tb_and, tb_and, ea, eb, ec, ed, Bool.or_eq_true, Bool.and_eq_true, Bool.and_eq_true]
