/-! sets of VARIABLES, bit by bit -/
def ti (x : Int32) (k : Nat) : Bool := x.toBitVec.getLsbD k
theorem ti_or (x y : Int32) (k : Nat) : ti (x ||| y) k = (ti x k || ti y k) := by
  unfold ti
  rw [Int32.toBitVec_or, BitVec.getLsbD_or]
theorem ti_and (x y : Int32) (k : Nat) : ti (x &&& y) k = (ti x k && ti y k) := by
  unfold ti
  rw [Int32.toBitVec_and, BitVec.getLsbD_and]
theorem ti_0 (k : Nat) : ti 0 k = false := BitVec.getLsbD_zero
theorem ti_ext {x y : Int32} (h : ∀ k, k < 32 → (ti x k = true ↔ ti y k = true)) : x = y := by
  apply Int32.toBitVec_inj.mp
  apply BitVec.eq_of_getLsbD_eq
  intro i hi
  exact Bool.eq_iff_iff.mpr (h i hi)
theorem ti_not {x : Int32} {k : Nat} (hk : k < 32) : ti (x ^^^ (-1)) k = !ti x k := by
  have m1 : ∀ k : Fin 32, (-1 : Int32).toBitVec.getLsbD k.1 = true := by decide +kernel
  unfold ti
  rw [Int32.toBitVec_xor, BitVec.getLsbD_xor, m1 ⟨k, hk⟩, Bool.xor_true]
theorem ti_shl {v k : Nat} (hv : v < 12) (hk : k < 32) : ti ((1 : Int32) <<< (nI v &&& 31)) k = decide (k = v) := by
  have : ∀ (v : Fin 12) (k : Fin 32), ti ((1 : Int32) <<< (nI v.1 &&& 31)) k.1 = decide (k.1 = v.1) := by decide +kernel
  exact this ⟨v, hv⟩ ⟨k, hk⟩
theorem ti_th {th : Int32} {k : Nat} (hk : k < 12) : th >>> (nI k &&& 31) &&& 1 = 1 ↔ ti th k = true := thB_bit hk
theorem ti_l {s : Int64} {k : Nat} (hk : k < 32) : ti s.toInt32 k = tb s k := by
  unfold ti tb
  rw [Int64.toBitVec_toInt32, BitVec.getLsbD_signExtend]
  rw [if_pos (by omega), decide_eq_true hk, Bool.true_and]
theorem m4095 {k : Nat} (hk : k < 32) : ti 4095 k = decide (k < 12) := by
  have : ∀ k : Fin 32, ti 4095 k.1 = decide (k.1 < 12) := by decide +kernel
  exact this ⟨k, hk⟩
theorem uOn_bit {s : Int64} {k : Nat} (hk : k < 32) : ti (uOn s) k = true ↔ (k < 12 ∧ LB k 0 s 0) := by
  unfold uOn LB lb
  rw [ti_and, ti_l hk, m4095 hk, Bool.and_eq_true, decide_eq_true_eq, Nat.mul_zero, Nat.add_zero]
  exact And.comm
theorem aOn_bit {s : Int64} {k : Nat} (hk : k < 32) : ti (aOn s) k = true ↔ (k < 12 ∧ LB k 0 s 1) := by
  unfold aOn LB lb
  rw [ti_and, ti_l hk, m4095 hk, Bool.and_eq_true, decide_eq_true_eq, tb_shr16, Nat.mul_zero, Nat.add_zero, Nat.add_comm 16 k]
  exact And.comm
theorem rch_bit {s : Int64} : rch s ↔ LB 12 0 s 0 := by
  have o : ∀ k : Fin 64, tb 1 k.1 = decide (k.1 = 0) := by decide +kernel
  unfold rch LB lb
  constructor
  · intro h
    have h : tb (shr s 12 &&& 1) 0 = tb 1 0 := congrArg (fun x => tb x 0) h
    rw [tb_and, tb_shr12, show tb 1 0 = true from o ⟨0, by omega⟩, Bool.and_true] at h
    exact h
  · intro h
    refine tb_ext (fun k hk => ?_)
    rw [tb_and, tb_shr12, o ⟨k, hk⟩]
    by_cases e : k = 0
    · subst e
      have h : tb s (12 + 0) = true := h
      rw [h]
      rfl
    · rw [decide_eq_false (show ¬ (⟨k, hk⟩ : Fin 64).1 = 0 from e), Bool.and_false]
theorem fsR_bit {S : Nat → Int32} {c th : Int32} : ∀ (j v : Nat) (s : Int32), v + j ≤ 12 → ∀ k, k < 32 → (ti (fsR S c th j v s) k = true ↔ (ti s k = true ∨ ((v ≤ k ∧ k < v + j) ∧ (S k = 0 ∨ S k = c) ∧ ti th k = true)))
  | 0, v, s, _, k, hk => ⟨Or.inl, fun u => u.resolve_right (fun w => by omega)⟩
  | j + 1, v, s, hj, k, hk => by
    unfold fsR
    rw [fsR_bit j (v + 1) _ (by omega) k hk, ti_or, Bool.or_eq_true]
    have X : ti (if (S v = 0 ∨ S v = c) ∧ th >>> (nI v &&& 31) &&& 1 = 1 then (1 : Int32) <<< (nI v &&& 31) else 0) k = true ↔ (k = v ∧ (S v = 0 ∨ S v = c) ∧ ti th v = true) := by
      have q := ti_th (th := th) (show v < 12 by omega)
      by_cases g : (S v = 0 ∨ S v = c) ∧ th >>> (nI v &&& 31) &&& 1 = 1
      · rw [if_pos g, ti_shl (by omega) hk, decide_eq_true_eq]
        exact ⟨fun e => ⟨e, g.1, q.mp g.2⟩, fun e => e.1⟩
      · rw [if_neg g, ti_0]
        exact ⟨fun e => absurd e Bool.false_ne_true, fun e => absurd ⟨e.2.1, q.mpr e.2.2⟩ g⟩
    rw [X]
    constructor
    · rintro ((h | ⟨rfl, h⟩) | ⟨h1, h2⟩)
      · exact Or.inl h
      · exact Or.inr ⟨by omega, h⟩
      · exact Or.inr ⟨by omega, h2⟩
    · rintro (h | ⟨h1, h2⟩)
      · exact Or.inl (Or.inl h)
      · by_cases e : k = v
        · subst e
          exact Or.inl (Or.inr ⟨rfl, h2⟩)
        · exact Or.inr ⟨by omega, h2⟩
/-- a lane's two bits, as the reference has them -/
def two (x : Int32) (s : Int64) (v : Nat) : Prop := ∃ n, n < 4 ∧ x = nI n ∧ ∀ z, z < 2 → (n / 2 ^ z % 2 = 1 ↔ LB v 0 s z)
theorem two_u {x : Int32} {s : Int64} {v : Nat} (h : two x s v) : (x = 0 ∨ x = 2) ↔ ¬ LB v 0 s 0 := by
  obtain ⟨n, hn, rfl, hz⟩ := h
  rw [← hz 0 (by omega)]
  have : ∀ n : Fin 4, ((nI n.1 = 0 ∨ nI n.1 = 2) ↔ ¬ n.1 / 2 ^ 0 % 2 = 1) := by decide +kernel
  exact this ⟨n, hn⟩
theorem two_a {x : Int32} {s : Int64} {v : Nat} (h : two x s v) : (x = 0 ∨ x = 1) ↔ ¬ LB v 0 s 1 := by
  obtain ⟨n, hn, rfl, hz⟩ := h
  rw [← hz 1 (by omega)]
  have : ∀ n : Fin 4, ((nI n.1 = 0 ∨ nI n.1 = 1) ↔ ¬ n.1 / 2 ^ 1 % 2 = 1) := by decide +kernel
  exact this ⟨n, hn⟩
theorem fs_u {S : Nat → Int32} {s : Int64} {th : Int32} {V : Nat} (hV : V ≤ 12) (hS : ∀ v, v < V → two (S v) s v) (ht : ∀ k, k < 32 → ti th k = true → k < V) : th &&& (uOn s ^^^ (-1)) = fsR S 2 th V 0 0 := by
  refine ti_ext (fun k hk => ?_)
  rw [ti_and, ti_not hk, Bool.and_eq_true, fsR_bit V 0 0 (by omega) k hk, Bool.not_eq_true', ti_0]
  constructor
  · rintro ⟨h1, h2⟩
    have hv := ht k hk h1
    refine Or.inr ⟨by omega, (two_u (hS k hv)).mpr (fun u => ?_), h1⟩
    rw [(uOn_bit hk).mpr ⟨by omega, u⟩] at h2
    exact Bool.noConfusion h2
  · rintro (h | ⟨h1, h2, h3⟩)
    · exact absurd h Bool.false_ne_true
    · refine ⟨h3, ?_⟩
      have := (two_u (hS k (by omega))).mp h2
      exact Bool.eq_false_iff.mpr (fun u => this ((uOn_bit hk).mp u).2)
theorem fs_a {S : Nat → Int32} {s : Int64} {th : Int32} {V : Nat} (hV : V ≤ 12) (hS : ∀ v, v < V → two (S v) s v) (ht : ∀ k, k < 32 → ti th k = true → k < V) : th &&& (aOn s ^^^ (-1)) = fsR S 1 th V 0 0 := by
  refine ti_ext (fun k hk => ?_)
  rw [ti_and, ti_not hk, Bool.and_eq_true, fsR_bit V 0 0 (by omega) k hk, Bool.not_eq_true', ti_0]
  constructor
  · rintro ⟨h1, h2⟩
    have hv := ht k hk h1
    refine Or.inr ⟨by omega, (two_a (hS k hv)).mpr (fun u => ?_), h1⟩
    rw [(aOn_bit hk).mpr ⟨by omega, u⟩] at h2
    exact Bool.noConfusion h2
  · rintro (h | ⟨h1, h2, h3⟩)
    · exact absurd h Bool.false_ne_true
    · refine ⟨h3, ?_⟩
      have := (two_a (hS k (by omega))).mp h2
      exact Bool.eq_false_iff.mpr (fun u => this ((aOn_bit hk).mp u).2)
