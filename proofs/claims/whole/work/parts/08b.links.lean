/-! the link tables' check, by program -/
theorem pv_okF {cn : Nat → String} {FL : List (Nat × Nat × Nat × Nat)} {cl : List vw_C} {Ts Wf NW : List Cond} {hn : String} (hin : ∀ w ∈ Wf, w ∈ Ts) (h : FL.all (fun q => match cl[q.2.2.1]? with
    | some r => decide (q.2.2.2 < r.2.2) && (decide (Cond.fieldLink (cn q.1) q.2.1 r.1 (r.2.1 q.2.2.2).2.1 (r.2.1 q.2.2.2).2.2.1 ∈ Wf) || decide (Cond.fieldLinkNest (cn q.1) q.2.1 r.1 (r.2.1 q.2.2.2).2.1 (r.2.1 q.2.2.2).2.2.1 hn ∈ NW))
    | none => false) = true) : ∀ q ∈ FL, pv_of cl Ts NW (cn q.1) q.2.1 q.2.2.1 q.2.2.2 := by
  intro q hq
  have h1 := List.all_eq_true.mp h q hq
  cases hc : cl[q.2.2.1]? with
  | none => rw [hc] at h1; cases h1
  | some r =>
    rw [hc] at h1
    obtain ⟨C, T, N⟩ := r
    simp only [Bool.and_eq_true, Bool.or_eq_true, decide_eq_true_eq] at h1
    refine ⟨C, T, N, hc, h1.1, ?_⟩
    rcases h1.2 with h2 | h2
    · exact Or.inl (hin _ h2)
    · exact Or.inr ⟨hn, h2⟩
theorem pv_okK {cn : Nat → String} {ML : List (Nat × Nat × Nat)} {Ts Wk Wa NW : List Cond} {mt : Nat → Option pv_M} {hn : String} (hin : ∀ w ∈ Wk, w ∈ Ts) (hia : ∀ w ∈ Wa, w ∈ Ts) (h : ML.all (fun q => (!(q.2.2 == 999) || (decide (Cond.methodLink (cn q.1) q.2.1 arraycopyName ∈ Wk) && (decide (Cond.native arraycopyName ∈ Wa) && (decide (Cond.static arraycopyName ∈ Wa) && decide (Cond.initialized "java/lang/System" ∈ Wa))))) && ((!(q.2.2 == 998) || (decide (Cond.methodLink (cn q.1) q.2.1 Lib.Math.min.name ∈ Wk) && (decide (Cond.static Lib.Math.min.name ∈ Wa) && (decide (Cond.initialized "java/lang/Math" ∈ Wa) && decide (Cond.code Lib.Math.min.name Lib.Math.min.code 2 (some .int) ∈ Wa))))) && (match mt q.2.2 with
    | some x => decide (Cond.methodLink (cn q.1) q.2.1 x.1 ∈ Wk) || decide (Cond.methodLinkNest (cn q.1) q.2.1 x.1 hn ∈ NW)
    | none => true))) = true) : ∀ q ∈ ML, (q.2.2 = 999 → Cond.methodLink (cn q.1) q.2.1 arraycopyName ∈ Ts ∧ Cond.native arraycopyName ∈ Ts ∧ Cond.static arraycopyName ∈ Ts ∧ Cond.initialized "java/lang/System" ∈ Ts) ∧ (q.2.2 = 998 → Cond.methodLink (cn q.1) q.2.1 Lib.Math.min.name ∈ Ts ∧ Cond.static Lib.Math.min.name ∈ Ts ∧ Cond.initialized "java/lang/Math" ∈ Ts ∧ Cond.code Lib.Math.min.name Lib.Math.min.code 2 (some .int) ∈ Ts) ∧ ∀ x, mt q.2.2 = some x → pv_ml Ts NW (cn q.1) q.2.1 x.1 := by
  intro q hq
  have h1 := List.all_eq_true.mp h q hq
  rw [Bool.and_eq_true, Bool.and_eq_true] at h1
  obtain ⟨h1, h8, h2⟩ := h1
  refine ⟨fun h9 => ?_, fun h9 => ?_, fun x hx => ?_⟩
  · rw [h9] at h1
    simp only [beq_self_eq_true, Bool.not_true, Bool.false_or, Bool.and_eq_true, decide_eq_true_eq] at h1
    exact ⟨hin _ h1.1, hia _ h1.2.1, hia _ h1.2.2.1, hia _ h1.2.2.2⟩
  · rw [h9] at h8
    simp only [beq_self_eq_true, Bool.not_true, Bool.false_or, Bool.and_eq_true, decide_eq_true_eq] at h8
    exact ⟨hin _ h8.1, hia _ h8.2.1, hia _ h8.2.2.1, hia _ h8.2.2.2⟩
  · rw [hx] at h2
    simp only [Bool.or_eq_true, decide_eq_true_eq] at h2
    rcases h2 with h2 | h2
    · exact Or.inl (hin _ h2)
    · exact Or.inr ⟨hn, h2⟩
theorem pv_okV {cn : Nat → String} {CL : List (Nat × Nat × Value)} {Ts Wv : List Cond} (hin : ∀ w ∈ Wv, w ∈ Ts) (h : CL.all (fun q => match q.2.2 with
    | .int x => decide (Cond.constant (cn q.1) q.2.1 x ∈ Wv)
    | .long x => decide (Cond.constantLong (cn q.1) q.2.1 x ∈ Wv)
    | _ => true) = true) : ∀ q ∈ CL, (∀ x, q.2.2 = .int x → Cond.constant (cn q.1) q.2.1 x ∈ Ts) ∧ (∀ x, q.2.2 = .long x → Cond.constantLong (cn q.1) q.2.1 x ∈ Ts) := by
  intro q hq
  have h1 := List.all_eq_true.mp h q hq
  refine ⟨fun x hx => ?_, fun x hx => ?_⟩ <;> (rw [hx] at h1; exact hin _ (of_decide_eq_true h1))
theorem pv_at_none {α : Type} {l : List α} {n : Nat} (h : l.length ≤ n) : pv_at l n = none := by rw [pv_at_eq]; simp [h]
theorem pv_okA {cl : List vw_C} {mas : List (Bool × Nat × Nat)} {mt : Nat → Option pv_M} (h : (List.range mas.length).all (fun j => match pv_at mas j, mt j with
    | some r, some x => decide (x.2.2.2.2.1 = r.1 ∧ x.2.2.2.2.2.1 = r.2.1) && (r.1 || decide ((cl[r.2.2]?).map (fun z => z.1) = some x.1.cls))
    | _, _ => false) = true) : ∀ j st na ci, pv_at mas j = some (st, na, ci) → ∃ x, mt j = some x ∧ (x.2.2.2.2.1 = st ∧ x.2.2.2.2.2.1 = na) ∧ (st = false → ∃ T N, cl[ci]? = some (x.1.cls, T, N)) := by
  intro j st na ci hj
  have hlt : j < mas.length := by
    rcases Nat.lt_or_ge j mas.length with q | q
    · exact q
    · rw [pv_at_none q] at hj; cases hj
  have h1 := List.all_eq_true.mp h j (List.mem_range.mpr hlt)
  rw [hj] at h1
  cases hm : mt j with
  | none => rw [hm] at h1; cases h1
  | some x =>
    rw [hm] at h1
    simp only [Bool.and_eq_true, Bool.or_eq_true, decide_eq_true_eq] at h1
    refine ⟨x, rfl, h1.1, fun hst => ?_⟩
    rcases h1.2 with h2 | h2
    · rw [hst] at h2; cases h2
    · cases hc : cl[ci]? with
      | none => rw [hc] at h2; cases h2
      | some z =>
        rw [hc] at h2
        obtain ⟨C, T, N⟩ := z
        exact ⟨T, N, by rw [← Option.some.inj h2]⟩
