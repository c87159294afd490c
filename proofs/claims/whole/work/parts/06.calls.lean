/-- from a configuration the method comes to its end, with Q: the least predicate that the steps lead to -/
def pv_go (T : Nat → Option pv_I) (rt : Nat) (call : pv_C) (Q : pv_R) (c : pv_c) : Prop := ∀ X : pv_c → Prop, (∀ c', pv_st T rt call Q X c' → X c') → X c
/-- System.arraycopy of ints -/
def pv_cp (As : List Value) (S : pv_S) (P : pv_R) : Prop := match As with
  | [.ref x, .int sp, .ref y, .int dp, .int n] => pv_ai S x fun t n0 f => pv_ai S y fun u n1 g => bif (Nat.beq t 0 && Nat.beq u 0) then ((¬ sp < 0 ∧ ¬ dp < 0 ∧ ¬ n < 0) ∧ sp.toNatClampNeg + n.toNatClampNeg ≤ n0 ∧ dp.toNatClampNeg + n.toNatClampNeg ≤ n1) ∧ P none (pv_set S y (.inl (0, n1, .inl (va_cpy f g sp.toNatClampNeg dp.toNatClampNeg n.toNatClampNeg)))) else False
  | _ => False
/-- Math.min -/
def pv_mn (As : List Value) (S : pv_S) (P : pv_R) : Prop := match As with
  | [.int x, .int y] => P (some (.int (if y < x then y else x))) S
  | _ => False
/-- a call: d calls deep at most -/
def pv_call (mt : Nat → Option pv_M) : Nat → pv_C
  | 0 => fun _ _ _ _ => False
  | d + 1 => fun j As S P => bif Nat.beq j 999 then pv_cp As S P else bif Nat.beq j 998 then pv_mn As S P else match mt j with
    | some (_, _, maxL, _, _, _, rt, T) => pv_wd As ≤ maxL ∧ pv_go T rt (pv_call mt d) P (0, lv_args 0 As, [], S)
    | none => False
def pv_okM (cl : List vw_C) (tyf : Nat → Nat → FieldType) (Ts NW : List Cond) (mt : Nat → Option pv_M) (y : MethodName) (cc : ByteArray) (maxL : Nat) (ret : Option FieldType) (stat : Bool) (na rt : Nat) (T : Nat → Option pv_I) : Prop :=
  ((plainName y.cls = true ∧ Cond.code y cc maxL ret ∈ Ts) ∧ (Cond.initialized y.cls ∈ Ts ∧ (y.cls ≠ "java/lang/invoke/MethodHandle" ∧ y.cls ≠ "java/lang/invoke/VarHandle" ∧ (parseMethodDescriptor y.desc).map (fun d => d.parameters.length) = some na))) ∧ ((stat = true → Cond.static y ∈ Ts) ∧ (stat = false → Cond.instanceMethod y ∈ Ts ∧ Cond.selects y.cls y y ∈ Ts)) ∧ (maxL ≤ 20 ∧ pv_rt rt ret = true) ∧
  ∀ (pc : Nat) (ins : Instr) (len nx a1 a2 : Nat) (v : Value), T pc = some (ins, len, nx, a1, a2, v) → decode cc pc = .ok (ins, len) ∧ nx = pc + len ∧ pv_oi cl tyf Ts NW mt y.cls maxL pc len a1 a2 v ins
def pv_ok (cl : List vw_C) (tyf : Nat → Nat → FieldType) (Ts NW : List Cond) (mt : Nat → Option pv_M) : Prop :=
  ((∀ w ∈ Ts, goodWord w = true) ∧ (∀ w ∈ NW, pv_isN w = true)) ∧ pv_okC cl tyf Ts ∧ ((mt 999 = none ∧ mt 998 = none) ∧ ∀ j y cc maxL ret stat na rt T, mt j = some (y, cc, maxL, ret, stat, na, rt, T) → pv_okM cl tyf Ts NW mt y cc maxL ret stat na rt T)
def pv_rm (d : Nat) : Room := { frames := d, cells := 0, slots := 0, locals := 40 * d }
def pv_A (ad : Nat → Nat) (n : Nat) : Nat → Prop := fun q => ∃ k, k < n ∧ ad k = q
theorem pv_D_of {cA ad : Nat → Nat} {n : Nat} (hinj : ∀ i j, i < n → j < n → ad i = ad j → i = j) : ∀ S : pv_S, S.length = n → va_D (pv_A ad n) (pv_w cA ad 0 S) := by
  intro S hS
  have key : ∀ (k : Nat) (q : Nat × va_E), (pv_w cA ad 0 S)[k]? = some q → k < n ∧ q.1 = ad k := by
    intro k q hk
    have hl := (List.getElem?_eq_some_iff.mp hk).1
    rw [pv_w_len, hS] at hl
    refine ⟨hl, ?_⟩
    rw [pv_w_at, Nat.zero_add] at hk
    cases h : S[k]? with
    | none => rw [h] at hk; cases hk
    | some x => rw [h] at hk; exact (congrArg Prod.fst (Option.some.inj hk)).symm
  refine ⟨fun i j x y hi hj hxy => ?_, fun k q hk => ?_⟩
  · obtain ⟨h1, h2⟩ := key i x hi
    obtain ⟨h3, h4⟩ := key j y hj
    exact hinj i j h1 h3 (by rw [← h2, ← h4]; exact hxy)
  · obtain ⟨h1, h2⟩ := key k q hk
    exact ⟨k, h1, h2.symm⟩
def pv_ws (Ts : List Cond) (y : MethodName) (cc : ByteArray) (maxL : Nat) (ret : Option FieldType) : List Cond := .code y cc maxL ret :: Ts
def pv_Pc (D : va_G) (cl : List vw_C) (cA ad : Nat → Nat) (NW : List Cond) (As : List Value) (S : pv_S) : Array Value → State → Prop := va_Pc (As.map (pv_v ad)) (fun U => va_P D cl (pv_w cA ad 0 S) U.heap ∧ va_K D cl (pv_tys cA) U ∧ ∀ w ∈ NW, va_Nw w U)
def pv_Qc (D : va_G) (cl : List vw_C) (cA ad : Nat → Nat) (n : Nat) (P : pv_R) : Array Value → State → Outcome → State → Prop := fun _ st oc t => (∃ o S', oc = .returned (o.map (pv_v ad)) ∧ P o S' ∧ S'.length = n ∧ va_P D cl (pv_w cA ad 0 S') t.heap) ∧ va_F (pv_A ad n) st t
theorem pv_warm {NW : List Cond} (hN : ∀ w ∈ NW, pv_isN w = true) {s U : State} (hW : s.WarmedH U.vm) (h : ∀ w ∈ NW, va_Nw w s) : ∀ w ∈ NW, va_Nw w U := by
  intro w hw
  have h1 := hN w hw
  have h2 := h w hw
  cases w <;> first | (exact va_Nw.warmF hW h2) | (exact va_Nw.warmM hW h2) | (cases h1)
theorem pv_blind {D : va_G} {cl : List vw_C} {cA ad : Nat → Nat} {NW : List Cond} (hN : ∀ w ∈ NW, pv_isN w = true) {As : List Value} {S : pv_S} : FrameBlind (pv_Pc D cl cA ad NW As S) := by
  intro a U g mk q
  obtain ⟨q0, qP, qK, qN⟩ := q
  refine ⟨q0, qP, va_K.moved (u := U) (U := U.calling g mk a) (Vm.Alike.refl U.vm) qK, fun w hw => ?_⟩
  have h1 := hN w hw
  have h2 := qN w hw
  cases w <;> first | (exact va_Nw.same rfl rfl h2) | (cases h1)
theorem pv_olmap (ad : Nat → Nat) (o : Option Value) (r : List Value) : (o.map (pv_v ad)).toList ++ r.map (pv_v ad) = (pv_ol o r).map (pv_v ad) := by cases o <;> rfl
section PVC
variable {p : Program} {l : Launch} {e : Env} {R : Room} {s : State} {m : MethodId} {args : Array Value} {below : List Frame} {meth : Method} {c : Code}
variable {cl : List vw_C} {tyf : Nat → Nat → FieldType} {Ts NW : List Cond} {mt : Nat → Option pv_M} {D : va_G} {cA ad : Nat → Nat} {H0 : Heap} {n nL : Nat} {own : String} {cc : ByteArray}
theorem pv_cont {Qs : State → Prop} {H : Heap} {locs : List Loc} {pc : Nat} {ls : Array Slot} {st0 : List Value} {r : List Value} {P : pv_R} {a : Array Value} (hr : va_Run p l e R s m args below meth c H locs 0 0 0 0 (F0 m pc ls st0) (r.map (pv_v ad)) (pv_Qc D cl cA ad n P a) (pv_A ad n)) (hS : va_S (pv_A ad n) H0 H locs)
    (kk : ∀ o S', P o S' → ∀ (H1 : Heap) (locs1 : List Loc), pv_Wo D cl cA ad (pv_A ad n) H0 n S' H1 locs1 → W p l e R s m args below meth c H1 locs1 0 0 Qs (F0 m (pc + 3) ls ((pv_ol o r).map (pv_v ad)))) : W p l e R s m args below meth c H locs 0 0 Qs (F0 m pc ls st0) := by
  intro T hT X
  obtain ⟨v, st₀, t, T', L, h0, X', hL, e1, e2, ⟨⟨o, S', hv, hp, hn, hPw⟩, hz, hk⟩, st⟩ := hr T hT X
  cases hv
  rw [h0] at hz hk
  obtain ⟨t2, a1, b1⟩ := kk o S' hp T'.heap (locs ++ L) ⟨hn, by rw [e1]; exact hPw, Nat.le_trans hS.1 (by rw [e1]; exact hz), fun q h1 h2 => by rw [e1, hk q (Nat.lt_of_lt_of_le h1 hS.1) h2]; exact hS.2.1 q h1 h2, fun q hq => by
      rcases List.mem_append.mp hq with h | h
      · exact hS.2.2 q h
      · exact hL q h⟩ T' rfl X'
  rw [← pv_olmap] at a1
  exact ⟨t2, st t2 a1, b1⟩
theorem pv_good {y : MethodName} {maxL : Nat} {ret : Option FieldType} (hg : ∀ w ∈ Ts, goodWord w = true) (hc : Cond.code y cc maxL ret ∈ Ts) : GoodIn Ts (pv_ws Ts y cc maxL ret) := by
  intro w hw
  rcases List.mem_cons.mp hw with rfl | hw
  · exact ⟨hc, good_of_word (hg _ hc)⟩
  · exact ⟨hw, good_of_word (hg _ hw)⟩
end PVC
