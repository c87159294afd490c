abbrev pv_M : Type := MethodName × ByteArray × Nat × Option FieldType × Bool × Nat × Nat × (Nat → Option pv_I)
def pv_isN (w : Cond) : Bool := match w with
  | .fieldLinkNest .. => true
  | .methodLinkNest .. => true
  | _ => false
/-- a field by its number: class a1, place a2, linked from the class own at i -/
def pv_of (cl : List vw_C) (Ts NW : List Cond) (own : String) (i a1 a2 : Nat) : Prop :=
  ∃ C T N, cl[a1]? = some (C, T, N) ∧ a2 < N ∧ (Cond.fieldLink own i C (T a2).2.1 (T a2).2.2.1 ∈ Ts ∨ ∃ host, Cond.fieldLinkNest own i C (T a2).2.1 (T a2).2.2.1 host ∈ NW)
def pv_kd (ty : FieldType) (v : Value) : Bool := match ty, v with
  | .int, .null => true
  | .boolean, .int _ => true
  | .long, .long _ => true
  | _, _ => false
def pv_ml (Ts NW : List Cond) (own : String) (i : Nat) (y : MethodName) : Prop := Cond.methodLink own i y ∈ Ts ∨ ∃ host, Cond.methodLinkNest own i y host ∈ NW
/-- what the tables must say of an instruction -/
def pv_oi (cl : List vw_C) (tyf : Nat → Nat → FieldType) (Ts NW : List Cond) (mt : Nat → Option pv_M) (own : String) (nL pc len a1 a2 : Nat) (v : Value) (ins : Instr) : Prop := match ins with
  | .iconst n => v = .int (Int32.ofInt n) ∧ len = 1
  | .bipush n => v = .int (Int8.ofInt n).toInt32 ∧ len = 2
  | .sipush n => v = .int (Int16.ofInt n).toInt32 ∧ len = 3
  | .lconst n => v = .long (Int64.ofNat n.val) ∧ len = 1
  | .ldc i => (∃ x, v = .int x ∧ Cond.constant own i x ∈ Ts) ∧ len = 2
  | .ldc2_w i => (∃ x, v = .long x ∧ Cond.constantLong own i x ∈ Ts) ∧ len = 3
  | .iload i => i = a1 ∧ len = 2
  | .iload_n i => i.val = a1 ∧ len = 1
  | .lload i => i = a1 ∧ len = 2
  | .lload_n i => i.val = a1 ∧ len = 1
  | .aload i => i = a1 ∧ len = 2
  | .aload_n i => i.val = a1 ∧ len = 1
  | .istore i => (i = a1 ∧ len = 2) ∧ a1 < nL
  | .istore_n i => (i.val = a1 ∧ len = 1) ∧ a1 < nL
  | .lstore i => (i = a1 ∧ len = 2) ∧ a1 + 1 < nL
  | .lstore_n i => (i.val = a1 ∧ len = 1) ∧ a1 + 1 < nL
  | .iinc i n => ((i = a1 ∧ len = 3) ∧ a1 < nL) ∧ v = .int (Int32.ofInt n)
  | .goto off => (pc : Int) + off = (a1 : Int) ∧ len = 3
  | .ifCond _ off => (pc : Int) + off = (a1 : Int) ∧ len = 3
  | .if_icmp _ off => (pc : Int) + off = (a1 : Int) ∧ len = 3
  | .lookupswitch d ps => ((ps.toList.zip (ps.toList.drop 1)).all (fun (a, next) => a.1 < next.1) = true ∧ 0 ≤ (pc : Int) + d) ∧ ∀ q ∈ ps.toList, (Int32.ofInt q.1).toInt = q.1 ∧ 0 ≤ (pc : Int) + q.2
  | .tableswitch d lo hi offs => (hi + 1 = lo + (offs.size : Int) ∧ 0 ≤ (pc : Int) + d) ∧ ∀ q ∈ pv_tb lo 0 offs.toList, (Int32.ofInt q.1).toInt = q.1 ∧ 0 ≤ (pc : Int) + q.2
  | .getfield i => len = 3 ∧ pv_of cl Ts NW own i a1 a2
  | .putfield i => (len = 3 ∧ pv_of cl Ts NW own i a1 a2) ∧ ((∀ C T N, cl[a1]? = some (C, T, N) → (T a2).2.2.2 = false) ∧ pv_kd (tyf a1 a2) v = true)
  | .invokevirtual i => len = 3 ∧ ∃ x, mt a1 = some x ∧ (x.2.2.2.2.1 = false ∧ a2 = x.2.2.2.2.2.1) ∧ (∃ ci T N, v = .ref ci ∧ cl[ci]? = some (x.1.cls, T, N)) ∧ pv_ml Ts NW own i x.1
  | .invokestatic i => len = 3 ∧ ((a1 = 999 ∧ a2 = 5 ∧ Cond.methodLink own i arraycopyName ∈ Ts ∧ Cond.native arraycopyName ∈ Ts ∧ Cond.static arraycopyName ∈ Ts ∧ Cond.initialized "java/lang/System" ∈ Ts) ∨ (a1 = 998 ∧ a2 = 2 ∧ Cond.methodLink own i Lib.Math.min.name ∈ Ts ∧ Cond.static Lib.Math.min.name ∈ Ts ∧ Cond.initialized "java/lang/Math" ∈ Ts ∧ Cond.code Lib.Math.min.name Lib.Math.min.code 2 (some .int) ∈ Ts) ∨ ((¬ a1 = 999 ∧ ¬ a1 = 998) ∧ ∃ x, mt a1 = some x ∧ (x.2.2.2.2.1 = true ∧ a2 = x.2.2.2.2.2.1) ∧ pv_ml Ts NW own i x.1))
  | _ => len = 1
def pv_rt (rt : Nat) (ret : Option FieldType) : Bool := match rt, ret with
  | 0, some .int => true
  | 1, some .boolean => true
  | 2, some .long => true
  | 3, none => true
  | _, _ => false
section PVS
variable {p : Program} {l : Launch} {e : Env} {R : Room} {s : State} {m : MethodId} {args : Array Value} {below : List Frame} {meth : Method} {c : Code}
variable {cl : List vw_C} {tyf : Nat → Nat → FieldType} {Ts NW : List Cond} {mt : Nat → Option pv_M} {D : va_G} {cA ad : Nat → Nat} {A : Nat → Prop} {H0 : Heap} {n nL : Nat} {own : String} {cc : ByteArray}
/-- the world of a store -/
def pv_Wo (D : va_G) (cl : List vw_C) (cA ad : Nat → Nat) (A : Nat → Prop) (H0 : Heap) (n : Nat) (S : pv_S) (H : Heap) (locs : List Loc) : Prop := S.length = n ∧ va_P D cl (pv_w cA ad 0 S) H ∧ va_S A H0 H locs
theorem pv_swS {k : Nat → Prop} {pc : Nat} {x : Int32} {d : Int} (hd : 0 ≤ (pc : Int) + d) : ∀ (ps : List (Int × Int)), (∀ q ∈ ps, (Int32.ofInt q.1).toInt = q.1 ∧ 0 ≤ (pc : Int) + q.2) → pv_sw k pc x ps d → ∃ tgt : Nat, (pc : Int) + lookupswitch.offset ps d x.toInt = (tgt : Int) ∧ k tgt := by
  intro ps
  induction ps with
  | nil =>
    intro _ h
    exact ⟨((pc : Int) + d).toNat, by show (pc : Int) + d = _; omega, h⟩
  | cons q ps ih =>
    intro hq h
    obtain ⟨a, o⟩ := q
    obtain ⟨h1, h2⟩ := hq (a, o) List.mem_cons_self
    have ih := ih (fun q hq' => hq q (List.mem_cons_of_mem _ hq'))
    rw [lookupswitch.offset_cons]
    by_cases hx : x = Int32.ofInt a
    · have e : a = x.toInt := by rw [hx]; exact h1.symm
      rw [if_pos e]
      exact ⟨((pc : Int) + o).toNat, by dsimp only at h2; omega, h.1 hx⟩
    · have e : ¬ a = x.toInt := fun e => hx (by rw [e]; simp)
      rw [if_neg e]
      exact ih (h.2 hx)
theorem pv_tb_off {lo d k : Int} : ∀ (os : List Int) (i : Nat), lookupswitch.offset (pv_tb lo i os) d k = if k < lo + (i : Int) ∨ lo + (i : Int) + (os.length : Int) ≤ k then d else os.getD (k - lo - (i : Int)).toNat d := by
  intro os
  induction os with
  | nil =>
    intro i
    have : (k < lo + (i : Int) ∨ lo + (i : Int) + (([] : List Int).length : Int) ≤ k) := by simp; omega
    rw [if_pos this]; rfl
  | cons o os ih =>
    intro i
    show lookupswitch.offset ((lo + (i : Int), o) :: pv_tb lo (i + 1) os) d k = _
    rw [lookupswitch.offset_cons, ih (i + 1)]
    simp only [List.length_cons]
    by_cases h1 : lo + (i : Int) = k
    · rw [if_pos h1, if_neg (by omega), show (k - lo - (i : Int)).toNat = 0 by omega]; rfl
    · rw [if_neg h1]
      by_cases h2 : k < lo + (i : Int) ∨ lo + (i : Int) + ((os.length + 1 : Nat) : Int) ≤ k
      · rw [if_pos h2, if_pos (by omega)]
      · rw [if_neg h2, if_neg (by omega), show (k - lo - (i : Int)).toNat = (k - lo - ((i + 1 : Nat) : Int)).toNat + 1 by omega]; rfl
end PVS
