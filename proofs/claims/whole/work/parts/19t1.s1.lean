/-! THE SPEC of reading statements: sc: the variables that are there, (name, number), the newest first; cx: the statements around, (node, sort, label), the innermost first -/
abbrev sc_T : Type := List (Nat × Nat)
abbrev cx_T : Type := List (Nat × Nat × Nat)
abbrev st_R : Type := Nat ⊕ (Nat × Nat × sc_T × Std.Format)
def nmOf : sc_T → Nat → Int32
  | [], _ => -1
  | (u, v) :: r, x => if x = u then nI v else nmOf r x
def thOf : sc_T → Int32
  | [] => 0
  | (_, v) :: r => thOf r ||| (1 <<< (nI v &&& 31))
def st_b (r : st_R) (f : Nat → Nat → sc_T → Std.Format → st_R) : st_R := match r with
  | .inl q => .inl q
  | .inr (q, V, s, t) => f q V s t
def st_eb (r : sp_R) (f : Nat → Std.Format → st_R) : st_R := match r with
  | .inl q => .inl q
  | .inr (q, t) => f q t
def st_x (tx : Nat → Int32) (n : Nat) (c : Int32) (p : Nat) (f : Nat → st_R) : st_R := if sp_c tx n p = c then f (sp_x tx n (p + 1)) else .inl p
abbrev st_e (tx : Nat → Int32) (n : Nat) (sc : sc_T) (p : Nat) : sp_R := sp_e tx n (nmOf sc) 2000 0 0 p .nil
def cx_lb : cx_T → Nat → Bool
  | [], _ => false
  | (_, _, m) :: r, l => Nat.beq m l || cx_lb r l
abbrev cx_lab (cx : cx_T) (l : Nat) : Prop := cx_lb cx l = true
theorem cx_lab_cons (i s m : Nat) (r : cx_T) (l : Nat) : cx_lab ((i, s, m) :: r) l ↔ (m = l ∨ cx_lab r l) := by
  unfold cx_lab
  show (Nat.beq m l || cx_lb r l) = true ↔ _
  rw [Bool.or_eq_true, Nat.beq_eq]
abbrev is_lp (s : Nat) : Prop := s = 87 ∨ s = 68 ∨ s = 70
/-- the nearest one to which B (j = 66), C go; its node + 1; 0: none -/
def cx_near (j : Nat) : cx_T → Nat
  | [] => 0
  | (i, s, _) :: r => if is_lp s ∨ (j = 66 ∧ s = 83) then i + 1 else cx_near j r
/-- the one with the label (j = 66), or the loop that is its body -/
def cx_to (j l : Nat) : Nat → cx_T → Nat
  | _, [] => 0
  | w, (i, s, m) :: r => if m = l then (if j = 66 then i + 1 else w) else cx_to j l (if is_lp s then i + 1 else 0) r
abbrev sp_lb (c : Int32) : Prop := 50 ≤ c ∧ c ≤ 57
/-- tags: 0 a stmt (x: 1 it may give a variable, + 2 it is entered), 1 stmts up to }, 2 items (x: 1 the first one, + 2 entered, + 4 an O was there), 3 stmts up to the end -/
def st (tx : Nat → Int32) (n : Nat) : Nat → Nat → cx_T → Nat → Nat → Nat → sc_T → Nat → st_R
  | 0, _, _, _, p, _, _, _ => .inl p
  | k + 1, g, cx, b, p, V, sc, x =>
    if g = 0 then
      if 20 ≤ cx.length then .inl p
      else if sp_c tx n p = 36 ∨ sp_c tx n p = 37 then
        if x % 2 = 0 ∨ V = 12 then .inl p
        else if sp_nm (sp_c tx n (sp_x tx n (p + 1))) ∧ nmOf sc (sp_c tx n (sp_x tx n (p + 1)) - 97).toNatClampNeg = -1 then
          st_x tx n 59 (sp_x tx n (sp_x tx n (p + 1) + 1)) fun q => .inr (q, V + 1, ((sp_c tx n (sp_x tx n (p + 1)) - 97).toNatClampNeg, V) :: sc, .tag (sp_n (sp_c tx n p).toNatClampNeg p (2 * (V + 1 + 16 * (sp_c tx n (sp_x tx n (p + 1)) - 97).toNatClampNeg) + x / 2)) .nil)
        else .inl (sp_x tx n (p + 1))
      else if sp_c tx n p = 123 then
        st_b (st tx n k 1 ((b, 123, 0) :: cx) (b + 1) (sp_x tx n (p + 1)) V sc 0) fun q V1 _ t => .inr (q, V1, sc, .tag (sp_n 123 p (x / 2)) t)
      else if sp_lb (sp_c tx n p) then
        if cx_lab cx (sp_c tx n p).toNatClampNeg then .inl p
        else st_x tx n 58 (sp_x tx n (p + 1)) fun q => st_b (st tx n k 0 ((b, 58, (sp_c tx n p).toNatClampNeg) :: cx) (b + 1) q V sc 0) fun q V1 _ t => .inr (q, V1, sc, .tag (sp_n 58 p (x / 2)) (.append t .nil))
      else if sp_c tx n p = 73 then
        st_x tx n 40 (sp_x tx n (p + 1)) fun q => st_eb (st_e tx n sc q) fun q e => st_x tx n 41 q fun q => st_b (st tx n k 0 ((b, 73, 0) :: cx) (b + 1 + sp_z e) q V sc 0) fun q V1 _ t =>
          if sp_c tx n q = 69 then st_b (st tx n k 0 ((b, 73, 0) :: cx) (b + 1 + sp_z e + sp_z t) (sp_x tx n (q + 1)) V1 sc 0) fun q V2 _ t2 => .inr (q, V2, sc, .tag (sp_n 73 p (x / 2)) (.append e (.append t (.append t2 .nil))))
          else .inr (q, V1, sc, .tag (sp_n 73 p (x / 2)) (.append e (.append t .nil)))
      else if sp_c tx n p = 87 then
        st_x tx n 40 (sp_x tx n (p + 1)) fun q => st_eb (st_e tx n sc q) fun q e => st_x tx n 41 q fun q => st_b (st tx n k 0 ((b, 87, 0) :: cx) (b + 1 + sp_z e) q V sc 0) fun q V1 _ t => .inr (q, V1, sc, .tag (sp_n 87 p (x / 2)) (.append e (.append t .nil)))
      else if sp_c tx n p = 68 then
        st_b (st tx n k 0 ((b, 68, 0) :: cx) (b + 1) (sp_x tx n (p + 1)) V sc 0) fun q V1 _ t => st_x tx n 40 q fun q => st_eb (st_e tx n sc q) fun q e => st_x tx n 41 q fun q => st_x tx n 59 q fun q => .inr (q, V1, sc, .tag (sp_n 68 p (x / 2)) (.append t (.append e .nil)))
      else if sp_c tx n p = 70 then
        st_x tx n 40 (sp_x tx n (p + 1)) fun q => st_eb (st_e tx n sc q) fun q e => st_x tx n 59 q fun q => st_eb (st_e tx n sc q) fun q e2 => st_x tx n 41 q fun q => st_b (st tx n k 0 ((b, 70, 0) :: cx) (b + 1 + sp_z e + sp_z e2) q V sc 0) fun q V1 _ t => .inr (q, V1, sc, .tag (sp_n 70 p (x / 2)) (.append e (.append e2 (.append t .nil))))
      else if sp_c tx n p = 83 then
        st_x tx n 40 (sp_x tx n (p + 1)) fun q => st_eb (st_e tx n sc q) fun q e => st_x tx n 41 q fun q => st_x tx n 123 q fun q => st_b (st tx n k 2 ((b, 83, 0) :: cx) (b + 1 + sp_z e) q V sc 1) fun q V1 _ t => .inr (q, V1, sc, .tag (sp_n 83 p (x / 2)) (.append e t))
      else if sp_c tx n p = 84 then
        st_x tx n 123 (sp_x tx n (p + 1)) fun q => st_b (st tx n k 1 ((b, 84, 0) :: cx) (b + 1) q V sc 0) fun q V1 _ t =>
          if sp_c tx n q = 75 then st_x tx n 123 (sp_x tx n (q + 1)) fun q => st_b (st tx n k 1 ((b, 84, 0) :: cx) (b + 1 + sp_z t) q V1 sc 0) fun q V2 _ t2 =>
            if sp_c tx n q = 78 then st_x tx n 123 (sp_x tx n (q + 1)) fun q => st_b (st tx n k 1 ((b, 84, 0) :: cx) (b + 1 + sp_z t + sp_z t2) q V2 sc 0) fun q V3 _ t3 => .inr (q, V3, sc, .tag (sp_n 84 p (2 * 3 + x / 2)) (.append t (.append t2 t3)))
            else .inr (q, V2, sc, .tag (sp_n 84 p (2 * 1 + x / 2)) (.append t (.append t2 .nil)))
          else st_x tx n 78 q fun q => st_x tx n 123 q fun q => st_b (st tx n k 1 ((b, 84, 0) :: cx) (b + 1 + sp_z t) q V1 sc 0) fun q V3 _ t3 => .inr (q, V3, sc, .tag (sp_n 84 p (2 * 2 + x / 2)) (.append t (.append .nil t3)))
      else if sp_c tx n p = 66 ∨ sp_c tx n p = 67 then
        if sp_lb (sp_c tx n (sp_x tx n (p + 1))) then
          if cx_to (sp_c tx n p).toNatClampNeg (sp_c tx n (sp_x tx n (p + 1))).toNatClampNeg 0 cx = 0 then .inl (sp_x tx n (p + 1))
          else st_x tx n 59 (sp_x tx n (sp_x tx n (p + 1) + 1)) fun q => .inr (q, V, sc, .tag (sp_n (sp_c tx n p).toNatClampNeg p (2 * cx_to (sp_c tx n p).toNatClampNeg (sp_c tx n (sp_x tx n (p + 1))).toNatClampNeg 0 cx + x / 2)) .nil)
        else if cx_near (sp_c tx n p).toNatClampNeg cx = 0 then .inl (sp_x tx n (p + 1))
        else st_x tx n 59 (sp_x tx n (p + 1)) fun q => .inr (q, V, sc, .tag (sp_n (sp_c tx n p).toNatClampNeg p (2 * cx_near (sp_c tx n p).toNatClampNeg cx + x / 2)) .nil)
      else if sp_c tx n p = 82 ∨ sp_c tx n p = 88 then
        if sp_c tx n (sp_x tx n (p + 1)) = 59 then .inr (sp_x tx n (sp_x tx n (p + 1) + 1), V, sc, .tag (sp_n (sp_c tx n p).toNatClampNeg p (x / 2)) .nil)
        else st_eb (st_e tx n sc (sp_x tx n (p + 1))) fun q e => st_x tx n 59 q fun q => .inr (q, V, sc, .tag (sp_n (sp_c tx n p).toNatClampNeg p (x / 2)) (.append e .nil))
      else st_eb (st_e tx n sc p) fun q e => st_x tx n 59 q fun q => .inr (q, V, sc, .tag (sp_n 59 p (x / 2)) (.append e .nil))
    else if g = 1 then
      if sp_c tx n p = 125 then .inr (sp_x tx n (p + 1), V, sc, .nil)
      else st_b (st tx n k 0 cx b p V sc 1) fun q V1 sc1 t => st_b (st tx n k 1 cx (b + sp_z t) q V1 sc1 0) fun q V2 sc2 t2 => .inr (q, V2, sc2, .append t t2)
    else if g = 2 then
      if sp_c tx n p = 125 then .inr (sp_x tx n (p + 1), V, sc, if x / 2 % 2 = 1 ∨ x / 4 = 0 then .line else .nil)
      else if sp_c tx n p = 76 ∨ (sp_c tx n p = 79 ∧ x / 4 = 0) then st_x tx n 58 (sp_x tx n (p + 1)) fun q => st tx n k 2 cx b q V sc (if sp_c tx n p = 79 ∨ ¬ x / 4 = 0 then 6 else 2)
      else if x % 2 = 1 then .inl p
      else st_b (st tx n k 0 cx b p V sc (1 + 2 * (x / 2 % 2))) fun q V1 sc1 t => st_b (st tx n k 2 cx (b + sp_z t) q V1 sc1 (4 * (x / 4))) fun q V2 sc2 t2 => .inr (q, V2, sc2, .append t t2)
    else
      if sp_c tx n p = -1 then .inr (p, V, sc, .nil)
      else st_b (st tx n k 0 cx b p V sc 1) fun q V1 sc1 t => st_b (st tx n k 3 cx (b + sp_z t) q V1 sc1 0) fun q V2 sc2 t2 => .inr (q, V2, sc2, .append t t2)
