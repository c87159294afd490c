/-- the place behind blanks, at most k of them -/
def skp (f : Nat → Int32) : Nat → Nat → Nat
  | 0, p => p
  | k + 1, p => if f p = 32 ∨ f p = 10 then skp f k (p + 1) else p
/-! THE SPEC of reading an e: over the signs tx (0 .. 255) of a text of n signs and the names nm (NAME number to VARIABLE, -1: none); nodes are .tag code forest -/
def sp_x (tx : Nat → Int32) (n p : Nat) : Nat := skp tx (n - p) p
def sp_c (tx : Nat → Int32) (n q : Nat) : Int32 := if q < n then tx q else -1
abbrev sp_R : Type := Nat ⊕ (Nat × Std.Format)
def sp_b (r : sp_R) (f : Nat → Std.Format → sp_R) : sp_R := match r with
  | .inl q => .inl q
  | .inr (p, t) => f p t
/-- a node's code: its sort, its first sign, its VARIABLE + 1 -/
def sp_n (s f v : Nat) : Nat := s + 256 * f + 65536 * v
def sp_s (c : Nat) : Nat := c % 256
def sp_f (c : Nat) : Nat := c / 256 % 256
def sp_v (c : Nat) : Nat := c / 65536
def sp_1 (t : Std.Format) : Nat := match t with
  | .tag c _ => sp_f c
  | _ => 0
/-- how many nodes -/
def sp_z : Std.Format → Nat
  | .tag _ x => sp_z x + 1
  | .append x y => sp_z x + sp_z y
  | _ => 0
abbrev sp_nm (c : Int32) : Prop := 97 ≤ c ∧ c ≤ 122
/-- tags: 0 e, 1 cond, 2 or, 3 and, 4 unary; 5, 6: or, and, with their left side read. p is the place of a sign (or n) -/
def sp_e (tx : Nat → Int32) (n : Nat) (nm : Nat → Int32) : Nat → Nat → Nat → Nat → Std.Format → sp_R
  | 0, _, _, p, _ => .inl p
  | k + 1, g, lv, p, t =>
    if g = 0 then
      if 30 ≤ lv then .inl p
      else if sp_nm (sp_c tx n p) ∧ sp_c tx n (sp_x tx n (p + 1)) = 61 then
        if nm (sp_c tx n p - 97).toNatClampNeg = -1 then .inl p
        else sp_b (sp_e tx n nm k 0 (lv + 1) (sp_x tx n (sp_x tx n (p + 1) + 1)) .nil) fun q u => .inr (q, .tag (sp_n 61 p ((nm (sp_c tx n p - 97).toNatClampNeg).toNatClampNeg + 1)) u)
      else sp_e tx n nm k 1 lv p .nil
    else if g = 1 then
      if 30 ≤ lv then .inl p
      else sp_b (sp_e tx n nm k 2 lv p .nil) fun q u =>
        if sp_c tx n q = 63 then sp_b (sp_e tx n nm k 0 (lv + 1) (sp_x tx n (q + 1)) .nil) fun q2 u2 =>
          if sp_c tx n q2 = 58 then sp_b (sp_e tx n nm k 1 (lv + 1) (sp_x tx n (q2 + 1)) .nil) fun q3 u3 => .inr (q3, .tag (sp_n 63 (sp_1 u) 0) (.append u (.append u2 u3)))
          else .inl q2
        else .inr (q, u)
    else if g = 2 then sp_b (sp_e tx n nm k 3 lv p .nil) fun q u => sp_e tx n nm k 5 lv q u
    else if g = 5 then
      if sp_c tx n p = 124 then sp_b (sp_e tx n nm k 3 lv (sp_x tx n (p + 1)) .nil) fun q u => sp_e tx n nm k 5 lv q (.tag (sp_n 124 (sp_1 t) 0) (.append t u))
      else .inr (p, t)
    else if g = 3 then sp_b (sp_e tx n nm k 4 lv p .nil) fun q u => sp_e tx n nm k 6 lv q u
    else if g = 6 then
      if sp_c tx n p = 38 then sp_b (sp_e tx n nm k 4 lv (sp_x tx n (p + 1)) .nil) fun q u => sp_e tx n nm k 6 lv q (.tag (sp_n 38 (sp_1 t) 0) (.append t u))
      else .inr (p, t)
    else
      if 30 ≤ lv then .inl p
      else if sp_c tx n p = 40 then sp_b (sp_e tx n nm k 0 (lv + 1) (sp_x tx n (p + 1)) .nil) fun q u => if sp_c tx n q = 41 then .inr (sp_x tx n (q + 1), u) else .inl q
      else if sp_c tx n p = 33 then sp_b (sp_e tx n nm k 4 (lv + 1) (sp_x tx n (p + 1)) .nil) fun q u => .inr (q, .tag (sp_n 33 p 0) u)
      else if sp_nm (sp_c tx n p) then
        if nm (sp_c tx n p - 97).toNatClampNeg = -1 then .inl p
        else .inr (sp_x tx n (p + 1), .tag (sp_n (sp_c tx n p).toNatClampNeg p ((nm (sp_c tx n p - 97).toNatClampNeg).toNatClampNeg + 1)) .nil)
      else if sp_c tx n p = 48 ∨ sp_c tx n p = 49 ∨ sp_c tx n p = 35 then .inr (sp_x tx n (p + 1), .tag (sp_n (sp_c tx n p).toNatClampNeg p 0) .nil)
      else .inl p
