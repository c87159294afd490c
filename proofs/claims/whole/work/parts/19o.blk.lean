/-- node r of the reference bears the code c of an e -/
def ndF (a : Nat → Nat → Int32) (r c : Nat) : Prop := (a r_sort r = nI (sp_s c) ∧ a r_first r = nI (sp_f c)) ∧ (a r_variable r = nI (sp_v c) - 1 ∧ a r_isStmt r = 0)
/-- the nodes of a tree lie from b on, in the order of their making; r is the root; around is set but for the root's -/
def Blk (a : Nat → Nat → Int32) : Std.Format → Nat → Nat → Prop
  | .tag c .nil, b, r => r = b ∧ ndF a b c
  | .tag c (.append u (.append v w)), b, r => (r = b + sp_z u ∧ ndF a r c) ∧ ∃ x y z, (Blk a u b x ∧ Blk a v (r + 1) y ∧ Blk a w (r + 1 + sp_z v) z) ∧ (a r_around x = nI r ∧ a r_around y = nI r ∧ a r_around z = nI r)
  | .tag c (.append u v), b, r => (r = b + sp_z u ∧ ndF a r c) ∧ ∃ x y, (Blk a u b x ∧ Blk a v (r + 1) y) ∧ (a r_around x = nI r ∧ a r_around y = nI r)
  | .tag c u, b, r => (r = b ∧ ndF a b c) ∧ ∃ x, Blk a u (b + 1) x ∧ a r_around x = nI b
  | _, _, _ => False
/-- an e's tree as sp_e makes them -/
def sp_ok : Std.Format → Prop
  | .tag _ .nil => True
  | .tag _ (.append u (.append v w)) => sp_ok u ∧ sp_ok v ∧ sp_ok w
  | .tag _ (.append u v) => sp_ok u ∧ sp_ok v
  | .tag _ u => sp_ok u
  | _ => False
theorem Blk_2 {a : Nat → Nat → Int32} {c b r x y : Nat} {u v : Std.Format} (hv : sp_ok v) (h1 : r = b + sp_z u) (h2 : ndF a r c) (h3 : Blk a u b x) (h4 : Blk a v (r + 1) y) (h5 : a r_around x = nI r) (h6 : a r_around y = nI r) : Blk a (.tag c (.append u v)) b r := by
  cases v with
  | tag c' v' => exact ⟨⟨h1, h2⟩, x, y, ⟨h3, h4⟩, h5, h6⟩
  | _ => exact hv.elim
theorem Blk_3 {a : Nat → Nat → Int32} {c b r x y z : Nat} {u v w : Std.Format} (h1 : r = b + sp_z u) (h2 : ndF a r c) (h3 : Blk a u b x) (h4 : Blk a v (r + 1) y) (h4' : Blk a w (r + 1 + sp_z v) z) (h5 : a r_around x = nI r) (h6 : a r_around y = nI r) (h7 : a r_around z = nI r) : Blk a (.tag c (.append u (.append v w))) b r := ⟨⟨h1, h2⟩, x, y, z, ⟨h3, h4, h4'⟩, h5, h6, h7⟩
theorem Blk_1 {a : Nat → Nat → Int32} {c b x : Nat} {u : Std.Format} (hu : sp_ok u) (h2 : ndF a b c) (h3 : Blk a u (b + 1) x) (h5 : a r_around x = nI b) : Blk a (.tag c u) b b := by
  cases u with
  | tag c' u' => exact ⟨⟨rfl, h2⟩, x, h3, h5⟩
  | _ => exact hu.elim
