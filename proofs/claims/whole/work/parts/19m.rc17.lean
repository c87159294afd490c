theorem skp_congr {f g : Nat → Int32} (h : ∀ i, (f i = 32 ∨ f i = 10) ↔ (g i = 32 ∨ g i = 10)) : ∀ k p, skp f k p = skp g k p := by
  intro k
  induction k with
  | zero => intro p; rfl
  | succ k ih =>
    intro p
    unfold skp
    by_cases hp : f p = 32 ∨ f p = 10
    · rw [if_pos hp, if_pos ((h p).mp hp), ih]
    · rw [if_neg hp, if_neg (fun q => hp ((h p).mpr q))]
/-- the signs of the reference's row -/
def r_tx (a : Nat → Nat → Int32) : Nat → Int32 := fun i => a r_row i &&& 255
theorem r_blank {b : Int32} (hb : b.toInt8.toInt32 = b) : (b = 32 ∨ b = 10) ↔ (b &&& 255 = 32 ∨ b &&& 255 = 10) := by
  have h1 := sc_eq hb (n := 32) (by decide)
  have h2 := sc_eq hb (n := 10) (by decide)
  have e1 : (nI 32).toInt8.toInt32 = 32 := by decide +kernel
  have e2 : (nI 10).toInt8.toInt32 = 10 := by decide +kernel
  rw [e1] at h1
  rw [e2] at h2
  rw [h1, h2]
  exact Iff.rfl
theorem r_nx_sp {a : Nat → Nat → Int32} (hb : ∀ i, (a r_row i).toInt8.toInt32 = a r_row i) (n p : Nat) : r_nx a n p = sp_x (r_tx a) n p := skp_congr (fun i => r_blank (hb i)) (n - p) p
theorem r_ch_sp (a : Nat → Nat → Int32) (n q : Nat) : r_ch a n q = sp_c (r_tx a) n q := rfl
