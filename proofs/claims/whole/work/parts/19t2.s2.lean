theorem sp_e_congr {tx : Nat → Int32} {n : Nat} {nm nm' : Nat → Int32} (h : ∀ u, u < 26 → nm u = nm' u) : ∀ (f g lv p : Nat) (t : Std.Format), sp_e tx n nm f g lv p t = sp_e tx n nm' f g lv p t := by
  have hu : ∀ c : Int32, sp_nm c → nm (c - 97).toNatClampNeg = nm' (c - 97).toNatClampNeg := by
    intro c hc
    obtain ⟨u, hu, -, e, -⟩ := nm_u hc
    rw [e]
    exact h u hu
  intro f
  induction f with
  | zero => intros; rfl
  | succ f ih =>
    intro g lv p t
    have hih : sp_e tx n nm f = sp_e tx n nm' f := by
      funext g lv p t
      exact ih g lv p t
    unfold sp_e
    rw [hih]
    by_cases h1 : sp_nm (sp_c tx n p)
    · rw [hu _ h1]
    · simp only [h1, false_and, if_false]
/-- the names' numbers -/
def scOK : sc_T → Prop
  | [] => True
  | (u, v) :: r => (nmOf r u = -1 ∧ u < 26 ∧ v < 12) ∧ scOK r
theorem nmOf_cases : ∀ (sc : sc_T), scOK sc → ∀ u, nmOf sc u = -1 ∨ ∃ v, v < 12 ∧ nmOf sc u = nI v := by
  intro sc
  induction sc with
  | nil => intro _ u; exact Or.inl rfl
  | cons q r ih =>
    obtain ⟨x, v⟩ := q
    intro h u
    unfold nmOf
    split
    · exact Or.inr ⟨v, h.1.2.2, rfl⟩
    · exact ih h.2 u
def scR (a : Nat → Nat → Int32) : sc_T → Prop
  | [] => True
  | (u, v) :: r => (a r_scope r.length = nI v ∧ a r_nameOf v = nI u) ∧ scR a r
theorem thr_sc {a : Nat → Nat → Int32} : ∀ (sc : sc_T), scR a sc → thr (a r_scope) sc.length = thOf sc := by
  intro sc
  induction sc with
  | nil => intro _; rfl
  | cons q r ih =>
    obtain ⟨x, v⟩ := q
    intro h
    show thr (a r_scope) r.length ||| (1 <<< (a r_scope r.length &&& 31)) = _
    rw [ih h.2, h.1.1]
    rfl
/-- closing brings the names back -/
theorem clz_sc {a : Nat → Nat → Int32} : ∀ (ext sc : sc_T) (f : Nat → Int32), scOK (ext ++ sc) → scR a (ext ++ sc) → (∀ u, u < 26 → f u = nmOf (ext ++ sc) u) → ∀ u, u < 26 → clz (a r_scope) (a r_nameOf) sc.length ext.length f u = nmOf sc u := by
  intro ext
  induction ext with
  | nil => intro sc f _ _ h; exact h
  | cons q r ih =>
    obtain ⟨x, v⟩ := q
    intro sc f hok hr hf u hu
    have hok : (nmOf (r ++ sc) x = -1 ∧ x < 26 ∧ v < 12) ∧ scOK (r ++ sc) := hok
    have hr : (a r_scope (r ++ sc).length = nI v ∧ a r_nameOf v = nI x) ∧ scR a (r ++ sc) := hr
    show clz (a r_scope) (a r_nameOf) sc.length r.length (upd f (a r_nameOf (a r_scope (sc.length + r.length)).toNatClampNeg).toNatClampNeg (-1)) u = _
    have e1 : sc.length + r.length = (r ++ sc).length := by rw [List.length_append]; omega
    rw [e1, hr.1.1, nI_clamp (by omega), hr.1.2, nI_clamp (by omega)]
    refine ih sc _ hok.2 hr.2 (fun w hw => ?_) u hu
    unfold upd
    split
    · next e => rw [e, hok.1.1]
    · next e =>
      rw [hf w hw]
      show (if w = x then nI v else nmOf (r ++ sc) w) = _
      rw [if_neg e]
def cxR (a : Nat → Nat → Int32) (b : Nat) : cx_T → Prop
  | [] => True
  | (i, s, l) :: r => ((a r_open r.length = nI i ∧ i < b) ∧ (a r_sort i = nI s ∧ s < 256) ∧ (a r_label i = nI l - (if l = 0 then 1 else 0) ∧ l < 256)) ∧ cxR a b r
section STX
variable {tx : Nat → Int32} {n : Nat}
theorem st0 (k : Nat) (cx : cx_T) (b p V : Nat) (sc : sc_T) (x : Nat) : st tx n (k + 1) 0 cx b p V sc x = (if 20 ≤ cx.length then .inl p
      else if sp_c tx n p = 36 ∨ sp_c tx n p = 37 then
        if x % 2 = 0 ∨ V = 12 then .inl p
        else if sp_nm (sp_c tx n (sp_x tx n (p + 1))) ∧ nmOf sc (sp_c tx n (sp_x tx n (p + 1)) - 97).toNatClampNeg = -1 then
          st_x tx n 59 (sp_x tx n (sp_x tx n (p + 1) + 1)) fun q => .inr (q, V + 1, ((sp_c tx n (sp_x tx n (p + 1)) - 97).toNatClampNeg, V) :: sc, .tag (sp_n (sp_c tx n p).toNatClampNeg p (2 * (V + 1 + 16 * (sp_c tx n (sp_x tx n (p + 1)) - 97).toNatClampNeg) + x / 2)) .nil)
        else .inl (sp_x tx n (p + 1))
      else if sp_c tx n p = 123 then
        st_b (st tx n k 1 ((b, 123, 0) :: cx) (b + 1) (sp_x tx n (p + 1)) V sc 0) fun q V1 _ t => .inr (q, V1, sc, .tag (sp_n 123 p (x / 2)) t)
      else if sp_lb (sp_c tx n p) then
        if cx_lab cx (sp_c tx n p).toNatClampNeg then .inl p
        else st_x tx n 58 (sp_x tx n (p + 1)) fun q => st_b (st tx n k 0 ((b, 58, (sp_c tx n p).toNatClampNeg) :: cx) (b + 1) q V sc 0) fun q V1 _ t => .inr (q, V1, sc, .tag (sp_n 58 p (x / 2)) (.append t .nil))
      else if sp_c tx n p = 73 then
        st_x tx n 40 (sp_x tx n (p + 1)) fun q => st_eb (st_e tx n sc q) fun q e => st_x tx n 41 q fun q => st_b (st tx n k 0 ((b, 73, 0) :: cx) (b + 1 + sp_z e) q V sc 0) fun q V1 _ t =>
          if sp_c tx n q = 69 then st_b (st tx n k 0 ((b, 73, 0) :: cx) (b + 1 + sp_z e + sp_z t) (sp_x tx n (q + 1)) V1 sc 0) fun q V2 _ t2 => .inr (q, V2, sc, .tag (sp_n 73 p (x / 2)) (.append e (.append t (.append t2 .nil))))
          else .inr (q, V1, sc, .tag (sp_n 73 p (x / 2)) (.append e (.append t .nil)))
      else if sp_c tx n p = 87 then
        st_x tx n 40 (sp_x tx n (p + 1)) fun q => st_eb (st_e tx n sc q) fun q e => st_x tx n 41 q fun q => st_b (st tx n k 0 ((b, 87, 0) :: cx) (b + 1 + sp_z e) q V sc 0) fun q V1 _ t => .inr (q, V1, sc, .tag (sp_n 87 p (x / 2)) (.append e (.append t .nil)))
      else if sp_c tx n p = 68 then
        st_b (st tx n k 0 ((b, 68, 0) :: cx) (b + 1) (sp_x tx n (p + 1)) V sc 0) fun q V1 _ t => st_x tx n 40 q fun q => st_eb (st_e tx n sc q) fun q e => st_x tx n 41 q fun q => st_x tx n 59 q fun q => .inr (q, V1, sc, .tag (sp_n 68 p (x / 2)) (.append t (.append e .nil)))
      else if sp_c tx n p = 70 then
        st_x tx n 40 (sp_x tx n (p + 1)) fun q => st_eb (st_e tx n sc q) fun q e => st_x tx n 59 q fun q => st_eb (st_e tx n sc q) fun q e2 => st_x tx n 41 q fun q => st_b (st tx n k 0 ((b, 70, 0) :: cx) (b + 1 + sp_z e + sp_z e2) q V sc 0) fun q V1 _ t => .inr (q, V1, sc, .tag (sp_n 70 p (x / 2)) (.append e (.append e2 (.append t .nil))))
      else if sp_c tx n p = 83 then
        st_x tx n 40 (sp_x tx n (p + 1)) fun q => st_eb (st_e tx n sc q) fun q e => st_x tx n 41 q fun q => st_x tx n 123 q fun q => st_b (st tx n k 2 ((b, 83, 0) :: cx) (b + 1 + sp_z e) q V sc 1) fun q V1 _ t => .inr (q, V1, sc, .tag (sp_n 83 p (x / 2)) (.append e t))
      else if sp_c tx n p = 84 then
        st_x tx n 123 (sp_x tx n (p + 1)) fun q => st_b (st tx n k 1 ((b, 84, 0) :: cx) (b + 1) q V sc 0) fun q V1 _ t =>
          if sp_c tx n q = 75 then st_x tx n 123 (sp_x tx n (q + 1)) fun q => st_b (st tx n k 1 ((b, 84, 0) :: cx) (b + 1 + sp_z t) q V1 sc 0) fun q V2 _ t2 =>
            if sp_c tx n q = 78 then st_x tx n 123 (sp_x tx n (q + 1)) fun q => st_b (st tx n k 1 ((b, 84, 0) :: cx) (b + 1 + sp_z t + sp_z t2) q V2 sc 0) fun q V3 _ t3 => .inr (q, V3, sc, .tag (sp_n 84 p (2 * 3 + x / 2)) (.append t (.append t2 t3)))
            else .inr (q, V2, sc, .tag (sp_n 84 p (2 * 1 + x / 2)) (.append t (.append t2 .nil)))
          else st_x tx n 78 q fun q => st_x tx n 123 q fun q => st_b (st tx n k 1 ((b, 84, 0) :: cx) (b + 1 + sp_z t) q V1 sc 0) fun q V3 _ t3 => .inr (q, V3, sc, .tag (sp_n 84 p (2 * 2 + x / 2)) (.append t (.append .nil t3)))
      else if sp_c tx n p = 66 ∨ sp_c tx n p = 67 then
        if sp_lb (sp_c tx n (sp_x tx n (p + 1))) then
          if cx_to (sp_c tx n p).toNatClampNeg (sp_c tx n (sp_x tx n (p + 1))).toNatClampNeg 0 cx = 0 then .inl (sp_x tx n (p + 1))
          else st_x tx n 59 (sp_x tx n (sp_x tx n (p + 1) + 1)) fun q => .inr (q, V, sc, .tag (sp_n (sp_c tx n p).toNatClampNeg p (2 * cx_to (sp_c tx n p).toNatClampNeg (sp_c tx n (sp_x tx n (p + 1))).toNatClampNeg 0 cx + x / 2)) .nil)
        else if cx_near (sp_c tx n p).toNatClampNeg cx = 0 then .inl (sp_x tx n (p + 1))
        else st_x tx n 59 (sp_x tx n (p + 1)) fun q => .inr (q, V, sc, .tag (sp_n (sp_c tx n p).toNatClampNeg p (2 * cx_near (sp_c tx n p).toNatClampNeg cx + x / 2)) .nil)
      else if sp_c tx n p = 82 ∨ sp_c tx n p = 88 then
        if sp_c tx n (sp_x tx n (p + 1)) = 59 then .inr (sp_x tx n (sp_x tx n (p + 1) + 1), V, sc, .tag (sp_n (sp_c tx n p).toNatClampNeg p (x / 2)) .nil)
        else st_eb (st_e tx n sc (sp_x tx n (p + 1))) fun q e => st_x tx n 59 q fun q => .inr (q, V, sc, .tag (sp_n (sp_c tx n p).toNatClampNeg p (x / 2)) (.append e .nil))
      else st_eb (st_e tx n sc p) fun q e => st_x tx n 59 q fun q => .inr (q, V, sc, .tag (sp_n 59 p (x / 2)) (.append e .nil))) := rfl
theorem st1 (k : Nat) (cx : cx_T) (b p V : Nat) (sc : sc_T) (x : Nat) : st tx n (k + 1) 1 cx b p V sc x = (if sp_c tx n p = 125 then .inr (sp_x tx n (p + 1), V, sc, .nil)
      else st_b (st tx n k 0 cx b p V sc 1) fun q V1 sc1 t => st_b (st tx n k 1 cx (b + sp_z t) q V1 sc1 0) fun q V2 sc2 t2 => .inr (q, V2, sc2, .append t t2)) := rfl
theorem st2 (k : Nat) (cx : cx_T) (b p V : Nat) (sc : sc_T) (x : Nat) : st tx n (k + 1) 2 cx b p V sc x = (if sp_c tx n p = 125 then .inr (sp_x tx n (p + 1), V, sc, if x / 2 % 2 = 1 ∨ x / 4 = 0 then .line else .nil)
      else if sp_c tx n p = 76 ∨ (sp_c tx n p = 79 ∧ x / 4 = 0) then st_x tx n 58 (sp_x tx n (p + 1)) fun q => st tx n k 2 cx b q V sc (if sp_c tx n p = 79 ∨ ¬ x / 4 = 0 then 6 else 2)
      else if x % 2 = 1 then .inl p
      else st_b (st tx n k 0 cx b p V sc (1 + 2 * (x / 2 % 2))) fun q V1 sc1 t => st_b (st tx n k 2 cx (b + sp_z t) q V1 sc1 (4 * (x / 4))) fun q V2 sc2 t2 => .inr (q, V2, sc2, .append t t2)) := rfl
theorem st3 (k : Nat) (cx : cx_T) (b p V : Nat) (sc : sc_T) (x : Nat) : st tx n (k + 1) 3 cx b p V sc x = (if sp_c tx n p = -1 then .inr (p, V, sc, .nil)
      else st_b (st tx n k 0 cx b p V sc 1) fun q V1 sc1 t => st_b (st tx n k 3 cx (b + sp_z t) q V1 sc1 0) fun q V2 sc2 t2 => .inr (q, V2, sc2, .append t t2)) := rfl
theorem st_b_inr {r : st_R} {f : Nat → Nat → sc_T → Std.Format → st_R} {z : Nat × Nat × sc_T × Std.Format} (h : st_b r f = .inr z) : ∃ q V s t, r = .inr (q, V, s, t) ∧ f q V s t = .inr z := by
  rcases r with q1 | ⟨q1, V, s, u1⟩
  · cases h
  · exact ⟨q1, V, s, u1, rfl, h⟩
theorem st_eb_inr {r : sp_R} {f : Nat → Std.Format → st_R} {z : Nat × Nat × sc_T × Std.Format} (h : st_eb r f = .inr z) : ∃ q t, r = .inr (q, t) ∧ f q t = .inr z := by
  rcases r with q1 | ⟨q1, u1⟩
  · cases h
  · exact ⟨q1, u1, rfl, h⟩
theorem st_x_inr {c : Int32} {p : Nat} {f : Nat → st_R} {z : Nat × Nat × sc_T × Std.Format} (h : st_x tx n c p f = .inr z) : sp_c tx n p = c ∧ f (sp_x tx n (p + 1)) = .inr z := by
  unfold st_x at h
  split at h
  · next e => exact ⟨e, h⟩
  · cases h
theorem st_e_good {sc : sc_T} {p q : Nat} {u : Std.Format} (hp : p ≤ n) (h : st_e tx n sc p = .inr (q, u)) : (p + sp_z u ≤ q ∧ q ≤ n) ∧ (sp_x tx n q = q ∧ sp_ok u) ∧ 1 ≤ sp_z u := by
  obtain ⟨⟨⟨g1, g2⟩, ⟨g3, g4⟩, g5⟩, -⟩ := sp_e_good 2000 0 0 p .nil q u (by omega) hp (by omega) h
  simp only [show ¬ (0 = 5 ∨ 0 = 6) by omega, if_false] at g1 g5
  exact ⟨⟨by omega, g2⟩, ⟨g3, g4⟩, g5.2.2⟩
end STX
