abbrev kx_T : Type := List (Nat × Nat)
def kxOf : cx_T → kx_T
  | [] => []
  | (i, s, _) :: r => (i, s) :: kxOf r
/-- the shape of a statement's tree (0) and of a list (1) -/
def sW (W : Nat) : Nat → kx_T → Std.Format → Nat → Prop
  | 0, cx, .tag c x, b =>
    if sp_s c = 36 ∨ sp_s c = 37 then (1 ≤ sp_pl c % 16 ∧ sp_pl c % 16 ≤ W) ∧ x = .nil
    else if sp_s c = 123 then sW W 1 ((b, 123) :: cx) x (b + 1)
    else if sp_s c = 58 then (match x with
      | .append t .nil => sW W 0 ((b, 58) :: cx) t (b + 1)
      | _ => False)
    else if sp_s c = 59 then (match x with
      | .append e .nil => eW W e
      | _ => False)
    else if sp_s c = 73 then (match x with
      | .append e (.append t .nil) => eW W e ∧ sW W 0 ((b, 73) :: cx) t (b + 1 + sp_z e)
      | .append e (.append t (.append t2 .nil)) => eW W e ∧ sW W 0 ((b, 73) :: cx) t (b + 1 + sp_z e) ∧ sW W 0 ((b, 73) :: cx) t2 (b + 1 + sp_z e + sp_z t)
      | _ => False)
    else if sp_s c = 87 then (match x with
      | .append e (.append t .nil) => eW W e ∧ sW W 0 ((b, 87) :: cx) t (b + 1 + sp_z e)
      | _ => False)
    else if sp_s c = 68 then (match x with
      | .append t (.append e .nil) => eW W e ∧ sW W 0 ((b, 68) :: cx) t (b + 1)
      | _ => False)
    else if sp_s c = 70 then (match x with
      | .append e (.append e2 (.append t .nil)) => (eW W e ∧ eW W e2) ∧ sW W 0 ((b, 70) :: cx) t (b + 1 + sp_z e + sp_z e2)
      | _ => False)
    else if sp_s c = 83 then (match x with
      | .append e y => eW W e ∧ sW W 1 ((b, 83) :: cx) y (b + 1 + sp_z e)
      | _ => False)
    else if sp_s c = 84 then (1 ≤ sp_pl c ∧ sp_pl c ≤ 3) ∧ (match x with
      | .append u (.append v w) => ((sp_pl c % 2 = 0 → v = .nil) ∧ (sp_pl c / 2 = 0 → w = .nil)) ∧ sW W 1 ((b, 84) :: cx) u (b + 1) ∧ sW W 1 ((b, 84) :: cx) v (b + 1 + sp_z u) ∧ sW W 1 ((b, 84) :: cx) w (b + 1 + sp_z u + sp_z v)
      | _ => False)
    else if sp_s c = 66 ∨ sp_s c = 67 then x = .nil ∧ ∃ i s, (i, s) ∈ cx ∧ sp_pl c = i + 1 ∧ (sp_s c = 67 → is_lp s)
    else (sp_s c = 82 ∨ sp_s c = 88) ∧ (x = .nil ∨ ∃ e, x = .append e .nil ∧ eW W e)
  | 1, cx, .append t y, b => sW W 0 cx t b ∧ sW W 1 cx y (b + sp_z t)
  | 1, _, .nil, _ => True
  | 1, _, .line, _ => True
  | _, _, _, _ => False
section SWI
variable {W b c : Nat} {cx : kx_T} {x : Std.Format}
theorem sW_eq : sW W 0 cx (.tag c x) b = (if sp_s c = 36 ∨ sp_s c = 37 then (1 ≤ sp_pl c % 16 ∧ sp_pl c % 16 ≤ W) ∧ x = .nil
    else if sp_s c = 123 then sW W 1 ((b, 123) :: cx) x (b + 1)
    else if sp_s c = 58 then (match x with
      | .append t .nil => sW W 0 ((b, 58) :: cx) t (b + 1)
      | _ => False)
    else if sp_s c = 59 then (match x with
      | .append e .nil => eW W e
      | _ => False)
    else if sp_s c = 73 then (match x with
      | .append e (.append t .nil) => eW W e ∧ sW W 0 ((b, 73) :: cx) t (b + 1 + sp_z e)
      | .append e (.append t (.append t2 .nil)) => eW W e ∧ sW W 0 ((b, 73) :: cx) t (b + 1 + sp_z e) ∧ sW W 0 ((b, 73) :: cx) t2 (b + 1 + sp_z e + sp_z t)
      | _ => False)
    else if sp_s c = 87 then (match x with
      | .append e (.append t .nil) => eW W e ∧ sW W 0 ((b, 87) :: cx) t (b + 1 + sp_z e)
      | _ => False)
    else if sp_s c = 68 then (match x with
      | .append t (.append e .nil) => eW W e ∧ sW W 0 ((b, 68) :: cx) t (b + 1)
      | _ => False)
    else if sp_s c = 70 then (match x with
      | .append e (.append e2 (.append t .nil)) => (eW W e ∧ eW W e2) ∧ sW W 0 ((b, 70) :: cx) t (b + 1 + sp_z e + sp_z e2)
      | _ => False)
    else if sp_s c = 83 then (match x with
      | .append e y => eW W e ∧ sW W 1 ((b, 83) :: cx) y (b + 1 + sp_z e)
      | _ => False)
    else if sp_s c = 84 then (1 ≤ sp_pl c ∧ sp_pl c ≤ 3) ∧ (match x with
      | .append u (.append v w) => ((sp_pl c % 2 = 0 → v = .nil) ∧ (sp_pl c / 2 = 0 → w = .nil)) ∧ sW W 1 ((b, 84) :: cx) u (b + 1) ∧ sW W 1 ((b, 84) :: cx) v (b + 1 + sp_z u) ∧ sW W 1 ((b, 84) :: cx) w (b + 1 + sp_z u + sp_z v)
      | _ => False)
    else if sp_s c = 66 ∨ sp_s c = 67 then x = .nil ∧ ∃ i s, (i, s) ∈ cx ∧ sp_pl c = i + 1 ∧ (sp_s c = 67 → is_lp s)
    else (sp_s c = 82 ∨ sp_s c = 88) ∧ (x = .nil ∨ ∃ e, x = .append e .nil ∧ eW W e)) := by
  rw [sW.eq_def]; rfl
theorem sW_1 (t y : Std.Format) : sW W 1 cx (.append t y) b = (sW W 0 cx t b ∧ sW W 1 cx y (b + sp_z t)) := by rw [sW.eq_def]; rfl
theorem sW_nil : sW W 1 cx .nil b := by rw [sW.eq_def]; trivial
theorem sW_line : sW W 1 cx .line b := by rw [sW.eq_def]; trivial
end SWI
section SWJ
variable {W b c : Nat} {cx : kx_T} {x : Std.Format}
theorem sW_given (hs : sp_s c = 36 ∨ sp_s c = 37) : sW W 0 cx (.tag c x) b ↔ ((1 ≤ sp_pl c % 16 ∧ sp_pl c % 16 ≤ W) ∧ x = .nil) := by
  rw [sW_eq, if_pos hs]
theorem sW_123 (hs : sp_s c = 123) : sW W 0 cx (.tag c x) b ↔ sW W 1 ((b, 123) :: cx) x (b + 1) := by
  rw [sW_eq, if_neg (by omega), if_pos hs]
theorem sW_58 (hs : sp_s c = 58) : sW W 0 cx (.tag c x) b ↔ ∃ t, x = .append t .nil ∧ sW W 0 ((b, 58) :: cx) t (b + 1) := by
  rw [sW_eq, if_neg (by omega), if_neg (by omega), if_pos hs]
  constructor
  · intro h
    split at h
    · next t => exact ⟨t, rfl, h⟩
    · exact h.elim
  · rintro ⟨t, rfl, h⟩; exact h
theorem sW_59 (hs : sp_s c = 59) : sW W 0 cx (.tag c x) b ↔ ∃ e, x = .append e .nil ∧ eW W e := by
  rw [sW_eq, if_neg (by omega), if_neg (by omega), if_neg (by omega), if_pos hs]
  constructor
  · intro h
    split at h
    · next t => exact ⟨t, rfl, h⟩
    · exact h.elim
  · rintro ⟨t, rfl, h⟩; exact h
theorem sW_73 (hs : sp_s c = 73) : sW W 0 cx (.tag c x) b ↔ (∃ e t, x = .append e (.append t .nil) ∧ eW W e ∧ sW W 0 ((b, 73) :: cx) t (b + 1 + sp_z e)) ∨ ∃ e t t2, x = .append e (.append t (.append t2 .nil)) ∧ eW W e ∧ sW W 0 ((b, 73) :: cx) t (b + 1 + sp_z e) ∧ sW W 0 ((b, 73) :: cx) t2 (b + 1 + sp_z e + sp_z t) := by
  rw [sW_eq, if_neg (by omega), if_neg (by omega), if_neg (by omega), if_neg (by omega), if_pos hs]
  constructor
  · intro h
    split at h
    · next e t => exact Or.inl ⟨e, t, rfl, h⟩
    · next e t t2 => exact Or.inr ⟨e, t, t2, rfl, h⟩
    · exact h.elim
  · rintro (⟨e, t, rfl, h⟩ | ⟨e, t, t2, rfl, h⟩) <;> exact h
theorem sW_87 (hs : sp_s c = 87) : sW W 0 cx (.tag c x) b ↔ ∃ e t, x = .append e (.append t .nil) ∧ eW W e ∧ sW W 0 ((b, 87) :: cx) t (b + 1 + sp_z e) := by
  rw [sW_eq, if_neg (by omega), if_neg (by omega), if_neg (by omega), if_neg (by omega), if_neg (by omega), if_pos hs]
  constructor
  · intro h
    split at h
    · next e t => exact ⟨e, t, rfl, h⟩
    · exact h.elim
  · rintro ⟨e, t, rfl, h⟩; exact h
theorem sW_68 (hs : sp_s c = 68) : sW W 0 cx (.tag c x) b ↔ ∃ e t, x = .append t (.append e .nil) ∧ eW W e ∧ sW W 0 ((b, 68) :: cx) t (b + 1) := by
  rw [sW_eq, if_neg (by omega), if_neg (by omega), if_neg (by omega), if_neg (by omega), if_neg (by omega), if_neg (by omega), if_pos hs]
  constructor
  · intro h
    split at h
    · next t e => exact ⟨e, t, rfl, h⟩
    · exact h.elim
  · rintro ⟨e, t, rfl, h⟩; exact h
theorem sW_70 (hs : sp_s c = 70) : sW W 0 cx (.tag c x) b ↔ ∃ e e2 t, x = .append e (.append e2 (.append t .nil)) ∧ (eW W e ∧ eW W e2) ∧ sW W 0 ((b, 70) :: cx) t (b + 1 + sp_z e + sp_z e2) := by
  rw [sW_eq, if_neg (by omega), if_neg (by omega), if_neg (by omega), if_neg (by omega), if_neg (by omega), if_neg (by omega), if_neg (by omega), if_pos hs]
  constructor
  · intro h
    split at h
    · next e e2 t => exact ⟨e, e2, t, rfl, h⟩
    · exact h.elim
  · rintro ⟨e, e2, t, rfl, h⟩; exact h
theorem sW_83 (hs : sp_s c = 83) : sW W 0 cx (.tag c x) b ↔ ∃ e y, x = .append e y ∧ eW W e ∧ sW W 1 ((b, 83) :: cx) y (b + 1 + sp_z e) := by
  rw [sW_eq, if_neg (by omega), if_neg (by omega), if_neg (by omega), if_neg (by omega), if_neg (by omega), if_neg (by omega), if_neg (by omega), if_neg (by omega), if_pos hs]
  constructor
  · intro h
    split at h
    · next e y => exact ⟨e, y, rfl, h⟩
    · exact h.elim
  · rintro ⟨e, y, rfl, h⟩; exact h
theorem sW_84 (hs : sp_s c = 84) : sW W 0 cx (.tag c x) b ↔ (1 ≤ sp_pl c ∧ sp_pl c ≤ 3) ∧ ∃ u v w, x = .append u (.append v w) ∧ ((sp_pl c % 2 = 0 → v = .nil) ∧ (sp_pl c / 2 = 0 → w = .nil)) ∧ sW W 1 ((b, 84) :: cx) u (b + 1) ∧ sW W 1 ((b, 84) :: cx) v (b + 1 + sp_z u) ∧ sW W 1 ((b, 84) :: cx) w (b + 1 + sp_z u + sp_z v) := by
  rw [sW_eq, if_neg (by omega), if_neg (by omega), if_neg (by omega), if_neg (by omega), if_neg (by omega), if_neg (by omega), if_neg (by omega), if_neg (by omega), if_neg (by omega), if_pos hs]
  constructor
  · rintro ⟨h0, h⟩
    refine ⟨h0, ?_⟩
    split at h
    · next u v w => exact ⟨u, v, w, rfl, h⟩
    · exact h.elim
  · rintro ⟨h0, u, v, w, rfl, h⟩; exact ⟨h0, h⟩
theorem sW_jump (hs : sp_s c = 66 ∨ sp_s c = 67) : sW W 0 cx (.tag c x) b ↔ (x = .nil ∧ ∃ i s, (i, s) ∈ cx ∧ sp_pl c = i + 1 ∧ (sp_s c = 67 → is_lp s)) := by
  rw [sW_eq, if_neg (by omega), if_neg (by omega), if_neg (by omega), if_neg (by omega), if_neg (by omega), if_neg (by omega), if_neg (by omega), if_neg (by omega), if_neg (by omega), if_neg (by omega), if_pos hs]
theorem sW_RX (hs : sp_s c = 82 ∨ sp_s c = 88) : sW W 0 cx (.tag c x) b ↔ (x = .nil ∨ ∃ e, x = .append e .nil ∧ eW W e) := by
  rw [sW_eq, if_neg (by omega), if_neg (by omega), if_neg (by omega), if_neg (by omega), if_neg (by omega), if_neg (by omega), if_neg (by omega), if_neg (by omega), if_neg (by omega), if_neg (by omega), if_neg (by omega)]
  exact ⟨fun h => h.2, fun h => ⟨hs, h⟩⟩
theorem sW_tag {t : Std.Format} (h : sW W 0 cx t b) : ∃ c x, t = .tag c x ∧ stS (sp_s c) := by
  cases t with
  | tag c x =>
    refine ⟨c, x, rfl, ?_⟩
    unfold stS
    rw [sW_eq] at h
    by_cases h1 : sp_s c = 36 ∨ sp_s c = 37
    · omega
    rw [if_neg h1] at h
    by_cases h2 : sp_s c = 123
    · omega
    rw [if_neg h2] at h
    by_cases h3 : sp_s c = 58
    · omega
    rw [if_neg h3] at h
    by_cases h4 : sp_s c = 59
    · omega
    rw [if_neg h4] at h
    by_cases h5 : sp_s c = 73
    · omega
    rw [if_neg h5] at h
    by_cases h6 : sp_s c = 87
    · omega
    rw [if_neg h6] at h
    by_cases h7 : sp_s c = 68
    · omega
    rw [if_neg h7] at h
    by_cases h8 : sp_s c = 70
    · omega
    rw [if_neg h8] at h
    by_cases h9 : sp_s c = 83
    · omega
    rw [if_neg h9] at h
    by_cases h10 : sp_s c = 84
    · omega
    rw [if_neg h10] at h
    by_cases h11 : sp_s c = 66 ∨ sp_s c = 67
    · omega
    rw [if_neg h11] at h
    have := h.1
    omega
  | _ => rw [sW.eq_def] at h; exact h.elim
end SWJ
