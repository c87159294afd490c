abbrev NR : Type := Nat × Std.Format × (Nat × Nat) × Nat × Nat × sc_T × Nat
abbrev nc (r : NR) : Nat := r.1
abbrev nx (r : NR) : Std.Format := r.2.1
abbrev no (r : NR) : Nat := r.2.2.1.1
abbrev noi (r : NR) : Nat := r.2.2.1.2
abbrev nid (r : NR) : Nat := r.2.2.2.1
abbrev npt (r : NR) : Nat := r.2.2.2.2.1
abbrev nsc (r : NR) : sc_T := r.2.2.2.2.2.1
abbrev ndp (r : NR) : Nat := r.2.2.2.2.2.2
/-- the nodes of a forest in the order of the tree: code, what is within, outer node (by order, by the reference's number; 0: none), the reference's number, part, scope, depth -/
def nL : Std.Format → Nat → Nat → Nat → Nat → Nat → sc_T → Nat → List NR
  | .tag c x, b, rb, o, oi, pt, sc, d =>
    if stS (sp_s c) then (c, x, (o, oi), rb, pt, sc, d) :: (if sp_s c = 84 then (match x with
        | .append u (.append v w) => nL u (b + 1) (rb + 1) (b + 1) (rb + 1) 0 sc (d + 1) ++ (nL v (b + 1 + sp_z u) (rb + 1 + sp_z u) (b + 1) (rb + 1) 1 sc (d + 1) ++ nL w (b + 1 + sp_z u + sp_z v) (rb + 1 + sp_z u + sp_z v) (b + 1) (rb + 1) 2 sc (d + 1))
        | _ => [])
      else nL x (b + 1) (rb + 1) (b + 1) (rb + 1) (if sp_s c = 123 then 0 else 9) sc (d + 1))
    else (match x with
      | .append u v => (c, .append u v, (o, oi), rb + sp_z u, pt, sc, d) :: (nL u (b + 1) rb (b + 1) (rb + sp_z u + 1) 9 sc (d + 1) ++ nL v (b + 1 + sp_z u) (rb + sp_z u + 1) (b + 1) (rb + sp_z u + 1) 9 sc (d + 1))
      | x => (c, x, (o, oi), rb, pt, sc, d) :: nL x (b + 1) (rb + 1) (b + 1) (rb + 1) 9 sc (d + 1))
  | .append x y, b, rb, o, oi, pt, sc, d => nL x b rb o oi pt sc d ++ nL y (b + sp_z x) (rb + sp_z x) o oi pt (scA sc x) d
  | _, _, _, _, _, _, _, _ => []
section NL
variable {c b rb o oi pt d : Nat} {sc : sc_T} {x u v w : Std.Format}
theorem nL_S (h : stS (sp_s c)) (h84 : ¬ sp_s c = 84) : nL (.tag c x) b rb o oi pt sc d = (c, x, (o, oi), rb, pt, sc, d) :: nL x (b + 1) (rb + 1) (b + 1) (rb + 1) (if sp_s c = 123 then 0 else 9) sc (d + 1) := by
  rw [nL.eq_def]
  simp only
  rw [if_pos h, if_neg h84]
theorem nL_84 (h84 : sp_s c = 84) : nL (.tag c (.append u (.append v w))) b rb o oi pt sc d = (c, .append u (.append v w), (o, oi), rb, pt, sc, d) :: (nL u (b + 1) (rb + 1) (b + 1) (rb + 1) 0 sc (d + 1) ++ (nL v (b + 1 + sp_z u) (rb + 1 + sp_z u) (b + 1) (rb + 1) 1 sc (d + 1) ++ nL w (b + 1 + sp_z u + sp_z v) (rb + 1 + sp_z u + sp_z v) (b + 1) (rb + 1) 2 sc (d + 1))) := by
  rw [nL.eq_def]
  simp only
  rw [if_pos (by rw [h84]; unfold stS; omega), if_pos h84]
theorem nL_e2 (h : ¬ stS (sp_s c)) : nL (.tag c (.append u v)) b rb o oi pt sc d = (c, .append u v, (o, oi), rb + sp_z u, pt, sc, d) :: (nL u (b + 1) rb (b + 1) (rb + sp_z u + 1) 9 sc (d + 1) ++ nL v (b + 1 + sp_z u) (rb + sp_z u + 1) (b + 1) (rb + sp_z u + 1) 9 sc (d + 1)) := by
  rw [nL.eq_def]
  simp only
  rw [if_neg h]
theorem nL_e1 (h : ¬ stS (sp_s c)) (hx : ¬ ∃ u v, x = .append u v) : nL (.tag c x) b rb o oi pt sc d = (c, x, (o, oi), rb, pt, sc, d) :: nL x (b + 1) (rb + 1) (b + 1) (rb + 1) 9 sc (d + 1) := by
  rw [nL.eq_def]
  simp only
  rw [if_neg h]
  split
  · next u v => exact absurd ⟨u, v, rfl⟩ hx
  · rfl
theorem nL_a : nL (.append u v) b rb o oi pt sc d = nL u b rb o oi pt sc d ++ nL v (b + sp_z u) (rb + sp_z u) o oi pt (scA sc u) d := by
  rw [nL.eq_def]
end NL
/-- which parts a T has -/
def tC (c : Nat) (v w : Std.Format) : Prop := (1 ≤ sp_pl c ∧ sp_pl c ≤ 3) ∧ (sp_pl c % 2 = 0 → v = .nil) ∧ (sp_pl c / 2 = 0 → w = .nil)
/-- forests of statements and e's -/
def fT (V : Nat) : Std.Format → Prop
  | .tag c x => if stS (sp_s c) then ((sp_s c = 84 → ∃ u v w, x = .append u (.append v w) ∧ tC c v w) ∧ fT V x) else eW V (.tag c x)
  | .append x y => fT V x ∧ fT V y
  | .nil => True
  | .line => True
  | _ => False
theorem fT_S {V c : Nat} {x : Std.Format} (h : stS (sp_s c)) : fT V (.tag c x) ↔ ((sp_s c = 84 → ∃ u v w, x = .append u (.append v w) ∧ tC c v w) ∧ fT V x) := by
  rw [fT, if_pos h]
theorem fT_e {V : Nat} {t : Std.Format} (h : eW V t) : fT V t := by
  obtain ⟨c, x, rfl, -⟩ := eW_tag h
  rw [fT, if_neg (eW_notS h)]; exact h
theorem sW_fT {W : Nat} : ∀ (N : Nat) (t : Std.Format), SizeOf.sizeOf t < N → ∀ (g : Nat) (cx : kx_T) (b : Nat), g ≤ 1 → sW W g cx t b → fT W t := by
  intro N
  induction N with
  | zero => intro t ht; omega
  | succ N ih =>
    intro t ht g cx b hg h
    have hgs : g = 0 ∨ g = 1 := by omega
    rcases hgs with rfl | rfl
    · obtain ⟨c, x, rfl, hs⟩ := sW_tag h
      simp at ht
      rw [fT_S hs]
      have hs' := hs
      unfold stS at hs'
      rcases hs' with h1 | h1 | h1 | h1 | h1 | h1 | h1 | h1 | h1 | h1 | h1 | h1 | h1 | h1 | h1
      · have h := (sW_given (Or.inl h1)).mp h
        rw [h.2]; exact ⟨fun q => by omega, trivial⟩
      · have h := (sW_given (Or.inr h1)).mp h
        rw [h.2]; exact ⟨fun q => by omega, trivial⟩
      · exact ⟨fun q => by omega, ih x (by omega) 1 _ _ (by omega) ((sW_123 h1).mp h)⟩
      · obtain ⟨t, rfl, h2⟩ := (sW_58 h1).mp h
        simp at ht
        exact ⟨fun q => by omega, ih t (by omega) 0 _ _ (by omega) h2, trivial⟩
      · obtain ⟨t, rfl, h2⟩ := (sW_59 h1).mp h
        exact ⟨fun q => by omega, fT_e h2, trivial⟩
      · rcases (sW_73 h1).mp h with ⟨e, t, rfl, h2, h3⟩ | ⟨e, t, t2, rfl, h2, h3, h4⟩
        · simp at ht
          exact ⟨fun q => by omega, fT_e h2, ih t (by omega) 0 _ _ (by omega) h3, trivial⟩
        · simp at ht
          exact ⟨fun q => by omega, fT_e h2, ih t (by omega) 0 _ _ (by omega) h3, ih t2 (by omega) 0 _ _ (by omega) h4, trivial⟩
      · obtain ⟨e, t, rfl, h2, h3⟩ := (sW_87 h1).mp h
        simp at ht
        exact ⟨fun q => by omega, fT_e h2, ih t (by omega) 0 _ _ (by omega) h3, trivial⟩
      · obtain ⟨e, t, rfl, h2, h3⟩ := (sW_68 h1).mp h
        simp at ht
        exact ⟨fun q => by omega, ih t (by omega) 0 _ _ (by omega) h3, fT_e h2, trivial⟩
      · obtain ⟨e, e2, t, rfl, ⟨h2, h3⟩, h4⟩ := (sW_70 h1).mp h
        simp at ht
        exact ⟨fun q => by omega, fT_e h2, fT_e h3, ih t (by omega) 0 _ _ (by omega) h4, trivial⟩
      · obtain ⟨e, y, rfl, h2, h3⟩ := (sW_83 h1).mp h
        simp at ht
        exact ⟨fun q => by omega, fT_e h2, ih y (by omega) 1 _ _ (by omega) h3⟩
      · obtain ⟨hp, u, v, w, rfl, hvw, h2, h3, h4⟩ := (sW_84 h1).mp h
        simp at ht
        exact ⟨fun _ => ⟨u, v, w, rfl, hp, hvw⟩, ih u (by omega) 1 _ _ (by omega) h2, ih v (by omega) 1 _ _ (by omega) h3, ih w (by omega) 1 _ _ (by omega) h4⟩
      · have h := (sW_jump (Or.inl h1)).mp h
        rw [h.1]; exact ⟨fun q => by omega, trivial⟩
      · have h := (sW_jump (Or.inr h1)).mp h
        rw [h.1]; exact ⟨fun q => by omega, trivial⟩
      · rcases (sW_RX (Or.inl h1)).mp h with rfl | ⟨e, rfl, h2⟩
        · exact ⟨fun q => by omega, trivial⟩
        · exact ⟨fun q => by omega, fT_e h2, trivial⟩
      · rcases (sW_RX (Or.inr h1)).mp h with rfl | ⟨e, rfl, h2⟩
        · exact ⟨fun q => by omega, trivial⟩
        · exact ⟨fun q => by omega, fT_e h2, trivial⟩
    · cases t with
      | append x y =>
        simp at ht
        rw [sW_1] at h
        exact ⟨ih x (by omega) 0 _ _ (by omega) h.1, ih y (by omega) 1 _ _ (by omega) h.2⟩
      | nil => trivial
      | line => trivial
      | _ => rw [sW.eq_def] at h; exact h.elim
/-- the kinds of e once more, for lists of nodes -/
theorem eW_shape {V : Nat} {c : Nat} {x : Std.Format} (h : eW V (.tag c x)) : ¬ stS (sp_s c) ∧ ((∃ u v, x = .append u v ∧ eW V u ∧ (eW V v ∨ ∃ y z, v = .append y z ∧ eW V y ∧ eW V z)) ∨ ((¬ ∃ u v, x = .append u v) ∧ (x = .nil ∨ eW V x))) := by
  refine ⟨eW_notS h, ?_⟩
  obtain ⟨c', x', e, hk⟩ := eW_tag h
  cases e
  rcases hk with ⟨h1, y, z, w, rfl⟩ | ⟨h1, y, z, rfl⟩ | h1 | h1 | h1 | h1
  · rw [eW_63 h1] at h
    exact Or.inl ⟨_, _, rfl, h.2.1, Or.inr ⟨_, _, rfl, h.2.2.1, h.2.2.2⟩⟩
  · rw [eW_2 h1] at h
    exact Or.inl ⟨_, _, rfl, h.2.1, Or.inl h.2.2⟩
  · rw [eW_33 h1] at h
    obtain ⟨c2, x2, rfl, -⟩ := eW_tag h.2
    exact Or.inr ⟨(by rintro ⟨u, v, e⟩; cases e), Or.inr h.2⟩
  · rw [eW_61 h1] at h
    obtain ⟨c2, x2, rfl, -⟩ := eW_tag h.2
    exact Or.inr ⟨(by rintro ⟨u, v, e⟩; cases e), Or.inr h.2⟩
  · rw [eW_nm h1] at h
    rw [h.2]
    exact Or.inr ⟨(by rintro ⟨u, v, e⟩; cases e), Or.inl rfl⟩
  · rw [eW_lf h1] at h
    rw [h.2]
    exact Or.inr ⟨(by rintro ⟨u, v, e⟩; cases e), Or.inl rfl⟩
/-- a principle for all nodes of a forest -/
theorem fT_ind {V : Nat} {M : Std.Format → Prop}
    (ha : ∀ x y, M x → M y → M (.append x y)) (hn : M .nil) (hl : M .line)
    (hS : ∀ c x, stS (sp_s c) → ¬ sp_s c = 84 → M x → M (.tag c x))
    (h84 : ∀ c u v w, sp_s c = 84 → tC c v w → M u → M v → M w → M (.tag c (.append u (.append v w))))
    (he2 : ∀ c u v, ¬ stS (sp_s c) → eW V (.tag c (.append u v)) → M u → M v → M (.tag c (.append u v)))
    (he1 : ∀ c x, ¬ stS (sp_s c) → eW V (.tag c x) → (¬ ∃ u v, x = .append u v) → M x → M (.tag c x)) : ∀ (N : Nat) (t : Std.Format), SizeOf.sizeOf t < N → fT V t → M t := by
  intro N
  induction N with
  | zero => intro t ht; omega
  | succ N ih =>
    intro t ht h
    cases t with
    | append x y => simp at ht; exact ha x y (ih x (by omega) h.1) (ih y (by omega) h.2)
    | nil => exact hn
    | line => exact hl
    | tag c x =>
      simp at ht
      by_cases hs : stS (sp_s c)
      · rw [fT_S hs] at h
        by_cases h8 : sp_s c = 84
        · obtain ⟨u, v, w, rfl, hvw⟩ := h.1 h8
          simp at ht
          exact h84 c u v w h8 hvw (ih u (by omega) h.2.1) (ih v (by omega) h.2.2.1) (ih w (by omega) h.2.2.2)
        · exact hS c x hs h8 (ih x (by omega) h.2)
      · rw [fT, if_neg hs] at h
        rcases (eW_shape h).2 with ⟨u, v, rfl, h1, h2⟩ | ⟨h1, h2⟩
        · simp at ht
          refine he2 c u v hs h (ih u (by omega) (fT_e h1)) (ih v (by omega) ?_)
          rcases h2 with h2 | ⟨y, z, rfl, h3, h4⟩
          · exact fT_e h2
          · exact ⟨fT_e h3, fT_e h4⟩
        · refine he1 c x hs h h1 (ih x (by omega) ?_)
          rcases h2 with rfl | h2
          · trivial
          · exact fT_e h2
    | _ => exact h.elim
theorem nL_id {V : Nat} {t : Std.Format} (ht : fT V t) : ∀ (b rb o oi pt : Nat) (sc : sc_T) (d : Nat), (nL t b rb o oi pt sc d).map nid = idL t rb := by
  refine fT_ind (V := V) (M := fun t => ∀ (b rb o oi pt : Nat) (sc : sc_T) (d : Nat), (nL t b rb o oi pt sc d).map nid = idL t rb) ?_ ?_ ?_ ?_ ?_ ?_ ?_ _ t (Nat.lt_succ_self _) ht
  · intro x y hx hy b rb o oi pt sc d
    rw [nL_a, idL_a, List.map_append, hx, hy]
  · intro b rb o oi pt sc d; rw [nL.eq_def, idL.eq_def]; rfl
  · intro b rb o oi pt sc d; rw [nL.eq_def, idL.eq_def]; rfl
  · intro c x hs h8 hx b rb o oi pt sc d
    rw [nL_S hs h8, idL_S hs, List.map_cons, hx]
  · intro c u v w h8 _ hu hv hw b rb o oi pt sc d
    rw [nL_84 h8, idL_S (by rw [h8]; unfold stS; omega), List.map_cons, List.map_append, List.map_append, hu, hv, hw, idL_a, idL_a]
  · intro c u v hs _ hu hv b rb o oi pt sc d
    rw [nL_e2 hs, idL_2 hs, List.map_cons, List.map_append, hu, hv]
  · intro c x hs _ hx h b rb o oi pt sc d
    rw [nL_e1 hs hx, idL_1 hx, List.map_cons, h]
theorem nL_len {V : Nat} {t : Std.Format} (ht : fT V t) (b rb o oi pt : Nat) (sc : sc_T) (d : Nat) : (nL t b rb o oi pt sc d).length = sp_z t := by
  have := congrArg List.length (nL_id ht b rb o oi pt sc d)
  rw [List.length_map, idL_len] at this
  exact this
theorem nL_ky {V : Nat} {t : Std.Format} (ht : fT V t) : ∀ (b rb o oi pt : Nat) (sc : sc_T) (d : Nat), (nL t b rb o oi pt sc d).map (fun r => (sp_f (nc r), ndp r)) = kyL t d := by
  refine fT_ind (V := V) (M := fun t => ∀ (b rb o oi pt : Nat) (sc : sc_T) (d : Nat), (nL t b rb o oi pt sc d).map (fun r => (sp_f (nc r), ndp r)) = kyL t d) ?_ ?_ ?_ ?_ ?_ ?_ ?_ _ t (Nat.lt_succ_self _) ht
  · intro x y hx hy b rb o oi pt sc d
    rw [nL_a, List.map_append, hx, hy]; rfl
  · intro b rb o oi pt sc d; rw [nL.eq_def]; rfl
  · intro b rb o oi pt sc d; rw [nL.eq_def]; rfl
  · intro c x hs h8 hx b rb o oi pt sc d
    rw [nL_S hs h8, List.map_cons, hx]; rfl
  · intro c u v w h8 _ hu hv hw b rb o oi pt sc d
    rw [nL_84 h8, List.map_cons, List.map_append, List.map_append, hu, hv, hw]; rfl
  · intro c u v hs _ hu hv b rb o oi pt sc d
    rw [nL_e2 hs, List.map_cons, List.map_append, hu, hv]; rfl
  · intro c x hs _ hx h b rb o oi pt sc d
    rw [nL_e1 hs hx, List.map_cons, h]; rfl
