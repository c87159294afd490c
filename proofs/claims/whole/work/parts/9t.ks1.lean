/-! the kids of a node, by its sort -/
theorem sW_st {W : Nat} {so : Nat → Nat} : ∀ (t : Std.Format) (cx : kx_T) (b : Nat), sW W 1 cx t b → soOf so t b → ∀ r ∈ rtL t b, stS (so r)
  | .append x y, cx, b, h, hs, r, hr => by
    rw [sW_1] at h
    have hr : r ∈ rtL x b ++ rtL y (b + sp_z x) := hr
    rcases List.mem_append.mp hr with hr | hr
    · obtain ⟨c, z, rfl, h2⟩ := sW_tag h.1
      have hr : r ∈ [b] := hr
      rw [List.mem_singleton.mp hr, (soOf_t (soOf_l hs)).1]
      exact h2
    · exact sW_st y cx _ h.2 (soOf_r hs) r hr
  | .nil, _, _, _, _, _, hr => (nomatch hr)
  | .line, _, _, _, _, _, hr => (nomatch hr)
  | .tag _ _, _, _, h, _, _, _ => by
    rw [sW.eq_def] at h
    exact h.elim
  | .align _, _, _, _, _, _, hr => (nomatch hr)
  | .text _, _, _, _, _, _, hr => (nomatch hr)
  | .nest _ _, _, _, _, _, _, hr => (nomatch hr)
  | .group _ _, _, _, _, _, _, hr => (nomatch hr)
section KS
variable {V : Nat} {t : Std.Format} {q : Nat}
theorem soOf_kid (hi : q < sp_z t) : soOf (SO t) (XI t q) (q + 1) := fun j c x h => by
  have hj := get_lt h
  rw [cxL_len] at hj
  have k := (in_seg (r := q + 1 + j) hi (by omega) (by unfold EN; omega)).1
  rw [show q + 1 + j - q - 1 = j by omega, h] at k
  have k := Option.some.inj k
  have k3 : CO t (q + 1 + j) = c := (congrArg Prod.fst k).symm
  show sp_s (CO t (q + 1 + j)) = _
  rw [k3]
theorem rt_e {W : Nat} {so : Nat → Nat} {e : Std.Format} (he : eW W e) {b : Nat} (hs : soOf so e b) : rtL e b = [b] ∧ ¬ stS (so b) := by
  obtain ⟨c, x, rfl, -⟩ := eW_tag he
  refine ⟨rfl, ?_⟩
  rw [(soOf_t hs).1]
  exact eW_notS he
theorem rt_s {W : Nat} {so : Nat → Nat} {cx : kx_T} {e : Std.Format} {b : Nat} (he : sW W 0 cx e b) (hs : soOf so e b) : rtL e b = [b] ∧ stS (so b) := by
  obtain ⟨c, x, rfl, h⟩ := sW_tag he
  refine ⟨rfl, ?_⟩
  rw [(soOf_t hs).1]
  exact h
theorem ks_0 (hW : sW V 1 [] t 0) (hq : q < sp_z t) (hs : SO t q = 36 ∨ SO t q = 37 ∨ SO t q = 66 ∨ SO t q = 67) : KI t q = [] := by
  obtain ⟨cx, h, -⟩ := (SH_all hW hq).1 (show stS (SO t q) by unfold stS; omega)
  have e : XI t q = .nil := by
    rcases hs with h1 | h1 | h1 | h1
    · exact ((sW_given (Or.inl h1)).mp h).2
    · exact ((sW_given (Or.inr h1)).mp h).2
    · exact ((sW_jump (Or.inl h1)).mp h).1
    · exact ((sW_jump (Or.inr h1)).mp h).1
  show rtL (XI t q) (q + 1) = []
  rw [e]; rfl
theorem ks_123 (hW : sW V 1 [] t 0) (hq : q < sp_z t) (hs : SO t q = 123) : ∀ r ∈ KI t q, stS (SO t r) := by
  obtain ⟨cx, h, -⟩ := (SH_all hW hq).1 (by rw [show sp_s (CO t q) = 123 from hs]; unfold stS; omega)
  exact sW_st _ _ _ ((sW_123 hs).mp h) (soOf_kid hq)
theorem ks_58 (hW : sW V 1 [] t 0) (hq : q < sp_z t) (hs : SO t q = 58) : ∃ s, KI t q = [s] ∧ stS (SO t s) := by
  obtain ⟨cx, h, -⟩ := (SH_all hW hq).1 (by rw [show sp_s (CO t q) = 58 from hs]; unfold stS; omega)
  obtain ⟨x, e, h1⟩ := (sW_58 hs).mp h
  have hk := soOf_kid hq
  rw [e] at hk
  have r1 := rt_s h1 (soOf_l hk)
  refine ⟨_, ?_, r1.2⟩
  show rtL (XI t q) (q + 1) = _
  rw [e]
  show rtL x (q + 1) ++ [] = _
  rw [r1.1]; rfl
theorem ks_59 (hW : sW V 1 [] t 0) (hq : q < sp_z t) (hs : SO t q = 59) : ∃ s, KI t q = [s] ∧ ¬ stS (SO t s) := by
  obtain ⟨cx, h, -⟩ := (SH_all hW hq).1 (by rw [show sp_s (CO t q) = 59 from hs]; unfold stS; omega)
  obtain ⟨x, e, h1⟩ := (sW_59 hs).mp h
  have hk := soOf_kid hq
  rw [e] at hk
  have r1 := rt_e h1 (soOf_l hk)
  refine ⟨_, ?_, r1.2⟩
  show rtL (XI t q) (q + 1) = _
  rw [e]
  show rtL x (q + 1) ++ [] = _
  rw [r1.1]; rfl
theorem ks_RX (hW : sW V 1 [] t 0) (hq : q < sp_z t) (hs : SO t q = 82 ∨ SO t q = 88) : KI t q = [] ∨ ∃ s, KI t q = [s] ∧ ¬ stS (SO t s) := by
  obtain ⟨cx, h, -⟩ := (SH_all hW hq).1 (show stS (SO t q) by unfold stS; omega)
  rcases (sW_RX hs).mp h with e | ⟨x, e, h1⟩
  · left
    show rtL (XI t q) (q + 1) = []
    rw [e]; rfl
  · have hk := soOf_kid hq
    rw [e] at hk
    have r1 := rt_e h1 (soOf_l hk)
    refine Or.inr ⟨_, ?_, r1.2⟩
    show rtL (XI t q) (q + 1) = _
    rw [e]
    show rtL x (q + 1) ++ [] = _
    rw [r1.1]; rfl
theorem ks_73 (hW : sW V 1 [] t 0) (hq : q < sp_z t) (hs : SO t q = 73) : (∃ e s, KI t q = [e, s] ∧ ¬ stS (SO t e) ∧ stS (SO t s)) ∨ ∃ e s s2, KI t q = [e, s, s2] ∧ ¬ stS (SO t e) ∧ stS (SO t s) ∧ stS (SO t s2) := by
  obtain ⟨cx, h, -⟩ := (SH_all hW hq).1 (by rw [show sp_s (CO t q) = 73 from hs]; unfold stS; omega)
  have hk := soOf_kid hq
  rcases (sW_73 hs).mp h with ⟨x, y, e, h1, h2⟩ | ⟨x, y, z, e, h1, h2, h3⟩
  · rw [e] at hk
    have r1 := rt_e h1 (soOf_l hk)
    have r2 := rt_s h2 (soOf_l (soOf_r hk))
    refine Or.inl ⟨_, _, ?_, r1.2, r2.2⟩
    show rtL (XI t q) (q + 1) = _
    rw [e]
    show rtL x (q + 1) ++ (rtL y (q + 1 + sp_z x) ++ []) = _
    rw [r1.1, r2.1]; rfl
  · rw [e] at hk
    have r1 := rt_e h1 (soOf_l hk)
    have r2 := rt_s h2 (soOf_l (soOf_r hk))
    have r3 := rt_s h3 (soOf_l (soOf_r (soOf_r hk)))
    refine Or.inr ⟨_, _, _, ?_, r1.2, r2.2, r3.2⟩
    show rtL (XI t q) (q + 1) = _
    rw [e]
    show rtL x (q + 1) ++ (rtL y (q + 1 + sp_z x) ++ (rtL z (q + 1 + sp_z x + sp_z y) ++ [])) = _
    rw [r1.1, r2.1, r3.1]; rfl
theorem ks_87 (hW : sW V 1 [] t 0) (hq : q < sp_z t) (hs : SO t q = 87) : ∃ e s, KI t q = [e, s] ∧ ¬ stS (SO t e) ∧ stS (SO t s) := by
  obtain ⟨cx, h, -⟩ := (SH_all hW hq).1 (by rw [show sp_s (CO t q) = 87 from hs]; unfold stS; omega)
  have hk := soOf_kid hq
  obtain ⟨x, y, e, h1, h2⟩ := (sW_87 hs).mp h
  rw [e] at hk
  have r1 := rt_e h1 (soOf_l hk)
  have r2 := rt_s h2 (soOf_l (soOf_r hk))
  refine ⟨_, _, ?_, r1.2, r2.2⟩
  show rtL (XI t q) (q + 1) = _
  rw [e]
  show rtL x (q + 1) ++ (rtL y (q + 1 + sp_z x) ++ []) = _
  rw [r1.1, r2.1]; rfl
theorem ks_68 (hW : sW V 1 [] t 0) (hq : q < sp_z t) (hs : SO t q = 68) : ∃ s e, KI t q = [s, e] ∧ stS (SO t s) ∧ ¬ stS (SO t e) := by
  obtain ⟨cx, h, -⟩ := (SH_all hW hq).1 (by rw [show sp_s (CO t q) = 68 from hs]; unfold stS; omega)
  have hk := soOf_kid hq
  obtain ⟨x, y, e, h1, h2⟩ := (sW_68 hs).mp h
  rw [e] at hk
  have r1 := rt_s h2 (soOf_l hk)
  have r2 := rt_e h1 (soOf_l (soOf_r hk))
  refine ⟨_, _, ?_, r1.2, r2.2⟩
  show rtL (XI t q) (q + 1) = _
  rw [e]
  show rtL y (q + 1) ++ (rtL x (q + 1 + sp_z y) ++ []) = _
  rw [r1.1, r2.1]; rfl
theorem ks_70 (hW : sW V 1 [] t 0) (hq : q < sp_z t) (hs : SO t q = 70) : ∃ e e2 s, KI t q = [e, e2, s] ∧ (¬ stS (SO t e) ∧ ¬ stS (SO t e2)) ∧ stS (SO t s) := by
  obtain ⟨cx, h, -⟩ := (SH_all hW hq).1 (by rw [show sp_s (CO t q) = 70 from hs]; unfold stS; omega)
  have hk := soOf_kid hq
  obtain ⟨x, y, z, e, ⟨h1, h2⟩, h3⟩ := (sW_70 hs).mp h
  rw [e] at hk
  have r1 := rt_e h1 (soOf_l hk)
  have r2 := rt_e h2 (soOf_l (soOf_r hk))
  have r3 := rt_s h3 (soOf_l (soOf_r (soOf_r hk)))
  refine ⟨_, _, _, ?_, ⟨r1.2, r2.2⟩, r3.2⟩
  show rtL (XI t q) (q + 1) = _
  rw [e]
  show rtL x (q + 1) ++ (rtL y (q + 1 + sp_z x) ++ (rtL z (q + 1 + sp_z x + sp_z y) ++ [])) = _
  rw [r1.1, r2.1, r3.1]; rfl
theorem ks_83 (hW : sW V 1 [] t 0) (hq : q < sp_z t) (hs : SO t q = 83) : ∃ e L, KI t q = e :: L ∧ ¬ stS (SO t e) ∧ ∀ r ∈ L, stS (SO t r) := by
  obtain ⟨cx, h, -⟩ := (SH_all hW hq).1 (by rw [show sp_s (CO t q) = 83 from hs]; unfold stS; omega)
  have hk := soOf_kid hq
  obtain ⟨x, y, e, h1, h2⟩ := (sW_83 hs).mp h
  rw [e] at hk
  have r1 := rt_e h1 (soOf_l hk)
  refine ⟨_, rtL y (q + 1 + sp_z x), ?_, r1.2, sW_st _ _ _ h2 (soOf_r hk)⟩
  show rtL (XI t q) (q + 1) = _
  rw [e]
  show rtL x (q + 1) ++ rtL y (q + 1 + sp_z x) = _
  rw [r1.1]; rfl
theorem ks_84 (hW : sW V 1 [] t 0) (hq : q < sp_z t) (hs : SO t q = 84) : ∀ r ∈ KI t q, stS (SO t r) := by
  obtain ⟨cx, h, -⟩ := (SH_all hW hq).1 (by rw [show sp_s (CO t q) = 84 from hs]; unfold stS; omega)
  have hk := soOf_kid hq
  obtain ⟨-, u, v, w, e, -, h1, h2, h3⟩ := (sW_84 hs).mp h
  rw [e] at hk
  intro r hr
  have hr : r ∈ rtL (XI t q) (q + 1) := hr
  rw [e] at hr
  have hr : r ∈ rtL u (q + 1) ++ (rtL v (q + 1 + sp_z u) ++ rtL w (q + 1 + sp_z u + sp_z v)) := hr
  rcases List.mem_append.mp hr with hr | hr
  · exact sW_st _ _ _ h1 (soOf_l hk) r hr
  · rcases List.mem_append.mp hr with hr | hr
    · exact sW_st _ _ _ h2 (soOf_l (soOf_r hk)) r hr
    · exact sW_st _ _ _ h3 (soOf_r (soOf_r hk)) r hr
theorem ks_root (hW : sW V 1 [] t 0) : ∀ r ∈ rtL t 0, stS (SO t r) := sW_st _ _ _ hW soOf_unit
/-- the kinds of e: their kids -/
theorem ks_e (hW : sW V 1 [] t 0) (hq : q < sp_z t) (hs : ¬ stS (SO t q)) :
    ((SO t q = 63 ∧ ∃ x y z, KI t q = [x, y, z] ∧ ¬ stS (SO t x) ∧ ¬ stS (SO t y) ∧ ¬ stS (SO t z)) ∨ ((SO t q = 124 ∨ SO t q = 38) ∧ ∃ x y, KI t q = [x, y] ∧ ¬ stS (SO t x) ∧ ¬ stS (SO t y))) ∨
    ((SO t q = 33 ∨ SO t q = 61) ∧ ∃ x, KI t q = [x] ∧ ¬ stS (SO t x)) ∨ (((97 ≤ SO t q ∧ SO t q ≤ 122) ∨ SO t q = 48 ∨ SO t q = 49 ∨ SO t q = 35) ∧ KI t q = []) := by
  have h := (SH_all hW hq).2 hs
  have hk := soOf_kid hq
  obtain ⟨c, x, e, hc⟩ := eW_tag h
  have e1 : CO t q = c := by cases e; rfl
  have e2 : XI t q = x := by cases e; rfl
  have e3 : SO t q = sp_s c := by show sp_s (CO t q) = _; rw [e1]
  rw [e2] at hk
  rw [e1, e2] at h
  have eK : KI t q = rtL x (q + 1) := by show rtL (XI t q) (q + 1) = _; rw [e2]
  rw [e3, eK]
  rcases hc with ⟨h1, y, z, w, rfl⟩ | ⟨h1, y, z, rfl⟩ | h1 | h1 | h1 | h1
  · have h := (eW_63 h1).mp h
    have r1 := rt_e h.2.1 (soOf_l hk)
    have r2 := rt_e h.2.2.1 (soOf_l (soOf_r hk))
    have r3 := rt_e h.2.2.2 (soOf_r (soOf_r hk))
    refine Or.inl (Or.inl ⟨h1, _, _, _, ?_, r1.2, r2.2, r3.2⟩)
    show rtL y (q + 1) ++ (rtL z (q + 1 + sp_z y) ++ rtL w (q + 1 + sp_z y + sp_z z)) = _
    rw [r1.1, r2.1, r3.1]; rfl
  · have h := (eW_2 h1).mp h
    have r1 := rt_e h.2.1 (soOf_l hk)
    have r2 := rt_e h.2.2 (soOf_r hk)
    refine Or.inl (Or.inr ⟨h1, _, _, ?_, r1.2, r2.2⟩)
    show rtL y (q + 1) ++ rtL z (q + 1 + sp_z y) = _
    rw [r1.1, r2.1]; rfl
  · have h := (eW_33 h1).mp h
    have r1 := rt_e h.2 hk
    exact Or.inr (Or.inl ⟨Or.inl h1, _, r1.1, r1.2⟩)
  · have h := (eW_61 h1).mp h
    have r1 := rt_e h.2 hk
    exact Or.inr (Or.inl ⟨Or.inr h1, _, r1.1, r1.2⟩)
  · have h := (eW_nm h1).mp h
    rw [h.2]
    exact Or.inr (Or.inr ⟨Or.inl h1, rfl⟩)
  · have h := (eW_lf h1).mp h
    rw [h.2]
    exact Or.inr (Or.inr ⟨Or.inr h1, rfl⟩)
end KS
