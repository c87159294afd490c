theorem sp_z_t (c : Nat) (x : Std.Format) : sp_z (.tag c x) = sp_z x + 1 := rfl
theorem sp_z_a (x y : Std.Format) : sp_z (.append x y) = sp_z x + sp_z y := rfl
section SHP
variable {W : Nat} {so en : Nat → Nat}
theorem anc_kid {cx : kx_T} {b c b' z' : Nat} {x : Std.Format} (ha : ancK so en cx b (sp_z (.tag c x))) (h1 : so b = sp_s c) (h2 : en b = b + 1 + sp_z x) (h3 : b < b') (h4 : b' + z' ≤ b + 1 + sp_z x) {s : Nat} (hs : sp_s c = s) : ancK so en ((b, s) :: cx) b' z' := by
  rw [sp_z_t] at ha
  exact ancK_in ha h3 (by omega) (by omega) (by rw [h1, hs])
theorem M0S_all {t : Std.Format} {cx : kx_T} {b : Nat} : (sW W 0 cx t b → sW W 0 cx t b ∧ M0S W so en cx t b) ∧ (sW W 1 cx t b → sW W 1 cx t b ∧ M0S W so en cx t b) := by
  refine sW_ind (M0 := fun cx t b => sW W 0 cx t b ∧ M0S W so en cx t b) (M1 := fun cx t b => sW W 1 cx t b ∧ M0S W so en cx t b) ?_ ?_ ?_ ?_ ?_ ?_ ?_ ?_ ?_ ?_ ?_ ?_ ?_ ?_ ?_ ?_ ?_ _ t (Nat.lt_succ_self _) cx b
  · intro cx c b hs hv
    have h0 := (sW_given (W := W) (cx := cx) (b := b) (x := .nil) hs).mpr ⟨hv, rfl⟩
    exact ⟨h0, fun so1 en1 ha => shN_tag h0 ha shN_nil⟩
  · intro cx c x b hs hx
    have h0 := (sW_123 (W := W) (cx := cx) (b := b) (x := x) hs).mpr hx.1
    refine ⟨h0, fun so1 en1 ha => shN_tag h0 ha (hx.2 (soOf_t so1).2 (enOf_t en1).2 ?_)⟩
    exact anc_kid ha (soOf_t so1).1 (enOf_t en1).1 (by omega) (by omega) hs
  · intro cx c t b hs hx
    have h0 := (sW_58 (W := W) (cx := cx) (b := b) hs).mpr ⟨t, rfl, hx.1⟩
    refine ⟨h0, fun so1 en1 ha => shN_tag h0 ha (shN_app (hx.2 (soOf_l (soOf_t so1).2) (enOf_l (enOf_t en1).2) ?_) shN_nil)⟩
    exact anc_kid ha (soOf_t so1).1 (enOf_t en1).1 (by omega) (by rw [sp_z_a]; omega) hs
  · intro cx c e b hs he
    have h0 := (sW_59 (W := W) (cx := cx) (b := b) hs).mpr ⟨e, rfl, he⟩
    exact ⟨h0, fun so1 en1 ha => shN_tag h0 ha (shN_app (shN_e he _) shN_nil)⟩
  · intro cx c e t b hs he ht
    have h0 := (sW_73 (W := W) (cx := cx) (b := b) hs).mpr (Or.inl ⟨e, t, rfl, he, ht.1⟩)
    refine ⟨h0, fun so1 en1 ha => shN_tag h0 ha (shN_app (shN_e he _) (shN_app (ht.2 (soOf_l (soOf_r (soOf_t so1).2)) (enOf_l (enOf_r (enOf_t en1).2)) ?_) shN_nil))⟩
    exact anc_kid ha (soOf_t so1).1 (enOf_t en1).1 (by omega) (by rw [sp_z_a, sp_z_a]; omega) hs
  · intro cx c e t t2 b hs he ht ht2
    have h0 := (sW_73 (W := W) (cx := cx) (b := b) hs).mpr (Or.inr ⟨e, t, t2, rfl, he, ht.1, ht2.1⟩)
    refine ⟨h0, fun so1 en1 ha => shN_tag h0 ha (shN_app (shN_e he _) (shN_app (ht.2 (soOf_l (soOf_r (soOf_t so1).2)) (enOf_l (enOf_r (enOf_t en1).2)) ?_) (shN_app (ht2.2 (soOf_l (soOf_r (soOf_r (soOf_t so1).2))) (enOf_l (enOf_r (enOf_r (enOf_t en1).2))) ?_) shN_nil)))⟩
    · exact anc_kid ha (soOf_t so1).1 (enOf_t en1).1 (by omega) (by rw [sp_z_a, sp_z_a]; omega) hs
    · exact anc_kid ha (soOf_t so1).1 (enOf_t en1).1 (by omega) (by rw [sp_z_a, sp_z_a, sp_z_a]; omega) hs
  · intro cx c e t b hs he ht
    have h0 := (sW_87 (W := W) (cx := cx) (b := b) hs).mpr ⟨e, t, rfl, he, ht.1⟩
    refine ⟨h0, fun so1 en1 ha => shN_tag h0 ha (shN_app (shN_e he _) (shN_app (ht.2 (soOf_l (soOf_r (soOf_t so1).2)) (enOf_l (enOf_r (enOf_t en1).2)) ?_) shN_nil))⟩
    exact anc_kid ha (soOf_t so1).1 (enOf_t en1).1 (by omega) (by rw [sp_z_a, sp_z_a]; omega) hs
  · intro cx c e t b hs he ht
    have h0 := (sW_68 (W := W) (cx := cx) (b := b) hs).mpr ⟨e, t, rfl, he, ht.1⟩
    refine ⟨h0, fun so1 en1 ha => shN_tag h0 ha (shN_app (ht.2 (soOf_l (soOf_t so1).2) (enOf_l (enOf_t en1).2) ?_) (shN_app (shN_e he _) shN_nil))⟩
    exact anc_kid ha (soOf_t so1).1 (enOf_t en1).1 (by omega) (by rw [sp_z_a]; omega) hs
  · intro cx c e e2 t b hs he he2 ht
    have h0 := (sW_70 (W := W) (cx := cx) (b := b) hs).mpr ⟨e, e2, t, rfl, ⟨he, he2⟩, ht.1⟩
    refine ⟨h0, fun so1 en1 ha => shN_tag h0 ha (shN_app (shN_e he _) (shN_app (shN_e he2 _) (shN_app (ht.2 (soOf_l (soOf_r (soOf_r (soOf_t so1).2))) (enOf_l (enOf_r (enOf_r (enOf_t en1).2))) ?_) shN_nil)))⟩
    exact anc_kid ha (soOf_t so1).1 (enOf_t en1).1 (by omega) (by rw [sp_z_a, sp_z_a, sp_z_a]; omega) hs
  · intro cx c e y b hs he hy
    have h0 := (sW_83 (W := W) (cx := cx) (b := b) hs).mpr ⟨e, y, rfl, he, hy.1⟩
    refine ⟨h0, fun so1 en1 ha => shN_tag h0 ha (shN_app (shN_e he _) (hy.2 (soOf_r (soOf_t so1).2) (enOf_r (enOf_t en1).2) ?_))⟩
    exact anc_kid ha (soOf_t so1).1 (enOf_t en1).1 (by omega) (by rw [sp_z_a]; omega) hs
  · intro cx c u v w b hs htc hu hv hw
    have h0 := (sW_84 (W := W) (cx := cx) (b := b) hs).mpr ⟨htc.1, u, v, w, rfl, htc.2, hu.1, hv.1, hw.1⟩
    refine ⟨h0, fun so1 en1 ha => shN_tag h0 ha (shN_app (hu.2 (soOf_l (soOf_t so1).2) (enOf_l (enOf_t en1).2) ?_) (shN_app (hv.2 (soOf_l (soOf_r (soOf_t so1).2)) (enOf_l (enOf_r (enOf_t en1).2)) ?_) (hw.2 (soOf_r (soOf_r (soOf_t so1).2)) (enOf_r (enOf_r (enOf_t en1).2)) ?_)))⟩
    · exact anc_kid ha (soOf_t so1).1 (enOf_t en1).1 (by omega) (by rw [sp_z_a]; omega) hs
    · exact anc_kid ha (soOf_t so1).1 (enOf_t en1).1 (by omega) (by rw [sp_z_a, sp_z_a]; omega) hs
    · exact anc_kid ha (soOf_t so1).1 (enOf_t en1).1 (by omega) (by rw [sp_z_a, sp_z_a]; omega) hs
  · intro cx c b hs hj
    have h0 := (sW_jump (W := W) (cx := cx) (b := b) (x := .nil) hs).mpr ⟨rfl, hj⟩
    exact ⟨h0, fun so1 en1 ha => shN_tag h0 ha shN_nil⟩
  · intro cx c b hs
    have h0 := (sW_RX (W := W) (cx := cx) (b := b) (x := .nil) hs).mpr (Or.inl rfl)
    exact ⟨h0, fun so1 en1 ha => shN_tag h0 ha shN_nil⟩
  · intro cx c e b hs he
    have h0 := (sW_RX (W := W) (cx := cx) (b := b) hs).mpr (Or.inr ⟨e, rfl, he⟩)
    exact ⟨h0, fun so1 en1 ha => shN_tag h0 ha (shN_app (shN_e he _) shN_nil)⟩
  · intro cx t y b ht hy
    refine ⟨by rw [sW_1]; exact ⟨ht.1, hy.1⟩, fun so1 en1 ha => shN_app (ht.2 (soOf_l so1) (enOf_l en1) (ancK_le ha (Nat.le_refl _) (by rw [sp_z_a]; omega))) (hy.2 (soOf_r so1) (enOf_r en1) (ancK_le ha (by omega) (by rw [sp_z_a]; omega)))⟩
  · intro cx b
    exact ⟨sW_nil, fun so1 en1 ha => shN_nil⟩
  · intro cx b
    exact ⟨sW_line, fun so1 en1 ha i c' x h => by cases h⟩
end SHP
/-! a unit's nodes by number -/
section UNI
variable (t : Std.Format)
def CX (i : Nat) : Nat × Std.Format := ((cxL t)[i]?).getD (0, .nil)
abbrev CO (i : Nat) : Nat := (CX t i).1
abbrev XI (i : Nat) : Std.Format := (CX t i).2
abbrev SO (i : Nat) : Nat := sp_s (CO t i)
abbrev EN (i : Nat) : Nat := i + 1 + sp_z (XI t i)
def PA (i : Nat) : Nat := ((parL t 0 0)[i]?).getD 0
def ID (i : Nat) : Nat := ((idL t 0)[i]?).getD 0
abbrev KI (i : Nat) : List Nat := rtL (XI t i) (i + 1)
end UNI
section UNJ
variable {t : Std.Format}
theorem CX_get {i : Nat} (hi : i < sp_z t) : (cxL t)[i]? = some (CO t i, XI t i) := by
  have : i < (cxL t).length := by rw [cxL_len]; exact hi
  unfold CO XI CX
  rw [List.getElem?_eq_getElem this]
  rfl
theorem CX_eq {i c : Nat} {x : Std.Format} (h : (cxL t)[i]? = some (c, x)) : CO t i = c ∧ XI t i = x := by
  unfold CO XI CX
  rw [h]
  exact ⟨rfl, rfl⟩
theorem PA_get {i : Nat} (hi : i < sp_z t) : (parL t 0 0)[i]? = some (PA t i) := by
  have : i < (parL t 0 0).length := by rw [parL_len]; exact hi
  unfold PA
  rw [List.getElem?_eq_getElem this]
  rfl
theorem EN_le {i : Nat} (hi : i < sp_z t) : EN t i ≤ sp_z t := (cx_seg t 0 0 i _ _ (CX_get hi)).1
theorem PA_le {i : Nat} (hi : i < sp_z t) : PA t i ≤ i := by
  rcases par_val t 0 0 i _ (PA_get hi) with h | h
  · omega
  · omega
/-- a node within another: its rows are those of the inner forest -/
theorem in_seg {i r : Nat} (hi : i < sp_z t) (h1 : i < r) (h2 : r < EN t i) : (cxL (XI t i))[r - i - 1]? = some (CO t r, XI t r) ∧ (parL (XI t i) (i + 1) (i + 1))[r - i - 1]? = some (PA t r) := by
  have hN := EN_le hi
  have q := (cx_seg t 0 0 i _ _ (CX_get hi)).2 (r - i - 1) (by unfold EN at h2; omega)
  rw [show i + 1 + (r - i - 1) = r by omega, CX_get (by omega), PA_get (by omega), Nat.zero_add] at q
  exact ⟨q.1.symm, q.2.symm⟩
theorem EN_in {i r : Nat} (hi : i < sp_z t) (h1 : i ≤ r) (h2 : r < EN t i) : EN t r ≤ EN t i := by
  by_cases e : i = r
  · rw [e]; exact Nat.le_refl _
  · have q := (in_seg hi (by omega) h2).1
    have := (cx_seg (XI t i) 0 0 _ _ _ q).1
    unfold EN at *
    omega
theorem PA_in {i r : Nat} (hi : i < sp_z t) (h1 : i < r) (h2 : r < EN t i) : i + 1 ≤ PA t r := by
  have q := (in_seg hi h1 h2).2
  rcases par_val _ _ _ _ _ q with h | h
  · omega
  · omega
theorem PA_out {i j q : Nat} (hi : i < sp_z t) (hj : j < sp_z t) (hp : PA t j = q + 1) (h1 : i ≤ q) (h2 : q < EN t i) : j < EN t i := by
  have := par_in t 0 0 i j q _ _ (Nat.le_refl _) (CX_get hi) (by rw [PA_get hj, hp, Nat.zero_add]) h1 h2
  exact this
theorem PA_sub {j q : Nat} (hj : j < sp_z t) (hp : PA t j = q + 1) : q < j ∧ j < EN t q ∧ EN t j ≤ EN t q := by
  have h1 := PA_le hj
  have h2 := PA_out (i := q) (by omega) hj hp (Nat.le_refl _) (by unfold EN; omega)
  exact ⟨by omega, h2, EN_in (by omega) (by omega) h2⟩
theorem KI_mem {i j : Nat} (hi : i < sp_z t) (hj : j < sp_z t) : PA t j = i + 1 ↔ j ∈ KI t i := by
  constructor
  · intro h
    have h1 := PA_sub hj h
    have q := (in_seg hi h1.1 h1.2.1).2
    rw [h] at q
    have := (rt_par (XI t i) (i + 1) (i + 1) (j - i - 1) (Nat.le_refl _)).mp q
    rw [show i + 1 + (j - i - 1) = j by omega] at this
    exact this
  · intro h
    have h1 := rt_in _ _ _ h
    have q := (rt_par (XI t i) (i + 1) (i + 1) (j - i - 1) (Nat.le_refl _)).mpr (by rw [show i + 1 + (j - i - 1) = j by omega]; exact h)
    have q2 := (in_seg (r := j) hi (by omega) (by unfold EN; omega)).2
    rw [q] at q2
    exact (Option.some.inj q2).symm
theorem RT_mem {j : Nat} (hj : j < sp_z t) : PA t j = 0 ↔ j ∈ rtL t 0 := by
  have q := rt_par t 0 0 j (Nat.le_refl _)
  rw [Nat.zero_add, PA_get hj] at q
  rw [← q]
  exact ⟨fun h => by rw [h], fun h => Option.some.inj h⟩
theorem enOf_unit : enOf (EN t) t 0 := fun i c x h => by
  rw [Nat.zero_add]
  have := CX_eq h
  unfold EN
  rw [this.2]
theorem soOf_unit : soOf (SO t) t 0 := fun i c x h => by
  rw [Nat.zero_add]
  have := CX_eq h
  unfold SO
  rw [this.1]
theorem enOf_kid {i : Nat} (hi : i < sp_z t) : enOf (EN t) (XI t i) (i + 1) := fun j c x h => by
  have hj := get_lt h
  rw [cxL_len] at hj
  have q := (in_seg (r := i + 1 + j) hi (by omega) (by unfold EN; omega)).1
  rw [show i + 1 + j - i - 1 = j by omega, h] at q
  have q := Option.some.inj q
  show i + 1 + j + 1 + sp_z (XI t (i + 1 + j)) = _
  have q3 : XI t (i + 1 + j) = x := (congrArg Prod.snd q).symm
  rw [q3]
theorem KI_lnk {i : Nat} (hi : i < sp_z t) : lnkL (EN t) (KI t i) (i + 1) (EN t i) := rt_lnk _ _ (enOf_kid hi)
theorem RT_lnk : lnkL (EN t) (rtL t 0) 0 (sp_z t) := by
  have := rt_lnk t 0 (enOf_unit (t := t))
  rw [Nat.zero_add] at this
  exact this
theorem SH_all {W : Nat} (hs : sW W 1 [] t 0) {i : Nat} (hi : i < sp_z t) : shN W (SO t) (EN t) i (CO t i) (XI t i) := by
  have := (M0S_all.2 hs).2 soOf_unit enOf_unit (fun e he => nomatch he) i _ _ (CX_get hi)
  rw [Nat.zero_add] at this
  exact this
end UNJ
