/-- the class's rows of the unit t, ways and all -/
def CU (a : Nat → Nat → Int32) (V : Nat) (t : Std.Format) : Prop :=
  ((sp_z t ≤ 240 ∧ V ≤ 12) ∧ sW V 1 [] t 0 ∧ fT V t) ∧ ((∀ i R, (unitL t)[i]? = some R → cRow a V i R) ∧ lkN a t) ∧
  (∀ p, p < sp_z t → (a c_Y_beginTo p = bgV a (sp_z t) p ∧ a c_Y_catchTo p = ctV a (sp_z t) p ∧ a c_Y_finallyTo p = fnV a (sp_z t) p) ∧ (a c_Y_trueTo p = (enV a (sp_z t) p).1 ∧ a c_Y_falseTo p = (enV a (sp_z t) p).2))
def nx0 : Option Nat → Nat
  | some r => r + 1
  | none => 0
section CUA
variable {a : Nat → Nat → Int32} {V : Nat} {t : Std.Format}
theorem cRow_s {i : Nat} {R : NR} (h : cRow a V i R) : a c_P_sort i = nI (sp_s (nc R)) ∧ a c_P_end i = nI (i + 1 + sp_z (nx R)) := by
  unfold cRow at h
  split at h
  · exact ⟨h.1.1.1.1.1, h.1.1.1.2.1.2⟩
  · exact ⟨h.1.1.1, h.1.2.2⟩
theorem CU_N (h : CU a V t) : sp_z t ≤ 240 := h.1.1.1
theorem CU_row (h : CU a V t) {i : Nat} (hi : i < sp_z t) : ∃ R, cRow a V i R ∧ (nc R = CO t i ∧ nx R = XI t i) := by
  obtain ⟨R, hR⟩ := UN_some h.1.2.2 hi
  exact ⟨R, h.2.1.1 i R hR, (UN_get h.1.2.2 hR).2.1.1⟩
theorem CU_sort (h : CU a V t) {i : Nat} (hi : i < sp_z t) : a c_P_sort i = nI (SO t i) := by
  obtain ⟨R, h1, h2⟩ := CU_row h hi
  have := (cRow_s h1).1
  rw [h2.1] at this
  exact this
theorem CU_end (h : CU a V t) {i : Nat} (hi : i < sp_z t) : a c_P_end i = nI (EN t i) ∧ dN (a c_P_end i) = EN t i := by
  obtain ⟨R, h1, h2⟩ := CU_row h hi
  have e := (cRow_s h1).2
  rw [h2.2] at e
  have := EN_le hi
  have := CU_N h
  refine ⟨e, ?_⟩
  rw [e]
  exact nI_clamp (by unfold EN at *; omega)
theorem SO_lt (i : Nat) : SO t i < 256 := Nat.mod_lt _ (by decide)
theorem CU_is (h : CU a V t) {i : Nat} (hi : i < sp_z t) {s : Nat} (hs : s < 256) : a c_P_sort i = nI s ↔ SO t i = s := by
  rw [CU_sort h hi, nI_eq (by have := SO_lt (t := t) i; omega) (by omega)]
theorem CU_ar (h : CU a V t) {i : Nat} (hi : i < sp_z t) : a c_P_around i = oI (PA t i) := by
  obtain ⟨h1, h2, h3⟩ := h.2.1.2
  cases e : PA t i with
  | zero =>
    obtain ⟨j, hj⟩ := mem_get ((RT_mem hi).mp e)
    exact (h1 j i hj).1.1
  | succ q =>
    have hq := PA_sub hi e
    have hm := (KI_mem (i := q) (by omega) hi).mp e
    rw [oI_s]
    by_cases c : SO t q = 84
    · obtain ⟨u, v, w, e2, k1, k2, k3⟩ := h3 q (by omega) c
      have hm : i ∈ rtL (XI t q) (q + 1) := hm
      rw [e2] at hm
      have hm : i ∈ rtL u (q + 1) ++ (rtL v (q + 1 + sp_z u) ++ rtL w (q + 1 + sp_z u + sp_z v)) := hm
      rcases List.mem_append.mp hm with hm | hm
      · exact (k1 i hm).1.1
      · rcases List.mem_append.mp hm with hm | hm
        · exact (k2 i hm).1.1
        · exact (k3 i hm).1.1
    · obtain ⟨j, hj⟩ := mem_get hm
      exact (h2 q (by omega) c j i hj).1.1
theorem chG_L (h : CU a V t) {e : Nat} (he : e ≤ sp_z t) : ∀ (k : Nat) (L : List Nat) (c : Nat), lnkL (EN t) L c e → chG a (sp_z t) e k c = (match L[k]? with | some r => r | none => e)
  | 0, L, c, hL => by
    cases L with
    | nil => exact hL
    | cons r L => exact hL.1.1.symm
  | k + 1, L, c, hL => by
    unfold chG
    cases L with
    | nil =>
      have hL : c = e := hL
      rw [if_neg (by omega)]
      exact hL
    | cons r L =>
      have h1 := hL.1
      rw [if_pos (by omega), (CU_end h (by omega)).2]
      exact chG_L h he k L (EN t c) hL.2
theorem chF_K (h : CU a V t) {p : Nat} (hp : p < sp_z t) (k : Nat) : chF a (sp_z t) p k = nx0 (KI t p)[k]? := by
  have he := EN_le hp
  have hl := KI_lnk hp
  unfold chF
  rw [(CU_end h hp).2, chG_L h he k _ _ hl]
  cases e : (KI t p)[k]? with
  | none =>
    show (if EN t p < sp_z t ∧ EN t p < EN t p then _ else 0) = 0
    rw [if_neg (by omega)]
  | some r =>
    have := lnkL_get _ _ _ _ _ hl e
    show (if r < sp_z t ∧ r < EN t p then r + 1 else 0) = r + 1
    rw [if_pos ⟨by omega, this.1.2⟩]
theorem oI_inj {i j : Nat} (hi : i < 2 ^ 20) (hj : j < 2 ^ 20) : oI i = oI j ↔ i = j := by
  constructor
  · intro h
    have := congrArg dO h
    rw [dO_oI hi, dO_oI hj] at this
    exact this
  · intro h; rw [h]
theorem nxF_K (h : CU a V t) {q k i : Nat} (hq : q < sp_z t) (hk : (KI t q)[k]? = some i) : nxF a (sp_z t) i = nx0 (KI t q)[k + 1]? := by
  have hN := CU_N h
  have hl := lnkL_get _ _ _ _ _ (KI_lnk hq) hk
  have he := EN_le hq
  have hi : i < sp_z t := by omega
  have pi : PA t i = q + 1 := (KI_mem hq hi).mpr (List.mem_of_getElem? hk)
  unfold nxF
  rw [(CU_end h hi).2]
  cases e : (KI t q)[k + 1]? with
  | none =>
    have e1 := hl.2.2.2.2 e
    rw [if_neg ?_]
    · rfl
    · rintro ⟨h1, h2⟩
      rw [CU_ar h h1, CU_ar h hi, pi] at h2
      have h3 := PA_le (t := t) h1
      rw [oI_inj (by omega) (by omega)] at h2
      have := PA_out hq h1 h2 (Nat.le_refl _) (by unfold EN; omega)
      omega
  | some r =>
    have e1 := hl.2.2.2.1 r e
    have hr := lnkL_get _ _ _ _ _ (KI_lnk hq) e
    have pr : PA t r = q + 1 := (KI_mem hq (by omega)).mpr (List.mem_of_getElem? e)
    rw [if_pos ?_]
    · rw [← e1]; rfl
    · rw [← e1]
      refine ⟨by omega, ?_⟩
      rw [CU_ar h (by omega), CU_ar h hi, pi, pr]
theorem nxF_R (h : CU a V t) {k i : Nat} (hk : (rtL t 0)[k]? = some i) : nxF a (sp_z t) i = nx0 (rtL t 0)[k + 1]? := by
  have hN := CU_N h
  have hl := lnkL_get _ _ _ _ _ RT_lnk hk
  have hi : i < sp_z t := by omega
  have pi : PA t i = 0 := (RT_mem hi).mpr (List.mem_of_getElem? hk)
  unfold nxF
  rw [(CU_end h hi).2]
  cases e : (rtL t 0)[k + 1]? with
  | none =>
    have e1 := hl.2.2.2.2 e
    rw [if_neg (by omega)]
    rfl
  | some r =>
    have e1 := hl.2.2.2.1 r e
    have hr := lnkL_get _ _ _ _ _ RT_lnk e
    have pr : PA t r = 0 := (RT_mem (by omega)).mpr (List.mem_of_getElem? e)
    rw [if_pos ?_]
    · rw [← e1]; rfl
    · rw [← e1]
      refine ⟨by omega, ?_⟩
      rw [CU_ar h (by omega), CU_ar h hi, pi, pr]
theorem lnk_0 {en : Nat → Nat} {L : List Nat} {b e : Nat} (h : lnkL en L b e) : (L = [] ∧ b = e) ∨ (L[0]? = some b ∧ b < e) := by
  cases L with
  | nil => exact Or.inl ⟨rfl, h⟩
  | cons r L =>
    have h1 := h.1
    refine Or.inr ⟨?_, by omega⟩
    show some r = some b
    rw [h1.1]
/-- the parts of a T -/
theorem T_parts (h : CU a V t) {q : Nat} (hq : q < sp_z t) (hs : SO t q = 84) : ∃ u v w, XI t q = .append u (.append v w) ∧ ((lnkL (EN t) (rtL u (q + 1)) (q + 1) (q + 1 + sp_z u) ∧ lnkL (EN t) (rtL v (q + 1 + sp_z u)) (q + 1 + sp_z u) (q + 1 + sp_z u + sp_z v)) ∧ (lnkL (EN t) (rtL w (q + 1 + sp_z u + sp_z v)) (q + 1 + sp_z u + sp_z v) (EN t q) ∧ EN t q = q + 1 + sp_z u + sp_z v + sp_z w)) ∧
    ((∀ i ∈ rtL u (q + 1), (a c_P_around i = nI q ∧ a c_P_part i = 0) ∧ (a c_P_tryAround i = nI q ∧ a c_P_tryPart i = 0)) ∧
    (∀ i ∈ rtL v (q + 1 + sp_z u), (a c_P_around i = nI q ∧ a c_P_part i = 1) ∧ (a c_P_tryAround i = nI q ∧ a c_P_tryPart i = 1)) ∧
    (∀ i ∈ rtL w (q + 1 + sp_z u + sp_z v), (a c_P_around i = nI q ∧ a c_P_part i = 2) ∧ (a c_P_tryAround i = nI q ∧ a c_P_tryPart i = 2))) ∧
    (tC (CO t q) v w ∧ a c_P_catchFrom q = (if sp_pl (CO t q) % 2 = 1 then nI (q + 1 + sp_z u) else -1) ∧ a c_P_finallyFrom q = (if sp_pl (CO t q) / 2 = 1 then nI (q + 1 + sp_z u + sp_z v) else -1)) := by
  obtain ⟨u, v, w, e, k1, k2, k3⟩ := h.2.1.2.2.2 q hq hs
  have he := enOf_kid hq
  rw [e] at he
  have ez : EN t q = q + 1 + sp_z u + sp_z v + sp_z w := by
    show q + 1 + sp_z (XI t q) = _
    rw [e, sp_z_a, sp_z_a]; omega
  have l1 := rt_lnk _ _ (enOf_l he)
  have l2 := rt_lnk _ _ (enOf_l (enOf_r he))
  have l3 := rt_lnk _ _ (enOf_r (enOf_r he))
  obtain ⟨R, h1, h2⟩ := CU_row h hq
  have sh := SH_all h.1.2.1 hq
  have hst : stS (SO t q) := by rw [hs]; unfold stS; omega
  obtain ⟨cx, hsw, -⟩ := sh.1 hst
  rw [e, sW_84 hs] at hsw
  obtain ⟨hp, u', v', w', e', hvw, -⟩ := hsw
  cases e'
  unfold cRow at h1
  rw [h2.1, h2.2, if_pos hst, if_pos hs, e] at h1
  refine ⟨u, v, w, e, ⟨⟨l1, l2⟩, by rw [ez]; exact l3, ez⟩, ⟨k1, k2, k3⟩, ⟨hp, hvw⟩, h1.2.1, h1.2.2⟩
end CUA
