section CUC
variable {a : Nat → Nat → Int32} {V : Nat} {t : Std.Format}
/-- the ends of the places in a part of a T -/
theorem ty_part (h : CU a V t) {q p j m r0 : Nat} (hq : q < sp_z t) (hs : SO t q = 84) {A L B : List Nat} (hK : KI t q = A ++ (L ++ B)) (hj : L[j]? = some p) {k : Int32} (hL : ∀ i ∈ L, a c_P_part i = k) (hB : ∀ i, B[0]? = some i → ¬ a c_P_part i = k) (hm : m = A.length + j) (hend : (if k = 2 then nI 964 else endT a q) = nI r0) : a c_Y_trueTo p = orV (nx0 L[j + 1]?) (nI r0) ∧ a c_Y_falseTo p = orV (nx0 L[j + 1]?) (nI r0) := by
  have hkp : (KI t q)[A.length + j]? = some p := by
    rw [hK, get_r, get_l (get_lt hj)]; exact hj
  obtain ⟨⟨hp, e⟩, -, hk2⟩ := kid_in h hq hkp
  have hw := (h.2.2 p hp).2
  have is : ∀ s, s < 256 → ((a c_P_sort q = nI s) = (SO t q = s)) := fun s hs => propext (CU_is h hq hs)
  have ne : ∀ s : Nat, s < 256 → ¬ s = 84 → ¬ a c_P_sort q = nI s := fun s h1 h2 u => h2 (((is s h1).mp u).symm.trans hs)
  have hn : (KI t q)[A.length + j + 1]? = (L ++ B)[j + 1]? := by
    rw [hK, Nat.add_assoc, get_r]
  have hpk := hL p (List.mem_of_getElem? hj)
  have key : tyV a p q (nx0 (KI t q)[A.length + j + 1]?) = (orV (nx0 L[j + 1]?) (nI r0), orV (nx0 L[j + 1]?) (nI r0)) := by
    rw [hn]
    unfold tyV
    rw [hpk]
    have hend2 : (if k = 2 then ((nI 964, nI 964) : V2) else (endT a q, endT a q)) = (nI r0, nI r0) := by
      by_cases c : k = 2
      · rw [if_pos c] at hend ⊢
        rw [← hend]
      · rw [if_neg c] at hend ⊢
        rw [hend]
    rw [hend2]
    cases e2 : L[j + 1]? with
    | some r =>
      rw [get_l (get_lt e2), e2]
      show (if ¬ r + 1 = 0 ∧ a c_P_part (r + 1 - 1) = k then (oI (r + 1), oI (r + 1)) else _) = _
      rw [if_pos ⟨by omega, hL r (List.mem_of_getElem? e2)⟩]
      rfl
    | none =>
      have hl := get_lt hj
      have hl2 : L.length ≤ j + 1 := List.getElem?_eq_none_iff.mp e2
      have e3 : (L ++ B)[j + 1]? = B[0]? := by
        rw [show j + 1 = L.length + 0 by omega, get_r]
      rw [e3]
      cases e4 : B[0]? with
      | none =>
        have z : ¬ (¬ nx0 none = 0 ∧ a c_P_part (nx0 none - 1) = k) := fun u => u.1 rfl
        rw [if_neg z]
        rfl
      | some r =>
        show (if ¬ r + 1 = 0 ∧ a c_P_part (r + 1 - 1) = k then (oI (r + 1), oI (r + 1)) else _) = _
        rw [if_neg (fun u => hB r e4 u.2)]
        rfl
  rw [hw.1, hw.2, enV_kid h hp e, nxF_K h hq hkp]
  unfold leV
  have n : ∀ s : Nat, s < 256 → ¬ s = 84 → ¬ a c_P_sort q = nI s := ne
  rw [if_neg (show ¬ a c_P_sort q = 58 from n 58 (by decide) (by decide)), if_neg (show ¬ a c_P_sort q = 59 from n 59 (by decide) (by decide)), if_neg (show ¬ a c_P_sort q = 68 from n 68 (by decide) (by decide)), if_neg (show ¬ a c_P_sort q = 70 from n 70 (by decide) (by decide)), if_neg (show ¬ a c_P_sort q = 73 from n 73 (by decide) (by decide)), if_neg (show ¬ a c_P_sort q = 82 from n 82 (by decide) (by decide)), if_neg (show ¬ a c_P_sort q = 83 from n 83 (by decide) (by decide)), if_pos (show a c_P_sort q = 84 from (is 84 (by decide)).mpr hs), key]
  exact ⟨rfl, rfl⟩
theorem W_Tk (h : CU a V t) {q : Nat} (hq : q < sp_z t) (hs : SO t q = 84) {u v w : Std.Format} (e : XI t q = .append u (.append v w)) :
    (∀ j p, (rtL u (q + 1))[j]? = some p → a c_Y_trueTo p = orV (nx0 (rtL u (q + 1))[j + 1]?) (nI (eT t q)) ∧ a c_Y_falseTo p = orV (nx0 (rtL u (q + 1))[j + 1]?) (nI (eT t q))) ∧
    (∀ j p, (rtL v (q + 1 + sp_z u))[j]? = some p → a c_Y_trueTo p = orV (nx0 (rtL v (q + 1 + sp_z u))[j + 1]?) (nI (eT t q)) ∧ a c_Y_falseTo p = orV (nx0 (rtL v (q + 1 + sp_z u))[j + 1]?) (nI (eT t q))) ∧
    (∀ j p, (rtL w (q + 1 + sp_z u + sp_z v))[j]? = some p → a c_Y_trueTo p = orV (nx0 (rtL w (q + 1 + sp_z u + sp_z v))[j + 1]?) (nI 964) ∧ a c_Y_falseTo p = orV (nx0 (rtL w (q + 1 + sp_z u + sp_z v))[j + 1]?) (nI 964)) := by
  have hN := CU_N h
  have heN := EN_le hq
  obtain ⟨u', v', w', e', ⟨⟨l1, l2⟩, l3, ez⟩, ⟨k1, k2, k3⟩, htc, hc, hf⟩ := T_parts h hq hs
  rw [e] at e'
  cases e'
  have eEnd : endT a q = nI (eT t q) := by
    unfold endT eT
    rw [hf]
    by_cases c : hE t q
    · rw [if_pos c, if_pos c, if_neg (nI_ne_m1 (by omega))]
    · rw [if_neg c, if_neg c, if_pos rfl]
  have hK : KI t q = [] ++ (rtL u (q + 1) ++ (rtL v (q + 1 + sp_z u) ++ rtL w (q + 1 + sp_z u + sp_z v))) := by
    show rtL (XI t q) (q + 1) = _
    rw [e]; rfl
  have hK2 : KI t q = rtL u (q + 1) ++ (rtL v (q + 1 + sp_z u) ++ rtL w (q + 1 + sp_z u + sp_z v)) := hK
  have hK3 : KI t q = (rtL u (q + 1) ++ rtL v (q + 1 + sp_z u)) ++ (rtL w (q + 1 + sp_z u + sp_z v) ++ []) := by rw [hK2, List.append_nil, List.append_assoc]
  refine ⟨fun j p hj => ?_, fun j p hj => ?_, fun j p hj => ?_⟩
  · refine ty_part h hq hs hK hj (k := 0) (fun i hi => (k1 i hi).1.2) (fun i hi => ?_) rfl (by rw [if_neg (by decide)]; exact eEnd)
    rcases List.mem_append.mp (List.mem_of_getElem? hi) with hi | hi
    · rw [(k2 i hi).1.2]; decide
    · rw [(k3 i hi).1.2]; decide
  · refine ty_part h hq hs hK2 hj (k := 1) (fun i hi => (k2 i hi).1.2) (fun i hi => ?_) rfl (by rw [if_neg (by decide)]; exact eEnd)
    rw [(k3 i (List.mem_of_getElem? hi)).1.2]; decide
  · exact ty_part h hq hs hK3 hj (k := 2) (fun i hi => (k3 i hi).1.2) (fun i hi => by cases hi) rfl (by rw [if_pos rfl])
abbrev TG (t : Std.Format) (p : Nat) : Nat := sp_pl (CO t p) - 1
/-- a statement's rows -/
theorem row_S (h : CU a V t) {p : Nat} (hp : p < sp_z t) (hs : stS (SO t p)) : (a c_P_isEntered p = nI (sp_en (CO t p)) ∧ (¬ SO t p = 84 → a c_P_catchFrom p = -1 ∧ a c_P_finallyFrom p = -1)) ∧ (if SO t p = 83 then (a c_P_isSkipped p = 1 ∧ fLine (XI t p)) ∨ (a c_P_isSkipped p = 0 ∧ ¬ fLine (XI t p)) else a c_P_isSkipped p = 0) ∧
    ((SO t p = 36 ∨ SO t p = 37) → (1 ≤ sp_pl (CO t p) % 16 ∧ sp_pl (CO t p) % 16 ≤ V) ∧ a c_P_named p = nI (sp_pl (CO t p) % 16 - 1)) ∧ ((SO t p = 66 ∨ SO t p = 67) → 1 ≤ sp_pl (CO t p) ∧ a c_P_target p = nI (TG t p)) := by
  obtain ⟨R, h1, h2⟩ := CU_row h hp
  unfold cRow at h1
  rw [h2.1, h2.2, if_pos hs] at h1
  obtain ⟨⟨⟨⟨⟨-, -⟩, ⟨-, -⟩, h3⟩, h4, h5, h6, -⟩, h7⟩, h8⟩ := h1
  refine ⟨⟨h3, fun c => ?_⟩, h7, fun c => ⟨(h4 c).1, (h4 c).2.1⟩, h6⟩
  rw [if_neg c] at h8
  exact h8
theorem row_E (h : CU a V t) {p : Nat} (hp : p < sp_z t) (hs : ¬ stS (SO t p)) : (a c_P_isEntered p = 0 ∧ a c_P_isSkipped p = 0) ∧ (a c_P_catchFrom p = -1 ∧ a c_P_finallyFrom p = -1) ∧ a c_P_named p = nI (sp_v (CO t p)) - 1 := by
  obtain ⟨R, h1, h2⟩ := CU_row h hp
  unfold cRow at h1
  rw [h2.1, h2.2, if_neg hs] at h1
  exact ⟨⟨h1.2.2.2.1, h1.2.2.2.2⟩, ⟨h1.2.2.1.1, h1.2.2.1.2⟩, h1.1.2.1⟩
/-- the VARIABLE of $, %, =, a NAME -/
def VR (t : Std.Format) (p : Nat) : Nat := if stS (SO t p) then sp_pl (CO t p) % 16 - 1 else sp_v (CO t p) - 1
theorem row_V (h : CU a V t) {p : Nat} (hp : p < sp_z t) (hs : SO t p = 36 ∨ SO t p = 37 ∨ SO t p = 61 ∨ (97 ≤ SO t p ∧ SO t p ≤ 122)) : (a c_P_named p = nI (VR t p) ∧ dN (a c_P_named p) = VR t p) ∧ VR t p < V := by
  have hV := h.1.1.2
  have sh := SH_all h.1.2.1 hp
  have key : a c_P_named p = nI (VR t p) ∧ VR t p < V := by
    unfold VR
    by_cases c : stS (SO t p)
    · rw [if_pos c]
      have c2 : SO t p = 36 ∨ SO t p = 37 := by unfold stS at c; omega
      have := (row_S h hp c).2.2.1 c2
      exact ⟨this.2, by omega⟩
    · rw [if_neg c]
      have he := sh.2 c
      have hn := (row_E h hp c).2.2
      have hv : 1 ≤ sp_v (CO t p) ∧ sp_v (CO t p) ≤ V := by
        unfold stS at c
        by_cases c2 : SO t p = 61
        · exact ((eW_61 c2).mp he).1
        · have c3 : 97 ≤ SO t p ∧ SO t p ≤ 122 := by omega
          exact ((eW_nm c3).mp he).1
      refine ⟨?_, by omega⟩
      rw [hn]
      obtain ⟨k, hk⟩ : ∃ k, sp_v (CO t p) = k + 1 := ⟨sp_v (CO t p) - 1, by omega⟩
      rw [hk, nI_pred]
      rfl
  refine ⟨⟨key.1, ?_⟩, key.2⟩
  rw [key.1]
  exact nI_clamp (by omega)
theorem CU_vRow (h : CU a V t) {p : Nat} (hp : p < sp_z t) : vRow a p := by
  intro hs
  have hV := h.1.1.2
  have : SO t p = 36 ∨ SO t p = 37 ∨ SO t p = 61 := by
    rcases hs with hs | hs | hs
    · exact Or.inl ((CU_is h hp (s := 36) (by decide)).mp hs)
    · exact Or.inr (Or.inl ((CU_is h hp (s := 37) (by decide)).mp hs))
    · exact Or.inr (Or.inr ((CU_is h hp (s := 61) (by decide)).mp hs))
  have := row_V h hp (by omega)
  rw [this.1.2]
  exact ⟨this.1.1, by omega⟩
theorem CU_swR (h : CU a V t) : swR a (sp_z t) := by
  intro p hp
  have hN := CU_N h
  have hl := PA_le hp
  refine ⟨CU_vRow h hp, fun c => ?_, ?_⟩
  · rw [CU_ar h hp] at c ⊢
    cases e : PA t p with
    | zero => rw [e] at c; exact absurd rfl c
    | succ q =>
      rw [oI_s]
      show vRow a (nI q).toNatClampNeg
      rw [nI_clamp (by omega)]
      exact CU_vRow h (by omega)
  · rw [CU_ar h hp, dO_oI (by omega)]
    exact hl
theorem CU_inCh (h : CU a V t) {fr q e : Nat} (hf : fr ≤ q) (hq : q < sp_z t) (he : EN t q = e + 1) : ∀ (k r : Nat), q ≤ r → r ≤ e → EN t r = e + 1 → r - q < k → inCh a (sp_z t) fr e q k (r + 1)
  | 0, _, _, _, _, hk => by omega
  | k + 1, r, h1, h2, h3, hk => by
    have hN := CU_N h
    have heN := EN_le hq
    have hr : r < sp_z t := by omega
    refine ⟨⟨⟨by omega, by omega⟩, ?_⟩, ?_⟩
    · rw [Nat.add_sub_cancel, (CU_end h hr).1, h3]
    · by_cases c : r = q
      · exact Or.inl (by rw [c])
      · have p1 := PA_in hq (show q < r by omega) (by omega)
        obtain ⟨r', hr'⟩ : ∃ r', PA t r = r' + 1 := ⟨PA t r - 1, by omega⟩
        have p2 := PA_sub hr hr'
        have p3 := EN_in hq (show q ≤ r' by omega) (by omega)
        refine Or.inr ?_
        rw [Nat.add_sub_cancel, CU_ar h hr, hr', dO_oI (by omega)]
        exact CU_inCh h hf hq he k r' (by omega) (by omega) (by omega) (by omega)
theorem CU_cov (h : CU a V t) {fr to : Nat} (hto : to ≤ sp_z t) (hc : ∀ q, fr ≤ q → q < to → EN t q ≤ to) : ∀ q, fr ≤ q → q < to → ∃ p, (fr ≤ p ∧ p < to) ∧ inCh a (sp_z t) fr p q 241 (p + 1) := by
  intro q h1 h2
  have hN := CU_N h
  have h3 := hc q h1 h2
  obtain ⟨e, he⟩ : ∃ e, EN t q = e + 1 := ⟨EN t q - 1, by unfold EN; omega⟩
  have h4 : q ≤ e := by unfold EN at he; omega
  have h5 := EN_in (t := t) (i := q) (r := e) (by omega) h4 (by omega)
  refine ⟨e, ⟨by omega, by omega⟩, CU_inCh h h1 (by omega) he 241 e h4 (Nat.le_refl _) ?_ (by omega)⟩
  unfold EN at h5 ⊢
  unfold EN at he
  omega
end CUC
