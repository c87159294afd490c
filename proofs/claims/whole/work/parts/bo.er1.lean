/-! place, ERRORS: both answers -/
section ER1
variable {a b : Nat → Nat → Int32} {V : Nat} {t : Std.Format} {f : Nat → Int64}
theorem RU_num (hU : RU b V t) {j : Nat} (hj : j < sp_z t) : dN (b r_byNumber j) = ID t j := (RU_by hU hj).1.2
/-- the rows of a node that place asks for -/
theorem place_eq (hC : CU a V t) (hU : RU b V t) {j : Nat} (hj : j < sp_z t) (y : Int32) : ((0 ≤ y ∧ y ≤ 3) → plV a j y = plR2 b (ID t j) y) ∧ (¬ (0 ≤ y ∧ y ≤ 3) → plV a j y = -2) := by
  have hN := hC.1.1.1
  obtain ⟨R, hR, ⟨e1, e2⟩, hc, hr, hs⟩ := recs hC hU hj
  have e0 : a c_P_sort j = b r_sort (ID t j) := (CU_sort hC hj).trans (RU_so hU hj).1.symm
  have rows : a c_P_first j = b r_first (ID t j) ∧ a c_P_named j = b r_variable (ID t j) := by
    unfold cRow at hc
    unfold rRow at hr
    rw [e1] at hc hr
    rw [e2] at hr
    by_cases st : stS (sp_s (CO t j))
    · rw [if_pos st] at hc hr
      refine ⟨hc.1.1.1.1.2.trans hr.1.1.1.2.symm, ?_⟩
      by_cases c : sp_s (CO t j) = 36 ∨ sp_s (CO t j) = 37
      · exact (hc.1.1.2.1 c).2.1.trans (hr.1.2.1 c).2.1.1.symm
      · exact (hc.1.1.2.2.1 c).trans (hr.1.2.2.1 c).1.symm
    · rw [if_neg st] at hc hr
      exact ⟨hc.1.1.2.trans hr.1.1.1.2.symm, hc.1.2.1.trans hr.1.1.2.1.symm⟩
  have ar : a c_P_around j = (if b r_around (ID t j) = -1 then -1 else b r_number (dN (b r_around (ID t j)))) := by
    rw [RU_ar hU hj, CU_ar hC hj]
    by_cases c : PA t j = 0
    · rw [if_pos c, if_pos (show oI 0 = -1 from rfl), c]
      rfl
    · obtain ⟨q, hq⟩ : ∃ q, PA t j = q + 1 := ⟨PA t j - 1, by omega⟩
      have l := (PA_sub hj hq).1
      rw [if_neg c, hq, Nat.add_sub_cancel, oI_s, oI_s, if_neg (nN _ (by have := ID_lt (t := t) (i := q) (by omega); omega)), show dN (nI (ID t q)) = ID t q from nI_clamp (by have := ID_lt (t := t) (i := q) (by omega); omega), (RU_by hU (show q < sp_z t by omega)).2]
  unfold plV plR2
  constructor
  · intro hy
    rcases k_cases hy with e | e | e | e
    · rw [if_pos e, if_pos e]; exact e0
    · rw [e, if_neg (by decide), if_pos rfl, if_neg (by decide), if_pos rfl]; exact rows.1
    · rw [e, if_neg (by decide), if_neg (by decide), if_pos rfl, if_neg (by decide), if_neg (by decide), if_pos rfl]; exact ar
    · rw [e, if_neg (by decide), if_neg (by decide), if_neg (by decide), if_pos rfl, if_neg (by decide), if_neg (by decide), if_neg (by decide)]; exact rows.2
  · intro n
    rw [if_neg (fun e => n (by rw [e]; decide)), if_neg (fun e => n (by rw [e]; decide)), if_neg (fun e => n (by rw [e]; decide)), if_neg (fun e => n (by rw [e]; decide))]
/-- the rows of a VARIABLE -/
theorem var_eq (hC : CU a V t) (hU : RU b V t) (hg : gvN 0 V t) {v : Nat} (hv : v < V) : ∃ i, (i < sp_z t ∧ stS (SO t i)) ∧ (a c_V_name v = 97 + b r_nameOf v ∧ a c_V_isFinal v = b r_isFinal v) ∧ (a c_V_giver v = nI i ∧ b r_givenAt v = nI i) ∧ (a c_V_couldBeFinal v = 1 ∧ (a c_V_isFinal v = 0 ∨ a c_V_isFinal v = 1)) := by
  have ht := hC.1.2.2
  obtain ⟨c, y, hm, hs, hp⟩ := hg v (by omega) hv
  obtain ⟨i, hi⟩ := mem_get hm
  have li : i < sp_z t := by
    have := (List.getElem?_eq_some_iff.mp hi).1
    rw [← nL_cx ht 0 0 0 0 0 [] 0, List.length_map, nL_len ht] at this
    exact this
  have ec := (CX_eq hi).1
  obtain ⟨R, hR, ⟨e1, e2⟩, hc, hr, _⟩ := recs hC hU li
  rw [ec] at e1
  have st : stS (sp_s c) := by unfold stS; omega
  have id : ID t i = i := ID_st ht li (by unfold SO; rw [ec]; exact st)
  unfold cRow at hc
  unfold rRow at hr
  rw [e1, if_pos st] at hc hr
  rw [e2, id] at hr
  have k1 := (hc.1.1.2.1 hs).2.2
  have k2 := (hr.1.2.1 hs).2.2
  rw [show sp_pl c % 16 - 1 = v by omega] at k1 k2
  refine ⟨i, ⟨li, by unfold SO; rw [ec]; exact st⟩, ⟨?_, k1.1.2.trans k2.2.1.symm⟩, ⟨k1.2.1, k2.2.2⟩, k1.2.2, ?_⟩
  · rw [k1.1.1, k2.1, show (97 : Int32) = nI 97 from rfl, nI_add, Nat.add_comm]
  · rw [k1.1.2]
    by_cases e : sp_s c = 37
    · rw [if_pos e]; exact Or.inr rfl
    · rw [if_neg e]; exact Or.inl rfl
theorem bit1 {n : Nat} (hn : n < 4) : (¬ nI n &&& 1 = 0) ↔ n / 2 ^ 0 % 2 = 1 := by
  have : ∀ n : Fin 4, (¬ nI n.1 &&& 1 = 0) ↔ n.1 / 2 ^ 0 % 2 = 1 := by decide +kernel
  exact this ⟨n, hn⟩
theorem bit2 {x y : Nat} (hx : x < 4) (hy : y < 4) : (¬ (nI x ||| nI y) &&& 2 = 0) ↔ (x / 2 ^ 1 % 2 = 1 ∨ y / 2 ^ 1 % 2 = 1) := by
  have : ∀ x y : Fin 4, (¬ (nI x.1 ||| nI y.1) &&& 2 = 0) ↔ (x.1 / 2 ^ 1 % 2 = 1 ∨ y.1 / 2 ^ 1 % 2 = 1) := by decide +kernel
  exact this ⟨x, hx⟩ ⟨y, hy⟩
/-- a NAME that may be without its VALUE -/
theorem nm_eq (h : SameU a b V t f) {j : Nat} (hj : j < sp_z t) {v : Nat} (hv : v < V) : bitI (uOn (f j)) (nI v) ↔ ¬ svR b v (ID t j) 0 &&& 1 = 0 := by
  have hV := h.1.1.1.2
  obtain ⟨n, hn, e, hz⟩ := sv_v h hv hj (Or.inl rfl : (0 : Int32) = 0 ∨ _)
  have u := uOn_bit (s := f j) (show v < 32 by omega)
  rw [e, bit1 hn, hz 0 (by omega)]
  exact (ti_th (show v < 12 by omega)).trans (u.trans ⟨fun k => k.2, fun k => ⟨by omega, k⟩⟩)
/-- a = that is met twice -/
theorem tw_eq (h : SameU a b V t f) {j : Nat} (hj : j < sp_z t) (hs : SO t j = 61) {v : Nat} (hv : v < V) : bitI (aOn (stO f (chF a (sp_z t) j 0) 1)) (nI v) ↔ twD b v (ID t j) := by
  obtain ⟨hT, hP, hU, hR⟩ := h
  have hC := hP.1.1
  have hV := hC.1.1.2
  have hN := hC.1.1.1
  have l := ID_lt hj
  have ns : ¬ stS (SO t j) := by rw [hs]; decide
  obtain ⟨H, h1, h2, _⟩ := CUP_eq hT hP hR (show v < V + 1 by omega)
  rw [show lnV V v = v from if_neg (by omega)] at h2
  have ch : chF a (sp_z t) j 0 = j + 2 := by
    rw [chF_K hC hj]
    rcases ks_e hC.1.2.1 hj ns with (⟨s1, _⟩ | ⟨s1, _⟩) | ⟨s1, x, k, g1⟩ | ⟨s1, k⟩
    · omega
    · omega
    · have ln := KI_lnk hj
      rw [k] at ln
      have e : x = j + 1 := ln.1.1
      rw [k, e]
      rfl
    · omega
  have so : stO f (j + 2) 1 = f (241 + (j + 1)) ||| f (482 + (j + 1)) := rfl
  rw [ch, so]
  have u := aOn_bit (s := f (241 + (j + 1)) ||| f (482 + (j + 1))) (show v < 32 by omega)
  have g := (h2 j 1 hj (by omega)).2.2.2 hs
  have q : LB v 0 (f (241 + (j + 1)) ||| f (482 + (j + 1))) 1 ↔ twD b v (ID t j) := by
    unfold twD
    rw [LB_or, h1 _ (by omega), h1 _ (by omega), bit2 (mkV_lt _ _) (mkV_lt _ _), mkV_bit (by omega), mkV_bit (by omega)]
    exact or_congr g.1 g.2
  exact (ti_th (show v < 12 by omega)).trans (u.trans ((⟨fun k => k.2, fun k => ⟨by omega, k⟩⟩ : _ ↔ _).trans q))
theorem eW_v0 {V c : Nat} {x : Std.Format} (h : eW V (.tag c x)) (n : ¬ (sp_s c = 61 ∨ (97 ≤ sp_s c ∧ sp_s c ≤ 122))) : sp_v c = 0 := by
  obtain ⟨c', x', e, k⟩ := eW_tag h
  cases e
  rcases k with ⟨k, y, z, w, rfl⟩ | ⟨k, y, z, rfl⟩ | k | k | k | k
  · exact ((eW_63 k).mp h).1
  · exact ((eW_2 k).mp h).1
  · exact ((eW_33 k).mp h).1
  · exact absurd (Or.inl k) n
  · exact absurd (Or.inr k) n
  · exact ((eW_lf k).mp h).1
/-- the e's VARIABLE, both sides -/
theorem e_var (hC : CU a V t) (hU : RU b V t) {j : Nat} (hj : j < sp_z t) (ns : ¬ stS (SO t j)) : ((SO t j = 61 ∨ (97 ≤ SO t j ∧ SO t j ≤ 122)) → (a c_P_named j = nI (VR t j) ∧ b r_variable (ID t j) = nI (VR t j)) ∧ VR t j < V) ∧ (¬ (SO t j = 61 ∨ (97 ≤ SO t j ∧ SO t j ≤ 122)) → a c_P_named j = -1 ∧ b r_variable (ID t j) = -1) := by
  constructor
  · intro s
    have k1 := row_V hC hj (by omega)
    have k2 := RU_V hU hj ns s
    exact ⟨⟨k1.1.1, k2.1⟩, k2.2⟩
  · intro s
    obtain ⟨R, hR, ⟨e1, e2⟩, hc, hr, _⟩ := recs hC hU hj
    unfold cRow at hc
    unfold rRow at hr
    rw [e1, if_neg ns] at hc hr
    rw [e2] at hr
    have z : sp_v (CO t j) = 0 := eW_v0 ((SH_all hC.1.2.1 hj).2 ns) s
    have k1 : a c_P_named j = nI (sp_v (CO t j)) - 1 := hc.1.2.1
    have k2 : b r_variable (ID t j) = nI (sp_v (CO t j)) - 1 := hr.1.1.2.1
    rw [z] at k1 k2
    exact ⟨k1, k2⟩
end ER1
