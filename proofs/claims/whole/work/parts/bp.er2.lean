/-! ERRORS: both lists -/
section ER2
variable {a b : Nat → Nat → Int32} {V : Nat} {t : Std.Format} {f : Nat → Int64}
theorem RU_vrOK (hC : CU a V t) (hU : RU b V t) {j : Nat} (hj : j < sp_z t) : vrOK b (ID t j) := by
  have hV := hC.1.1.2
  intro e
  have ns : ¬ stS (SO t j) := fun u => (isS_1 hU hj).mpr u e
  have k := e_var hC hU hj ns
  by_cases s : SO t j = 61 ∨ (97 ≤ SO t j ∧ SO t j ≤ 122)
  · exact Or.inr ⟨_, by have := (k.1 s).2; omega, (k.1 s).1.2⟩
  · refine Or.inl ⟨fun u => s (Or.inl ?_), (k.2 s).2⟩
    exact (RU_is hU hj (s := 61) (by decide)).mp u
theorem RU_rq (hC : CU a V t) (hU : RU b V t) {m : Nat → Int32} (h1 : m r_nodes = nI (sp_z t)) (h2 : m r_variables = nI V) : rqOK m b (sp_z t) V := by
  have hN := hC.1.1
  refine ⟨⟨by omega, h1⟩, ⟨hN.2, h2⟩, RU_bRow hU, fun p hp => ?_⟩
  obtain ⟨q, hq, rfl⟩ := ID_sur hp
  exact RU_vrOK hC hU hq
theorem nm_I (hC : CU a V t) {j : Nat} (hj : j < sp_z t) : (97 ≤ a c_P_sort j ∧ a c_P_sort j ≤ 122) ↔ (97 ≤ SO t j ∧ SO t j ≤ 122) := by
  have l : SO t j < 256 := by unfold SO sp_s; omega
  rw [CU_sort hC hj, show (97 : Int32) = nI 97 from rfl, show (122 : Int32) = nI 122 from rfl, nI_leI (by omega) (by omega), nI_leI (by omega) (by omega)]
/-- the ERROR of a node, both sides -/
theorem kd_er (h : SameU a b V t f) (hg : gvN 0 V t) {j : Nat} (hj : j < sp_z t) : (kdF a (sp_z t) V f j = -1 ∧ erF b V (ID t j) = 0) ∨ (kdF a (sp_z t) V f j = erF b V (ID t j) ∧ (erF b V (ID t j) = 1 ∨ erF b V (ID t j) = 2 ∨ erF b V (ID t j) = 3)) := by
  have hC := h.2.1.1.1
  have hU := h.2.2.1
  have hV := hC.1.1.2
  have iS := isS_1 hU hj
  have sI := stI_S hC hj
  unfold kdF kdG erF
  by_cases st : stS (SO t j)
  · rw [if_pos (sI.mpr st), if_pos (iS.mpr st)]
    have r := sv_r h hj (Or.inl rfl : (0 : Int32) = 0 ∨ _)
    have r : svR b V (ID t j) 0 = 0 ↔ ¬ rch (f j) := r
    by_cases c : rch (f j)
    · rw [if_pos c, if_neg (fun u => r.mp u c)]
      exact Or.inl ⟨rfl, rfl⟩
    · rw [if_neg c, if_pos (r.mpr c)]
      exact Or.inr ⟨rfl, Or.inr (Or.inr rfl)⟩
  · rw [if_neg (fun u => st (sI.mp u)), if_neg (fun u => st (iS.mp u))]
    have ev := e_var hC hU hj st
    have s61 : b r_sort (ID t j) = 61 ↔ SO t j = 61 := RU_is hU hj (s := 61) (by decide)
    have c61 : a c_P_sort j = 61 ↔ SO t j = 61 := CU_is hC hj (s := 61) (by decide)
    by_cases c : 97 ≤ SO t j ∧ SO t j ≤ 122
    · rw [if_pos ((nm_I hC hj).mpr c), if_neg (show ¬ b r_sort (ID t j) = 61 from fun u => by have := s61.mp u; omega)]
      have k := ev.1 (Or.inr c)
      have dv : dN (b r_variable (ID t j)) = VR t j := by rw [k.1.2]; exact nI_clamp (by omega)
      have n := nm_eq h hj k.2
      rw [k.1.1, dv]
      by_cases q : bitI (uOn (f j)) (nI (VR t j))
      · rw [if_pos q, if_pos ⟨by rw [k.1.2]; exact nN _ (by omega), n.mp q⟩]
        exact Or.inr ⟨rfl, Or.inl rfl⟩
      · rw [if_neg q, if_neg (fun u => q (n.mpr u.2))]
        exact Or.inl ⟨rfl, rfl⟩
    · rw [if_neg (fun u => c ((nm_I hC hj).mp u))]
      by_cases e : SO t j = 61
      · rw [if_pos (s61.mpr e)]
        have k := ev.1 (Or.inl e)
        have dv : dN (b r_variable (ID t j)) = VR t j := by rw [k.1.2]; exact nI_clamp (by omega)
        have dO1 : dO (a c_P_named j) = VR t j + 1 := by rw [k.1.1, ← oI_s]; exact dO_oI (by omega)
        obtain ⟨i, _, fi, _⟩ := var_eq hC hU hg k.2
        have n := tw_eq h hj e k.2
        rw [dv, dO1, Nat.add_sub_cancel, fi.2, k.1.1]
        by_cases q : ¬ b r_isFinal (VR t j) = 0 ∧ twD b (VR t j) (ID t j)
        · rw [if_pos ⟨c61.mpr e, ⟨by omega, k.2⟩, q.1, n.mpr q.2⟩, if_pos q]
          exact Or.inr ⟨rfl, Or.inr (Or.inl rfl)⟩
        · rw [if_neg (fun u => q ⟨u.2.2.1, n.mp u.2.2.2⟩), if_neg q]
          exact Or.inl ⟨rfl, rfl⟩
      · rw [if_neg (fun u => e (c61.mp u.1)), if_neg (show ¬ b r_sort (ID t j) = 61 from fun u => e (s61.mp u))]
        have k := ev.2 (fun u => u.elim e c)
        rw [if_neg (fun u => u.1 k.2)]
        exact Or.inl ⟨rfl, rfl⟩
theorem er_none (h : SameU a b V t f) (hg : gvN 0 V t) {j : Nat} (hj : j < sp_z t) : erK b V j ≤ 0 ↔ kdF a (sp_z t) V f j = -1 := by
  have hU := h.2.2.1
  have e : erK b V j = erF b V (ID t j) := by unfold erK; rw [RU_num hU hj]
  rw [e]
  rcases kd_er h hg hj with ⟨k1, k2⟩ | ⟨k1, k2⟩
  · rw [k1, k2]
    exact ⟨fun _ => rfl, fun _ => by decide⟩
  · rw [k1]
    rcases k2 with k | k | k <;> rw [k] <;> decide
theorem er_some (h : SameU a b V t f) (hg : gvN 0 V t) {j : Nat} (hj : j < sp_z t) (n : ¬ kdF a (sp_z t) V f j = -1) : erK b V j = kdF a (sp_z t) V f j := by
  have hU := h.2.2.1
  have e : erK b V j = erF b V (ID t j) := by unfold erK; rw [RU_num hU hj]
  rw [e]
  rcases kd_er h hg hj with ⟨k1, k2⟩ | ⟨k1, k2⟩
  · exact absurd k1 n
  · exact k1.symm
/-- the class's list as the reference scans it -/
def wrS (K : Nat → Int32) : Nat → Nat → List Nat
  | 0, _ => []
  | j + 1, n => if K n ≤ 0 then wrS K j (n + 1) else n :: wrS K j (n + 1)
theorem wrS_snoc (K : Nat → Int32) : ∀ (j n : Nat), wrS K (j + 1) n = wrS K j n ++ (if K (n + j) ≤ 0 then [] else [n + j])
  | 0, n => by
    show (if K n ≤ 0 then [] else [n]) = [] ++ _
    rw [List.nil_append, Nat.add_zero]
  | j + 1, n => by
    have ih := wrS_snoc K j (n + 1)
    rw [show n + 1 + j = n + (j + 1) by omega] at ih
    show (if K n ≤ 0 then wrS K (j + 1) (n + 1) else n :: wrS K (j + 1) (n + 1)) = (if K n ≤ 0 then wrS K j (n + 1) else n :: wrS K j (n + 1)) ++ _
    rw [ih]
    split
    · rfl
    · rfl
theorem wrS_es (K : Nat → Int32) : ∀ (j n l : Nat), esN K j n l = (wrS K j n)[l]?
  | 0, n, l => by simp [esN, wrS]
  | j + 1, n, l => by
    unfold esN wrS
    by_cases c : K n ≤ 0
    · rw [if_pos c, if_pos c, wrS_es K j (n + 1) l]
    · rw [if_neg c, if_neg c]
      cases l with
      | zero => rw [if_pos rfl]; rfl
      | succ l =>
        rw [if_neg (by omega), Nat.add_sub_cancel, wrS_es K j (n + 1) l]
        rfl
theorem wrS_ct (K : Nat → Int32) : ∀ (j n : Nat), ctK K j n = (wrS K j n).length
  | 0, n => rfl
  | j + 1, n => by
    unfold ctK wrS
    rw [wrS_ct K j (n + 1)]
    split
    · exact Nat.zero_add _
    · rw [List.length_cons, Nat.add_comm]
theorem wrg_eq (h : SameU a b V t f) (hg : gvN 0 V t) : ∀ p, p ≤ sp_z t → wrgL a (sp_z t) V f p = wrS (erK b V) p 0
  | 0, _ => rfl
  | p + 1, hp => by
    have ih := wrg_eq h hg p (by omega)
    have e := er_none h hg (show p < sp_z t by omega)
    rw [wrS_snoc, Nat.zero_add]
    unfold wrgL
    by_cases c : kdF a (sp_z t) V f p = -1
    · rw [if_pos c, if_pos (e.mpr c), List.append_nil, ih]
    · rw [if_neg c, if_neg (fun u => c (e.mp u)), ih]
theorem wrS_in (K : Nat → Int32) : ∀ (j n l q : Nat), (wrS K j n)[l]? = some q → (n ≤ q ∧ q < n + j) ∧ ¬ K q ≤ 0
  | 0, n, l, q, h => by simp [wrS] at h
  | j + 1, n, l, q, h => by
    unfold wrS at h
    by_cases c : K n ≤ 0
    · rw [if_pos c] at h
      have := wrS_in K j (n + 1) l q h
      exact ⟨by omega, this.2⟩
    · rw [if_neg c] at h
      cases l with
      | zero =>
        have h : some n = some q := h
        cases h
        exact ⟨by omega, c⟩
      | succ l =>
        have := wrS_in K j (n + 1) l q h
        exact ⟨by omega, this.2⟩
end ER2
