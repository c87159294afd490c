/-! what the building of the graph needs, from the tree -/
section BO1
variable {b : Nat → Nat → Int32} {V : Nat} {t : Std.Format}
abbrev Kd (t : Std.Format) : Nat → Nat := lkp (unitL t)
theorem RU_ln (h : RU b V t) {p : Nat} (hp : p < sp_z t) : lnA b (Kd t p) (b r_around p) := by
  have ht := h.1.2.2
  have hN := h.1.1.1
  have hR : ∀ R ∈ unitL t, b r_around (nid R) = oI (noi R) ∧ nid R < 260 := by
    intro R hR
    obtain ⟨i, hi⟩ := mem_get hR
    obtain ⟨hl, ⟨_, e2⟩, _, e4⟩ := UN_get ht hi
    rw [e2, e4]
    have := ID_lt hl
    exact ⟨RU_ar h hl, by omega⟩
  obtain ⟨q, hq, rfl⟩ := ID_sur hp
  obtain ⟨R, hRq⟩ := UN_some ht hq
  obtain ⟨R', m1, m2, m3⟩ := lkp_mem (unitL t) (ID t q) ⟨R, List.mem_of_getElem? hRq, (UN_get ht hRq).2.1.2⟩
  have := nL_deep ht 0 0 0 0 0 [] 0 (show lnA b 0 (oI 0) from rfl) hR R' m1
  rw [m2] at this
  show lnA b (lkp (unitL t) (ID t q)) _
  rw [m3]
  exact this
theorem RU_ard (h : RU b V t) {p q : Nat} (hp : p < sp_z t) (hq : q < 260) (e : b r_around p = nI q) : q < sp_z t := by
  have hN := h.1.1.1
  obtain ⟨i, hi, rfl⟩ := ID_sur hp
  rw [RU_ar h hi] at e
  by_cases c : PA t i = 0
  · rw [if_pos c] at e
    exact absurd e.symm (nN _ (by omega))
  · rw [if_neg c, oI_s] at e
    have l := ID_lt (t := t) (i := PA t i - 1) (by have := PA_le hi; omega)
    have e := congrArg Int32.toNatClampNeg e
    rw [nI_clamp (by omega), nI_clamp (by omega)] at e
    omega
theorem rE_p (h : RU b V t) {q k m : Nat} (hq : q < sp_z t) (e : ((KI t q).filter (isE t))[k]? = some m) : 1 ≤ rchG b (nI (ID t q)) 0 (sp_z t) 0 k := by
  rw [rch_E h hq, e]
  exact Nat.le_add_left 1 _
theorem rS_p (h : RU b V t) {q k m : Nat} (hq : q < sp_z t) (e : ((KI t q).filter (isS t))[k]? = some m) : 1 ≤ rchG b (nI (ID t q)) 1 (sp_z t) 0 k := by
  rw [rch_S h hq, e]
  exact Nat.le_add_left 1 _
theorem RU_chOK (h : RU b V t) (hj : jT [] t 0) {q : Nat} (hq : q < sp_z t) (hs : stS (SO t q)) : chOK b (sp_z t) (ID t q) := by
  have hN := h.1.1.1
  have hW := h.1.2.1
  have is := fun (s : Nat) (hs : s < 256) => RU_is h hq hs
  have E1 : ∀ e L, KI t q = e :: L → ¬ stS (SO t e) → 1 ≤ rchG b (nI (ID t q)) 0 (sp_z t) 0 0 := fun e L eK he => rE_p h hq (m := e) (by rw [eK, List.filter_cons_of_pos (isE_y he)]; rfl)
  refine ⟨fun e => ?_, fun e => ?_, fun e => ?_, fun e => ?_⟩
  · rcases e with e | e | e | e | e | e
    · obtain ⟨s, k1, k2⟩ := ks_59 hW hq ((is 59 (by decide)).mp e)
      exact E1 _ _ k1 k2
    · obtain ⟨s, e', k1, k2, k3⟩ := ks_68 hW hq ((is 68 (by decide)).mp e)
      exact rE_p h hq (m := e') (by rw [k1, List.filter_cons_of_neg (isE_n k2), List.filter_cons_of_pos (isE_y k3)]; rfl)
    · obtain ⟨x, y, s, k1, k2, _⟩ := ks_70 hW hq ((is 70 (by decide)).mp e)
      exact E1 _ _ k1 k2.1
    · rcases ks_73 hW hq ((is 73 (by decide)).mp e) with ⟨x, s, k1, k2, _⟩ | ⟨x, s, s2, k1, k2, _⟩
      · exact E1 _ _ k1 k2
      · exact E1 _ _ k1 k2
    · obtain ⟨x, L, k1, k2, _⟩ := ks_83 hW hq ((is 83 (by decide)).mp e)
      exact E1 _ _ k1 k2
    · obtain ⟨x, s, k1, k2, _⟩ := ks_87 hW hq ((is 87 (by decide)).mp e)
      exact E1 _ _ k1 k2
  · rcases e with e | e | e | e | e
    · obtain ⟨s, k1, k2⟩ := ks_58 hW hq ((is 58 (by decide)).mp e)
      exact rS_p h hq (m := s) (by rw [k1, List.filter_cons_of_pos (isS_y k2)]; rfl)
    · obtain ⟨s, e', k1, k2, k3⟩ := ks_68 hW hq ((is 68 (by decide)).mp e)
      exact rS_p h hq (m := s) (by rw [k1, List.filter_cons_of_pos (isS_y k2)]; rfl)
    · obtain ⟨x, y, s, k1, k2, k3⟩ := ks_70 hW hq ((is 70 (by decide)).mp e)
      exact rS_p h hq (m := s) (by rw [k1, List.filter_cons_of_neg (isS_n k2.1), List.filter_cons_of_neg (isS_n k2.2), List.filter_cons_of_pos (isS_y k3)]; rfl)
    · rcases ks_73 hW hq ((is 73 (by decide)).mp e) with ⟨x, s, k1, k2, k3⟩ | ⟨x, s, s2, k1, k2, k3, _⟩
      · exact rS_p h hq (m := s) (by rw [k1, List.filter_cons_of_neg (isS_n k2), List.filter_cons_of_pos (isS_y k3)]; rfl)
      · exact rS_p h hq (m := s) (by rw [k1, List.filter_cons_of_neg (isS_n k2), List.filter_cons_of_pos (isS_y k3)]; rfl)
    · obtain ⟨x, s, k1, k2, k3⟩ := ks_87 hW hq ((is 87 (by decide)).mp e)
      exact rS_p h hq (m := s) (by rw [k1, List.filter_cons_of_neg (isS_n k2), List.filter_cons_of_pos (isS_y k3)]; rfl)
  · obtain ⟨x, y, s, k1, k2, _⟩ := ks_70 hW hq ((is 70 (by decide)).mp e)
    exact rE_p h hq (m := y) (by rw [k1, List.filter_cons_of_pos (isE_y k2.1), List.filter_cons_of_pos (isE_y k2.2)]; rfl)
  · have s1 : SO t q = 66 ∨ SO t q = 67 := e.imp (is 66 (by decide)).mp (is 67 (by decide)).mp
    have id := ID_st h.1.2.2 hq hs
    have jt := JT h.1.2.2 hW hj hq s1
    rw [id, ((RU_S h hq hs).2.1 s1).2, show dN (nI (TG t q)) = TG t q from nI_clamp (by omega)]
    exact ⟨rfl, by omega⟩
theorem RU_eOK (h : RU b V t) {q : Nat} (hq : q < sp_z t) (hs : ¬ stS (SO t q)) : eOK b (sp_z t) (ID t q) := by
  have is := fun (s : Nat) (hs : s < 256) => RU_is h hq hs
  rcases ks_e h.1.2.1 hq hs with (⟨s1, x, y, z, k, g1, g2, g3⟩ | ⟨s1, x, y, k, g1, g2⟩) | ⟨s1, x, k, g1⟩ | ⟨s1, k⟩
  · refine ⟨fun _ => rE_p h hq (m := x) ?_, fun _ => rE_p h hq (m := y) ?_, fun _ => rE_p h hq (m := z) ?_⟩ <;> (rw [k, List.filter_cons_of_pos (isE_y g1), List.filter_cons_of_pos (isE_y g2), List.filter_cons_of_pos (isE_y g3)]; rfl)
  · refine ⟨fun _ => rE_p h hq (m := x) ?_, fun _ => rE_p h hq (m := y) ?_, fun e => ?_⟩
    · rw [k, List.filter_cons_of_pos (isE_y g1), List.filter_cons_of_pos (isE_y g2)]; rfl
    · rw [k, List.filter_cons_of_pos (isE_y g1), List.filter_cons_of_pos (isE_y g2)]; rfl
    · have := (is 63 (by decide)).mp e; omega
  · refine ⟨fun _ => rE_p h hq (m := x) ?_, fun e => ?_, fun e => ?_⟩
    · rw [k, List.filter_cons_of_pos (isE_y g1)]; rfl
    · rcases e with e | e | e
      · have := (is 38 (by decide)).mp e; omega
      · have := (is 124 (by decide)).mp e; omega
      · have := (is 63 (by decide)).mp e; omega
    · have := (is 63 (by decide)).mp e; omega
  · refine ⟨fun e => ?_, fun e => ?_, fun e => ?_⟩
    · rcases e with e | e | e | e | e
      · have := (is 33 (by decide)).mp e; omega
      · have := (is 61 (by decide)).mp e; omega
      · have := (is 38 (by decide)).mp e; omega
      · have := (is 124 (by decide)).mp e; omega
      · have := (is 63 (by decide)).mp e; omega
    · rcases e with e | e | e
      · have := (is 38 (by decide)).mp e; omega
      · have := (is 124 (by decide)).mp e; omega
      · have := (is 63 (by decide)).mp e; omega
    · have := (is 63 (by decide)).mp e; omega
theorem RU_knS (h : RU b V t) {q : Nat} (hq : q < sp_z t) (hs : stS (SO t q)) : knS (b r_sort (ID t q)) := by
  rw [(RU_so h hq).1]
  rcases hs with e | e | e | e | e | e | e | e | e | e | e | e | e | e | e <;> rw [e] <;> unfold knS <;> decide
theorem RU_bRow (h : RU b V t) : bRow b (sp_z t) := by
  intro i hi
  have hN := h.1.1.1
  have := RU_by h hi
  have l := ID_lt hi
  rw [this.1.2]
  exact ⟨this.1.1, l⟩
theorem RU_bdOK (h : RU b V t) (hj : jT [] t 0) : bdOK b (sp_z t) (Kd t) := by
  refine ⟨RU_bRow h, fun p hp => ⟨RU_ln h hp, fun q hq e => RU_ard h hp hq e⟩, fun p hp => ?_⟩
  obtain ⟨q, hq, rfl⟩ := ID_sur hp
  refine ⟨fun e => ?_, fun e => ?_⟩
  · have hs := (isS_1 h hq).mp e
    exact ⟨RU_knS h hq hs, RU_chOK h hj hq hs⟩
  · exact RU_eOK h hq (fun u => (isS_1 h hq).mpr u e)
end BO1
