/-! how many ways there are -/
theorem nd_len {α : Type} [DecidableEq α] : ∀ (W L : List α), W.Nodup → (∀ x ∈ W, x ∈ L) → W.length ≤ L.length
  | [], L, _, _ => Nat.zero_le _
  | x :: W, L, hn, hs => by
    have hx := hs x List.mem_cons_self
    have hn := List.nodup_cons.mp hn
    have ih := nd_len W (L.erase x) hn.2 (fun y hy => by
      have : ¬ y = x := fun e => hn.1 (e ▸ hy)
      exact (List.mem_erase_of_ne this).mpr (hs y (List.mem_cons_of_mem _ hy)))
    rw [List.length_erase_of_mem hx] at ih
    have : 1 ≤ L.length := List.length_pos_of_mem hx
    show W.length + 1 ≤ _
    omega
theorem pr_len (C : List Nat) : ∀ (T : List Nat), (T.flatMap (fun x => C.map (fun c => (x, c)))).length = T.length * C.length
  | [] => by simp
  | x :: T => by
    rw [List.flatMap_cons, List.length_append, List.length_map, pr_len C T]
    show _ = (T.length + 1) * _
    rw [Nat.succ_mul]
    omega
abbrev pT (x : Nat × Std.Format) : Prop := sp_s x.1 = 84 ∧ sp_pl x.1 / 2 = 1
abbrev pJ (x : Nat × Std.Format) : Prop := sp_s x.1 = 66 ∨ sp_s x.1 = 67
def ixT : List (Nat × Std.Format) → Nat → List Nat
  | [], _ => []
  | x :: l, b => if pT x then b :: ixT l (b + 1) else ixT l (b + 1)
def ixJ : List (Nat × Std.Format) → Nat → List Nat
  | [], _ => []
  | x :: l, b => if pJ x then b :: ixJ l (b + 1) else ixJ l (b + 1)
def jwL : List (Nat × Std.Format) → Nat
  | [] => 0
  | x :: l => jw (sp_s x.1) (sp_pl x.1) + jwL l
theorem ix_sum : ∀ (l : List (Nat × Std.Format)) (b : Nat), 6 * (ixT l b).length + 2 * (ixJ l b).length = jwL l
  | [], _ => rfl
  | x :: l, b => by
    have ih := ix_sum l (b + 1)
    unfold ixT ixJ jwL jw
    by_cases c1 : sp_s x.1 = 84
    · have c2 : ¬ pJ x := by unfold pJ; omega
      rw [if_neg c2, if_pos c1]
      by_cases c3 : sp_pl x.1 / 2 = 1
      · rw [if_pos (show pT x from ⟨c1, c3⟩), if_pos c3, List.length_cons]
        omega
      · rw [if_neg (fun u : pT x => c3 u.2), if_neg c3]
        omega
    · rw [if_neg (fun u : pT x => c1 u.1), if_neg c1]
      by_cases c3 : pJ x
      · rw [if_pos c3, if_pos (show sp_s x.1 = 66 ∨ sp_s x.1 = 67 from c3), List.length_cons]
        omega
      · rw [if_neg c3, if_neg (show ¬ (sp_s x.1 = 66 ∨ sp_s x.1 = 67) from c3)]
        omega
theorem ixT_mem : ∀ (l : List (Nat × Std.Format)) (b i : Nat) (x : Nat × Std.Format), l[i]? = some x → pT x → b + i ∈ ixT l b
  | [], _, i, _, h, _ => by simp at h
  | y :: l, b, 0, x, h, hp => by
    have h : some y = some x := h
    cases h
    unfold ixT
    rw [if_pos hp]
    exact List.mem_cons_self
  | y :: l, b, i + 1, x, h, hp => by
    have h : l[i]? = some x := h
    have ih := ixT_mem l (b + 1) i x h hp
    rw [show b + 1 + i = b + (i + 1) by omega] at ih
    unfold ixT
    by_cases c : pT y
    · rw [if_pos c]; exact List.mem_cons_of_mem _ ih
    · rw [if_neg c]; exact ih
theorem ixJ_mem : ∀ (l : List (Nat × Std.Format)) (b i : Nat) (x : Nat × Std.Format), l[i]? = some x → pJ x → b + i ∈ ixJ l b
  | [], _, i, _, h, _ => by simp at h
  | y :: l, b, 0, x, h, hp => by
    have h : some y = some x := h
    cases h
    unfold ixJ
    rw [if_pos hp]
    exact List.mem_cons_self
  | y :: l, b, i + 1, x, h, hp => by
    have h : l[i]? = some x := h
    have ih := ixJ_mem l (b + 1) i x h hp
    rw [show b + 1 + i = b + (i + 1) by omega] at ih
    unfold ixJ
    by_cases c : pJ y
    · rw [if_pos c]; exact List.mem_cons_of_mem _ ih
    · rw [if_neg c]; exact ih
theorem jwL_app : ∀ (l l' : List (Nat × Std.Format)), jwL (l ++ l') = jwL l + jwL l'
  | [], l' => by show jwL l' = 0 + jwL l'; omega
  | x :: l, l' => by
    show jw _ _ + jwL (l ++ l') = jw _ _ + jwL l + jwL l'
    rw [jwL_app l l']; omega
theorem jwL_e {W : Nat} {u : Std.Format} (h : eW W u) : jwL (cxL u) = 0 := by
  have jz : ∀ s pl, ¬ stS s → jw s pl = 0 := by
    intro s pl hs
    unfold jw
    rw [if_neg (fun e => hs (by rw [e]; decide)), if_neg (fun e => hs (by rcases e with e | e <;> rw [e] <;> decide))]
  have tg : ∀ (c : Nat) (x : Std.Format), jwL (cxL (.tag c x)) = jw (sp_s c) (sp_pl c) + jwL (cxL x) := fun c x => rfl
  have ap : ∀ (x y : Std.Format), jwL (cxL (.append x y)) = jwL (cxL x) + jwL (cxL y) := fun x y => jwL_app _ _
  refine eW_ind (V := W) (M := fun u => jwL (cxL u) = 0) ?_ ?_ ?_ ?_ ?_ ?_ (sp_z u) u (Nat.le_refl _) h
  · intro c y z w hs _ hy hz hw
    show jwL (cxL (.tag c _)) = 0
    rw [tg, ap, ap, hy, hz, hw, jz _ _ (by unfold stS; omega)]
  · intro c y z hs _ hy hz
    show jwL (cxL (.tag c _)) = 0
    rw [tg, ap, hy, hz, jz _ _ (by unfold stS; omega)]
  · intro c x hs _ hx
    show jwL (cxL (.tag c _)) = 0
    rw [tg, hx, jz _ _ (by unfold stS; omega)]
  · intro c x hs _ hx
    show jwL (cxL (.tag c _)) = 0
    rw [tg, hx, jz _ _ (by unfold stS; omega)]
  · intro c hs _
    show jwL (cxL (.tag c _)) = 0
    rw [tg, jz _ _ (by unfold stS; omega)]
    rfl
  · intro c hs _
    show jwL (cxL (.tag c _)) = 0
    rw [tg, jz _ _ (by unfold stS; omega)]
    rfl
theorem jwL_all {V : Nat} {t : Std.Format} (ht : fT V t) : jwL (cxL t) = wS t := by
  have tg : ∀ (c : Nat) (x : Std.Format), jwL (cxL (.tag c x)) = jw (sp_s c) (sp_pl c) + jwL (cxL x) := fun c x => rfl
  have ap : ∀ (x y : Std.Format), jwL (cxL (.append x y)) = jwL (cxL x) + jwL (cxL y) := fun x y => jwL_app _ _
  have ws : ∀ (c : Nat) (x : Std.Format), wS (.tag c x) = if stS (sp_s c) then jw (sp_s c) (sp_pl c) + wS x else 0 := fun c x => rfl
  have wa : ∀ (x y : Std.Format), wS (.append x y) = wS x + wS y := fun x y => rfl
  refine fT_ind (V := V) (M := fun t => jwL (cxL t) = wS t) ?_ ?_ ?_ ?_ ?_ ?_ ?_ _ t (Nat.lt_succ_self _) ht
  · intro x y hx hy
    show jwL (cxL (.append x y)) = wS (.append x y)
    rw [ap, wa, hx, hy]
  · rfl
  · rfl
  · intro c x hs h8 hx
    show jwL (cxL (.tag c x)) = wS (.tag c x)
    rw [tg, ws, if_pos hs, hx]
  · intro c u v w h8 _ hu hv hw
    show jwL (cxL (.tag c _)) = wS (.tag c _)
    rw [tg, ws, if_pos (by rw [h8]; decide), ap, ap, wa, wa, hu, hv, hw]
  · intro c u v hs he _ _
    show jwL (cxL (.tag c _)) = wS (.tag c _)
    rw [jwL_e he, ws, if_neg hs]
  · intro c x hs he _ _
    show jwL (cxL (.tag c _)) = wS (.tag c _)
    rw [jwL_e he, ws, if_neg hs]
section BO2
variable {b : Nat → Nat → Int32} {V : Nat} {t : Std.Format}
/-- the codes of ways -/
def cdWL (b : Nat → Nat → Int32) (t : Std.Format) : List Nat := [0, 1, 2] ++ (ixJ (cxL t) 0).map (cdF b)
def okW (b : Nat → Nat → Int32) (t : Std.Format) (c : Nat) : Prop := c ∈ cdWL b t ∧ c < 1000 ∧ (2 < c → tgc c < sp_z t ∧ stS (SO t (tgc c)) ∧ (c % 2 = 0 → is_lp (SO t (tgc c))))
def GW (b : Nat → Nat → Int32) (t : Std.Format) (W : wL_T) : Prop := W.Nodup ∧ ∀ x ∈ W, (x.1 < sp_z t ∧ SO t x.1 = 84 ∧ hE t x.1) ∧ okW b t x.2
theorem GW_len (h : RU b V t) (hw : wS t ≤ 240) {W : wL_T} (hW : GW b t W) : W.length ≤ 1260 := by
  have l := nd_len W ((ixT (cxL t) 0).flatMap (fun x => (cdWL b t).map (fun c => (x, c)))) hW.1 (fun x hx => by
    have g := hW.2 x hx
    refine List.mem_flatMap.mpr ⟨x.1, ?_, List.mem_map.mpr ⟨x.2, g.2.1, rfl⟩⟩
    have := ixT_mem (cxL t) 0 x.1 _ (CX_get g.1.1) g.1.2
    rw [Nat.zero_add] at this
    exact this)
  rw [pr_len] at l
  have s := ix_sum (cxL t) 0
  rw [jwL_all h.1.2.2] at s
  have e : (cdWL b t).length = 3 + (ixJ (cxL t) 0).length := by
    unfold cdWL
    rw [List.length_append, List.length_map]
    rfl
  rw [e] at l
  generalize (ixT (cxL t) 0).length = x at l s
  generalize (ixJ (cxL t) 0).length = y at l s
  have hx : x ≤ 40 := by omega
  have hy : y ≤ 120 - 3 * x := by omega
  have : x * (3 + y) ≤ x * (3 + (120 - 3 * x)) := Nat.mul_le_mul_left _ (by omega)
  have key : ∀ x : Fin 41, x.1 * (3 + (120 - 3 * x.1)) ≤ 1260 := by decide
  have := key ⟨x, by omega⟩
  simp only at this
  omega
theorem RU_cd (h : RU b V t) (hj : jT [] t 0) {q : Nat} (hq : q < sp_z t) (hs : stS (SO t q)) (hl : isLv (b r_sort (ID t q))) : okW b t (cdF b (ID t q)) := by
  have hN := h.1.1.1
  have id := ID_st h.1.2.2 hq hs
  have is := fun (s : Nat) (hs : s < 256) => RU_is h hq hs
  rw [id] at hl is ⊢
  unfold cdF
  rcases hl with e | e | e | e
  · rw [if_pos e]
    exact ⟨by unfold cdWL; simp, by omega, fun u => by omega⟩
  · rw [if_neg (by rw [e]; decide), if_pos e]
    exact ⟨by unfold cdWL; simp, by omega, fun u => by omega⟩
  · have s1 := (is 66 (by decide)).mp e
    have jt := JT h.1.2.2 h.1.2.1 hj hq (Or.inl s1)
    have tg := ((RU_S h hq hs).2.1 (Or.inl s1)).2
    have et : dN (b r_target q) = TG t q := by rw [tg]; exact nI_clamp (by omega)
    refine ⟨?_, ?_, fun _ => ?_⟩
    · unfold cdWL
      refine List.mem_append_right _ (List.mem_map.mpr ⟨q, ?_, ?_⟩)
      · have := ixJ_mem (cxL t) 0 q _ (CX_get hq) (Or.inl s1)
        rw [Nat.zero_add] at this
        exact this
      · unfold cdF
        rfl
    · rw [if_neg (by rw [e]; decide), if_neg (by rw [e]; decide), if_pos e, et]
      omega
    · rw [if_neg (by rw [e]; decide), if_neg (by rw [e]; decide), if_pos e, et]
      rw [show tgc (3 + 2 * TG t q) = TG t q by unfold tgc; omega]
      exact ⟨by omega, jt.2.1.1, fun u => by omega⟩
  · have s1 := (is 67 (by decide)).mp e
    have jt := JT h.1.2.2 h.1.2.1 hj hq (Or.inr s1)
    have tg := ((RU_S h hq hs).2.1 (Or.inr s1)).2
    have et : dN (b r_target q) = TG t q := by rw [tg]; exact nI_clamp (by omega)
    refine ⟨?_, ?_, fun _ => ?_⟩
    · unfold cdWL
      refine List.mem_append_right _ (List.mem_map.mpr ⟨q, ?_, ?_⟩)
      · have := ixJ_mem (cxL t) 0 q _ (CX_get hq) (Or.inr s1)
        rw [Nat.zero_add] at this
        exact this
      · unfold cdF
        rfl
    · rw [if_neg (by rw [e]; decide), if_neg (by rw [e]; decide), if_neg (by rw [e]; decide), et]
      omega
    · rw [if_neg (by rw [e]; decide), if_neg (by rw [e]; decide), if_neg (by rw [e]; decide), et]
      rw [show tgc (4 + 2 * TG t q) = TG t q by unfold tgc; omega]
      exact ⟨by omega, jt.2.1.1, fun u => jt.2.2 s1⟩
theorem RU_gOK (h : RU b V t) (hj : jT [] t 0) (hw : wS t ≤ 240) : gOK b (sp_z t) (GW b t) (okW b t) := by
  have hN := h.1.1.1
  refine ⟨⟨List.nodup_nil, fun x hx => nomatch hx⟩, fun W hW => ⟨by have := GW_len h hw hW; omega, fun x hx => ?_⟩, fun T c W hW hT h84 hE1 hc => ?_, ?_, ?_, fun p hp h1 h2 => ?_⟩
  · have := hW.2 x hx
    exact ⟨this.1.1, this.2.2.1, this.2⟩
  · unfold wyF
    by_cases e : scW T c W.reverse 0 = 0
    · rw [if_pos e]
      have e := (scW_0 T c _ 0).mp e
      obtain ⟨q, hq, eq⟩ := ID_sur hT
      have sq : SO t q = 84 := (RU_is h hq (s := 84) (by decide)).mp (by rw [eq]; exact h84)
      have id := ID_st h.1.2.2 hq (by rw [sq]; decide)
      have : T = q := by rw [← eq, id]
      subst this
      refine ⟨List.nodup_cons.mpr ⟨fun u => e (List.mem_reverse.mpr u), hW.1⟩, fun x hx => ?_⟩
      rcases List.mem_cons.mp hx with rfl | hx
      · exact ⟨⟨hq, sq, (hCE h hq sq).2.mp hE1⟩, hc⟩
      · exact hW.2 x hx
    · rw [if_neg e]
      exact hW
  · exact ⟨by unfold cdWL; simp, by omega, fun u => by omega⟩
  · exact ⟨by unfold cdWL; simp, by omega, fun u => by omega⟩
  · obtain ⟨q, hq, rfl⟩ := ID_sur hp
    exact RU_cd h hj hq ((isS_1 h hq).mp h1) h2
end BO2
