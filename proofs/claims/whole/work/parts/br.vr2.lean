/-! uses and gives, both sides -/
def usL (S : Nat → Prop) [DecidablePred S] (v : Nat) : List (Nat × Std.Format) → Nat
  | [] => 0
  | x :: l => (if ¬ stS (sp_s x.1) ∧ sp_v x.1 = v + 1 ∧ S (sp_s x.1) then 1 else 0) + usL S v l
theorem usL_app (S : Nat → Prop) [DecidablePred S] (v : Nat) : ∀ (l l' : List (Nat × Std.Format)), usL S v (l ++ l') = usL S v l + usL S v l'
  | [], l' => by show usL S v l' = 0 + usL S v l'; omega
  | x :: l, l' => by
    show (if _ then 1 else 0) + usL S v (l ++ l') = (if _ then 1 else 0) + usL S v l + usL S v l'
    rw [usL_app S v l l']; omega
abbrev nU (s : Nat) : Prop := ¬ s = 61
abbrev nA (s : Nat) : Prop := s = 61
theorem usL_e {W : Nat} {u : Std.Format} (h : eW W u) (v : Nat) : usL nU v (cxL u) = cU v u ∧ usL nA v (cxL u) = cA v u := by
  have tU : ∀ (c : Nat) (x : Std.Format), ¬ stS (sp_s c) → usL nU v (cxL (.tag c x)) = (if sp_v c = v + 1 ∧ ¬ sp_s c = 61 then 1 else 0) + usL nU v (cxL x) := by
    intro c x hs
    show (if ¬ stS (sp_s c) ∧ sp_v c = v + 1 ∧ nU (sp_s c) then 1 else 0) + _ = _
    by_cases q : sp_v c = v + 1 ∧ ¬ sp_s c = 61
    · rw [if_pos q, if_pos ⟨hs, q⟩]
    · rw [if_neg q, if_neg (fun k => q k.2)]
  have tA : ∀ (c : Nat) (x : Std.Format), ¬ stS (sp_s c) → usL nA v (cxL (.tag c x)) = (if sp_v c = v + 1 ∧ sp_s c = 61 then 1 else 0) + usL nA v (cxL x) := by
    intro c x hs
    show (if ¬ stS (sp_s c) ∧ sp_v c = v + 1 ∧ nA (sp_s c) then 1 else 0) + _ = _
    by_cases q : sp_v c = v + 1 ∧ sp_s c = 61
    · rw [if_pos q, if_pos ⟨hs, q⟩]
    · rw [if_neg q, if_neg (fun k => q k.2)]
  have ap : ∀ (S : Nat → Prop) [DecidablePred S] (x y : Std.Format), usL S v (cxL (.append x y)) = usL S v (cxL x) + usL S v (cxL y) := fun S _ x y => usL_app S v _ _
  have cUt : ∀ (c : Nat) (x : Std.Format), cU v (.tag c x) = (if sp_v c = v + 1 ∧ ¬ sp_s c = 61 then 1 else 0) + cU v x := fun _ _ => rfl
  have cAt : ∀ (c : Nat) (x : Std.Format), cA v (.tag c x) = (if sp_v c = v + 1 ∧ sp_s c = 61 then 1 else 0) + cA v x := fun _ _ => rfl
  have cUa : ∀ (x y : Std.Format), cU v (.append x y) = cU v x + cU v y := fun _ _ => rfl
  have cAa : ∀ (x y : Std.Format), cA v (.append x y) = cA v x + cA v y := fun _ _ => rfl
  refine eW_ind (V := W) (M := fun u => usL nU v (cxL u) = cU v u ∧ usL nA v (cxL u) = cA v u) ?_ ?_ ?_ ?_ ?_ ?_ (sp_z u) u (Nat.le_refl _) h
  · intro c y z w hs _ hy hz hw
    have ns : ¬ stS (sp_s c) := by unfold stS; omega
    show usL nU v (cxL (.tag c _)) = cU v (.tag c _) ∧ usL nA v (cxL (.tag c _)) = cA v (.tag c _)
    rw [tU _ _ ns, tA _ _ ns, cUt, cAt, ap, ap, ap, ap, cUa, cUa, cAa, cAa, hy.1, hz.1, hw.1, hy.2, hz.2, hw.2]
    exact ⟨rfl, rfl⟩
  · intro c y z hs _ hy hz
    have ns : ¬ stS (sp_s c) := by unfold stS; omega
    show usL nU v (cxL (.tag c _)) = cU v (.tag c _) ∧ usL nA v (cxL (.tag c _)) = cA v (.tag c _)
    rw [tU _ _ ns, tA _ _ ns, cUt, cAt, ap, ap, cUa, cAa, hy.1, hz.1, hy.2, hz.2]
    exact ⟨rfl, rfl⟩
  · intro c x hs _ hx
    have ns : ¬ stS (sp_s c) := by unfold stS; omega
    show usL nU v (cxL (.tag c _)) = cU v (.tag c _) ∧ usL nA v (cxL (.tag c _)) = cA v (.tag c _)
    rw [tU _ _ ns, tA _ _ ns, cUt, cAt, hx.1, hx.2]
    exact ⟨rfl, rfl⟩
  · intro c x hs _ hx
    have ns : ¬ stS (sp_s c) := by unfold stS; omega
    show usL nU v (cxL (.tag c _)) = cU v (.tag c _) ∧ usL nA v (cxL (.tag c _)) = cA v (.tag c _)
    rw [tU _ _ ns, tA _ _ ns, cUt, cAt, hx.1, hx.2]
    exact ⟨rfl, rfl⟩
  · intro c hs _
    have ns : ¬ stS (sp_s c) := by unfold stS; omega
    show usL nU v (cxL (.tag c _)) = cU v (.tag c _) ∧ usL nA v (cxL (.tag c _)) = cA v (.tag c _)
    rw [tU _ _ ns, tA _ _ ns, cUt, cAt]
    exact ⟨rfl, rfl⟩
  · intro c hs _
    have ns : ¬ stS (sp_s c) := by unfold stS; omega
    show usL nU v (cxL (.tag c _)) = cU v (.tag c _) ∧ usL nA v (cxL (.tag c _)) = cA v (.tag c _)
    rw [tU _ _ ns, tA _ _ ns, cUt, cAt]
    exact ⟨rfl, rfl⟩
theorem usL_all {V : Nat} {t : Std.Format} (ht : fT V t) (v : Nat) : usL nU v (cxL t) = uS v t ∧ usL nA v (cxL t) = aS v t := by
  have ap : ∀ (S : Nat → Prop) [DecidablePred S] (x y : Std.Format), usL S v (cxL (.append x y)) = usL S v (cxL x) + usL S v (cxL y) := fun S _ x y => usL_app S v _ _
  have tg : ∀ (S : Nat → Prop) [DecidablePred S] (c : Nat) (x : Std.Format), stS (sp_s c) → usL S v (cxL (.tag c x)) = usL S v (cxL x) := by
    intro S _ c x hs
    show (if ¬ stS (sp_s c) ∧ sp_v c = v + 1 ∧ S (sp_s c) then 1 else 0) + usL S v (cxL x) = _
    rw [if_neg (fun k => k.1 hs), Nat.zero_add]
  have us : ∀ (c : Nat) (x : Std.Format), stS (sp_s c) → uS v (.tag c x) = uS v x ∧ aS v (.tag c x) = aS v x := by
    intro c x hs
    show (if stS (sp_s c) then uS v x else _) = _ ∧ (if stS (sp_s c) then aS v x else _) = _
    rw [if_pos hs, if_pos hs]
    exact ⟨rfl, rfl⟩
  have ua : ∀ (x y : Std.Format), uS v (.append x y) = uS v x + uS v y ∧ aS v (.append x y) = aS v x + aS v y := fun _ _ => ⟨rfl, rfl⟩
  refine fT_ind (V := V) (M := fun t => usL nU v (cxL t) = uS v t ∧ usL nA v (cxL t) = aS v t) ?_ ?_ ?_ ?_ ?_ ?_ ?_ _ t (Nat.lt_succ_self _) ht
  · intro x y hx hy
    show usL nU v (cxL (.append x y)) = uS v (.append x y) ∧ usL nA v (cxL (.append x y)) = aS v (.append x y)
    rw [ap, ap, (ua x y).1, (ua x y).2, hx.1, hx.2, hy.1, hy.2]
    exact ⟨rfl, rfl⟩
  · exact ⟨rfl, rfl⟩
  · exact ⟨rfl, rfl⟩
  · intro c x hs h8 hx
    show usL nU v (cxL (.tag c x)) = uS v (.tag c x) ∧ usL nA v (cxL (.tag c x)) = aS v (.tag c x)
    rw [tg _ _ _ hs, tg _ _ _ hs, (us c x hs).1, (us c x hs).2]
    exact hx
  · intro c u w z h8 _ hu hw hz
    have hs : stS (sp_s c) := by rw [h8]; decide
    show usL nU v (cxL (.tag c _)) = uS v (.tag c _) ∧ usL nA v (cxL (.tag c _)) = aS v (.tag c _)
    rw [tg _ _ _ hs, tg _ _ _ hs, (us c _ hs).1, (us c _ hs).2, ap, ap, ap, ap, (ua _ _).1, (ua _ _).2, (ua _ _).1, (ua _ _).2, hu.1, hu.2, hw.1, hw.2, hz.1, hz.2]
    exact ⟨rfl, rfl⟩
  · intro c u w hs he _ _
    show usL nU v (cxL (.tag c _)) = uS v (.tag c _) ∧ usL nA v (cxL (.tag c _)) = aS v (.tag c _)
    rw [(uS_e he v).1, (uS_e he v).2]
    exact usL_e he v
  · intro c x hs he _ _
    show usL nU v (cxL (.tag c _)) = uS v (.tag c _) ∧ usL nA v (cxL (.tag c _)) = aS v (.tag c _)
    rw [(uS_e he v).1, (uS_e he v).2]
    exact usL_e he v
theorem usL_cQ (S : Nat → Prop) [DecidablePred S] (v : Nat) (Q : Nat → Prop) [DecidablePred Q] : ∀ (l : List (Nat × Std.Format)) (p : Nat), (∀ k x, l[k]? = some x → (Q (p + k) ↔ (¬ stS (sp_s x.1) ∧ sp_v x.1 = v + 1 ∧ S (sp_s x.1)))) → cQ Q l.length p = usL S v l
  | [], _, _ => rfl
  | x :: l, p, h => by
    have h0 := h 0 x rfl
    rw [Nat.add_zero] at h0
    have ih := usL_cQ S v Q l (p + 1) (fun k y hy => by
      have := h (k + 1) y hy
      rw [show p + 1 + k = p + (k + 1) by omega]
      exact this)
    show (if Q p then 1 else 0) + cQ Q l.length (p + 1) = (if ¬ stS (sp_s x.1) ∧ sp_v x.1 = v + 1 ∧ S (sp_s x.1) then 1 else 0) + usL S v l
    rw [ih]
    by_cases c : Q p
    · rw [if_pos c, if_pos (h0.mp c)]
    · rw [if_neg c, if_neg (fun u => c (h0.mpr u))]
section VR2
variable {a b : Nat → Nat → Int32} {V : Nat} {t : Std.Format} {f : Nat → Int64}
theorem vr_iff (hC : CU a V t) (hU : RU b V t) {j : Nat} (hj : j < sp_z t) {v : Nat} (hv : v < V) : (b r_isStmt (ID t j) = 0 ∧ b r_variable (ID t j) = nI v) ↔ (¬ stS (SO t j) ∧ sp_v (CO t j) = v + 1) := by
  have hV := hC.1.1.2
  have iS := isS_1 hU hj
  have i0 : b r_isStmt (ID t j) = 0 ↔ ¬ stS (SO t j) := ⟨fun e u => iS.mpr u e, fun u => Classical.byContradiction (fun e => u (iS.mp e))⟩
  rw [i0]
  refine and_congr_right (fun ns => ?_)
  have ev := e_var hC hU hj ns
  have he := (SH_all hC.1.2.1 hj).2 ns
  by_cases s : SO t j = 61 ∨ (97 ≤ SO t j ∧ SO t j ≤ 122)
  · have k := ev.1 s
    have g : 1 ≤ sp_v (CO t j) ∧ sp_v (CO t j) ≤ V := by
      rcases s with s | s
      · exact ((eW_61 s).mp he).1
      · exact ((eW_nm s).mp he).1
    have er : VR t j = sp_v (CO t j) - 1 := by unfold VR; rw [if_neg ns]
    rw [k.1.2, er, nI_eq (by omega) (by omega)]
    omega
  · have k := ev.2 s
    rw [k.2, eW_v0 he s]
    exact ⟨fun u => absurd u.symm (nN _ (by omega)), fun u => by omega⟩
theorem cnt_eq (hC : CU a V t) (hU : RU b V t) {v : Nat} (hv : v < V) : cQ (fun p => (b r_isStmt p = 0 ∧ b r_variable p = nI v) ∧ ¬ b r_sort p = 61) (sp_z t) 0 = uS v t ∧ cQ (fun p => (b r_isStmt p = 0 ∧ b r_variable p = nI v) ∧ b r_sort p = 61) (sp_z t) 0 = aS v t := by
  have ht := hC.1.2.2
  have len : (cxL t).length = sp_z t := by rw [← nL_cx ht 0 0 0 0 0 [] 0, List.length_map, nL_len ht]
  have u := usL_all ht v
  have at1 : ∀ k x, (cxL t)[k]? = some x → k < sp_z t ∧ CO t k = x.1 := fun k x hk => ⟨by rw [← len]; exact (List.getElem?_eq_some_iff.mp hk).1, (CX_eq (c := x.1) (x := x.2) hk).1⟩
  constructor
  · rw [← cQ_perm (g := ID t) (fun i hi => ID_lt hi) (fun i j hi hj e => ID_inj hi hj e), ← u.1, ← len]
    refine usL_cQ nU v _ (cxL t) 0 (fun k x hk => ?_)
    obtain ⟨lk, ek⟩ := at1 k x hk
    have s61 : b r_sort (ID t k) = 61 ↔ SO t k = 61 := RU_is hU lk (s := 61) (by decide)
    have g := vr_iff hC hU lk hv
    rw [Nat.zero_add, g, s61, ← ek]
    exact and_assoc
  · rw [← cQ_perm (g := ID t) (fun i hi => ID_lt hi) (fun i j hi hj e => ID_inj hi hj e), ← u.2, ← len]
    refine usL_cQ nA v _ (cxL t) 0 (fun k x hk => ?_)
    obtain ⟨lk, ek⟩ := at1 k x hk
    have s61 : b r_sort (ID t k) = 61 ↔ SO t k = 61 := RU_is hU lk (s := 61) (by decide)
    have g := vr_iff hC hU lk hv
    rw [Nat.zero_add, g, s61, ← ek]
    exact and_assoc
theorem cb_eq (h : SameU a b V t f) {v : Nat} (hv : v < V) (h1 : a c_V_couldBeFinal v = 1) : ∀ p, p ≤ sp_z t → (cbF a (sp_z t) V f p v = 0 ∨ cbF a (sp_z t) V f p v = 1) ∧ (cbF a (sp_z t) V f p v = 0 ↔ ∃ j, j < p ∧ (b r_isStmt (ID t j) = 0 ∧ b r_variable (ID t j) = nI v) ∧ b r_sort (ID t j) = 61 ∧ twD b v (ID t j))
  | 0, _ => by
    have e : cbF a (sp_z t) V f 0 v = 1 := h1
    rw [e]
    exact ⟨Or.inr rfl, fun u => absurd u (by decide), fun ⟨j, hj, _⟩ => by omega⟩
  | p + 1, hp => by
    have hC := h.2.1.1.1
    have hU := h.2.2.1
    have hV := hC.1.1.2
    have lp : p < sp_z t := by omega
    have ih := cb_eq h hv h1 p (by omega)
    have s61 : b r_sort (ID t p) = 61 ↔ SO t p = 61 := RU_is hU lp (s := 61) (by decide)
    have c61 : a c_P_sort p = 61 ↔ SO t p = 61 := CU_is hC lp (s := 61) (by decide)
    have key : (a c_P_sort p = 61 ∧ (dO (a c_P_named p) = v + 1 ∧ v < V) ∧ bitI (aOn (stO f (chF a (sp_z t) p 0) 1)) (a c_P_named p)) ↔ ((b r_isStmt (ID t p) = 0 ∧ b r_variable (ID t p) = nI v) ∧ b r_sort (ID t p) = 61 ∧ twD b v (ID t p)) := by
      by_cases e : SO t p = 61
      · have ns : ¬ stS (SO t p) := by rw [e]; decide
        have k := (e_var hC hU lp ns).1 (Or.inl e)
        have i0 : b r_isStmt (ID t p) = 0 := Classical.byContradiction (fun u => ns ((isS_1 hU lp).mp u))
        have dO1 : dO (a c_P_named p) = VR t p + 1 := by rw [k.1.1, ← oI_s]; exact dO_oI (by omega)
        rw [dO1, k.1.1, k.1.2]
        constructor
        · rintro ⟨_, ⟨g1, _⟩, g2⟩
          have : VR t p = v := by omega
          rw [this] at g2 ⊢
          exact ⟨⟨i0, rfl⟩, s61.mpr e, (tw_eq h lp e hv).mp g2⟩
        · rintro ⟨⟨_, g1⟩, _, g2⟩
          have : VR t p = v := by rw [nI_eq (by omega) (by omega)] at g1; exact g1
          rw [this]
          exact ⟨c61.mpr e, ⟨rfl, hv⟩, (tw_eq h lp e hv).mpr g2⟩
      · exact ⟨fun u => absurd (c61.mp u.1) e, fun u => absurd (s61.mp u.2.1) e⟩
    unfold cbF
    by_cases q : a c_P_sort p = 61 ∧ (dO (a c_P_named p) = v + 1 ∧ v < V) ∧ bitI (aOn (stO f (chF a (sp_z t) p 0) 1)) (a c_P_named p)
    · rw [if_pos q]
      exact ⟨Or.inl rfl, fun _ => ⟨p, by omega, key.mp q⟩, fun _ => rfl⟩
    · rw [if_neg q]
      refine ⟨ih.1, ih.2.trans ⟨fun ⟨j, hj, g⟩ => ⟨j, by omega, g⟩, fun ⟨j, hj, g⟩ => ⟨j, ?_, g⟩⟩⟩
      have : ¬ j = p := fun e => q (key.mpr (by rw [← e]; exact g))
      omega
end VR2
