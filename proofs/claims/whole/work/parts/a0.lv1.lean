/-! leaving: the T's around -/
def UJ (t : Std.Format) : Prop := jT [] t 0 ∧ dpS t ≤ 20 ∧ wS t ≤ 240
def MJ (so en : Nat → Nat) (t : Std.Format) : Prop := ∀ (cx : kx_T) (b : Nat), jT cx t b → soOf so t b → enOf en t b → ancK so en cx b (sp_z t) → (∀ e ∈ cx, stS e.2) → ∀ (i c : Nat) (x : Std.Format), (cxL t)[i]? = some (c, x) → (sp_s c = 66 ∨ sp_s c = 67) → ∃ j, sp_pl c = j + 1 ∧ (j < b + i ∧ b + i + 1 + sp_z x ≤ en j) ∧ stS (so j) ∧ ¬ so j = 84
theorem MJ_app {so en : Nat → Nat} {x y : Std.Format} (hx : MJ so en x) (hy : MJ so en y) : MJ so en (.append x y) := by
  intro cx b hj hs he ha hst i c z hi hc
  rw [jT_a] at hj
  have hi : (cxL x ++ cxL y)[i]? = some (c, z) := hi
  rcases get_app hi with h | ⟨j, e, h⟩
  · exact hx cx b hj.1 (soOf_l hs) (enOf_l he) (ancK_le ha (Nat.le_refl _) (by rw [sp_z_a]; omega)) hst i c z h hc
  · rw [cxL_len] at e
    obtain ⟨k, h1, h2, h3⟩ := hy cx _ hj.2 (soOf_r hs) (enOf_r he) (ancK_le ha (by omega) (by rw [sp_z_a]; omega)) hst j c z h hc
    exact ⟨k, h1, ⟨by omega, by omega⟩, h3⟩
theorem MJ_S {so en : Nat → Nat} {c : Nat} {x : Std.Format} (hs : stS (sp_s c)) (hx : MJ so en x) : MJ so en (.tag c x) := by
  intro cx b hj hso hen ha hst i c' z hi hc
  rw [jT_tag, if_pos hs] at hj
  have s1 := soOf_t hso
  have e1 := enOf_t hen
  cases i with
  | zero =>
    have hi : some (c, x) = some (c', z) := hi
    cases hi
    obtain ⟨j, s, h1, h2, h3⟩ := hj.1 hc
    have h4 := ha _ h1
    have h5 := hst _ h1
    refine ⟨j, h2, ⟨by omega, ?_⟩, by rw [h4.2.2]; exact h5, by rw [h4.2.2]; exact h3⟩
    have h6 : b + (sp_z x + 1) ≤ en j := h4.2.1
    omega
  | succ i =>
    have hi : (cxL x)[i]? = some (c', z) := hi
    obtain ⟨j, h1, h2, h3⟩ := hx ((b, sp_s c) :: cx) (b + 1) hj.2 s1.2 e1.2 (anc_kid ha s1.1 e1.1 (by omega) (by omega) rfl) (fun e he => by
      rcases List.mem_cons.mp he with rfl | he
      · exact hs
      · exact hst e he) i c' z hi hc
    exact ⟨j, h1, ⟨by omega, by omega⟩, h3⟩
theorem MJ_all {V : Nat} {so en : Nat → Nat} {t : Std.Format} (ht : fT V t) : MJ so en t := by
  refine fT_ind (V := V) (M := MJ so en) ?_ ?_ ?_ ?_ ?_ ?_ ?_ _ t (Nat.lt_succ_self _) ht
  · exact fun x y hx hy => MJ_app hx hy
  · intro cx b _ _ _ _ _ i c x h; cases h
  · intro cx b _ _ _ _ _ i c x h; cases h
  · exact fun c x hs _ hx => MJ_S hs hx
  · intro c u v w h8 _ hu hv hw
    exact MJ_S (by rw [h8]; unfold stS; omega) (MJ_app hu (MJ_app hv hw))
  · intro c u v hs he _ _ cx b _ _ _ _ _ i c' z hi hc
    exact absurd (by unfold stS; omega) (eW_notS (eW_sub _ _ (Nat.lt_succ_self _) he i c' z hi))
  · intro c x hs he _ _ cx b _ _ _ _ _ i c' z hi hc
    exact absurd (by unfold stS; omega) (eW_notS (eW_sub _ _ (Nat.lt_succ_self _) he i c' z hi))
/-- where B and C go -/
theorem JT {V : Nat} {t : Std.Format} (ht : fT V t) (hW : sW V 1 [] t 0) (hj : jT [] t 0) {q : Nat} (hq : q < sp_z t) (hs : SO t q = 66 ∨ SO t q = 67) : (sp_pl (CO t q) = TG t q + 1 ∧ TG t q < q ∧ q < EN t (TG t q)) ∧ (stS (SO t (TG t q)) ∧ ¬ SO t (TG t q) = 84) ∧ (SO t q = 67 → is_lp (SO t (TG t q))) := by
  obtain ⟨j, h1, h2, h3⟩ := MJ_all (so := SO t) (en := EN t) ht [] 0 hj soOf_unit enOf_unit (fun e he => nomatch he) (fun e he => nomatch he) q _ _ (CX_get hq) hs
  have e : TG t q = j := by show sp_pl (CO t q) - 1 = j; omega
  rw [Nat.zero_add] at h2
  rw [e]
  refine ⟨⟨h1, h2.1, by omega⟩, h3, fun c => ?_⟩
  obtain ⟨cx, hsw, hcx⟩ := (SH_all hW hq).1 (by show stS (SO t q); unfold stS; omega)
  obtain ⟨-, i, s, g1, g2, g3⟩ := (sW_jump hs).mp hsw
  have : i = j := by omega
  subst this
  have := (hcx _ g1).2.2
  rw [this]
  exact g3 c
/-- the chain of T's around ends within k -/
def chl (a : Nat → Nat → Int32) : Nat → Nat → Prop
  | 0, T => T = 0
  | k + 1, T => T = 0 ∨ chl a k (dO (a c_P_tryAround (T - 1)))
theorem chl_s {a : Nat → Nat → Int32} : ∀ (k T : Nat), chl a k T → chl a (k + 1) T
  | 0, _, h => Or.inl h
  | k + 1, T, h => h.imp_right (chl_s k _)
theorem chl_le {a : Nat → Nat → Int32} {k T : Nat} (h : chl a k T) : ∀ k', k ≤ k' → chl a k' T := by
  intro k' hk
  obtain ⟨d, rfl⟩ : ∃ d, k' = k + d := ⟨k' - k, by omega⟩
  clear hk
  induction d with
  | zero => exact h
  | succ d ih => exact chl_s _ _ ih
theorem LkS_e {W : Nat} {a : Nat → Nat → Int32} : ∀ (N : Nat) (t : Std.Format), SizeOf.sizeOf t < N → eW W t → ∀ (b o k ta tp : Nat) (md : Bool), LkS a t b o k ta tp md → ∀ i, i < sp_z t → a c_P_tryAround (b + i) = oI ta ∧ a c_P_tryPart (b + i) = oI tp
  | 0, _, h, _ => by omega
  | N + 1, t, hN, ht => by
    obtain ⟨c0, x0, rfl, -⟩ := eW_tag ht
    have hns := eW_notS ht
    have h84 : ¬ sp_s c0 = 84 := fun e => hns (by rw [e]; unfold stS; omega)
    intro b o k ta tp md h i hi
    rw [sp_z_t] at hi
    have hN : 1 + SizeOf.sizeOf c0 + SizeOf.sizeOf x0 < N + 1 := hN
    cases i with
    | zero => exact (LkS_tag h).2
    | succ i =>
      have hk := LkS_n84 h84 h
      rw [show b + (i + 1) = b + 1 + i by omega]
      rcases (eW_shape ht).2 with ⟨u, v, rfl, hu, hv⟩ | ⟨-, hx⟩
      · have hN : 1 + SizeOf.sizeOf c0 + (1 + SizeOf.sizeOf u + SizeOf.sizeOf v) < N + 1 := hN
        rw [LkS_a] at hk
        rw [sp_z_a] at hi
        by_cases c : i < sp_z u
        · exact LkS_e N u (by omega) hu _ _ _ _ _ _ hk.1 i c
        · rw [show b + 1 + i = b + 1 + sp_z u + (i - sp_z u) by omega]
          rcases hv with hv | ⟨y, z, rfl, hy, hz⟩
          · exact LkS_e N v (by omega) hv _ _ _ _ _ _ hk.2 _ (by omega)
          · have hN : 1 + SizeOf.sizeOf c0 + (1 + SizeOf.sizeOf u + (1 + SizeOf.sizeOf y + SizeOf.sizeOf z)) < N + 1 := hN
            have hk2 := hk.2
            rw [LkS_a] at hk2
            rw [sp_z_a] at hi
            by_cases c2 : i - sp_z u < sp_z y
            · exact LkS_e N y (by omega) hy _ _ _ _ _ _ hk2.1 _ c2
            · rw [show b + 1 + sp_z u + (i - sp_z u) = b + 1 + sp_z u + sp_z y + (i - sp_z u - sp_z y) by omega]
              exact LkS_e N z (by omega) hz _ _ _ _ _ _ hk2.2 _ (by omega)
      · rcases hx with rfl | hx
        · exact absurd hi (by show ¬ i + 1 < 0 + 1; omega)
        · exact LkS_e N x0 (by omega) hx _ _ _ _ _ _ hk i (by omega)
def MC (a : Nat → Nat → Int32) (t : Std.Format) : Prop := ∀ (b o k ta tp : Nat) (md : Bool) (n : Nat), LkS a t b o k ta tp md → ta ≤ 300 → b + sp_z t ≤ 300 → chl a n ta → ∀ i, i < sp_z t → chl a (n + dpS t) (dO (a c_P_tryAround (b + i)))
theorem MC_app {a : Nat → Nat → Int32} {x y : Std.Format} (hx : MC a x) (hy : MC a y) : MC a (.append x y) := by
  intro b o k ta tp md n h h1 h2 h3 i hi
  rw [LkS_a] at h
  rw [sp_z_a] at h2 hi
  have e : dpS (.append x y) = max (dpS x) (dpS y) := rfl
  rw [e]
  by_cases c : i < sp_z x
  · exact chl_le (hx _ _ _ _ _ _ n h.1 h1 (by omega) h3 i c) _ (by omega)
  · rw [show b + i = b + sp_z x + (i - sp_z x) by omega]
    exact chl_le (hy _ _ _ _ _ _ n h.2 h1 (by omega) h3 _ (by omega)) _ (by omega)
theorem MC_all {V : Nat} {a : Nat → Nat → Int32} {t : Std.Format} (ht : fT V t) : MC a t := by
  refine fT_ind (V := V) (M := MC a) ?_ ?_ ?_ ?_ ?_ ?_ ?_ _ t (Nat.lt_succ_self _) ht
  · exact fun x y hx hy => MC_app hx hy
  · intro b o k ta tp md n _ _ _ _ i hi; exact absurd hi (by show ¬ i < 0; omega)
  · intro b o k ta tp md n _ _ _ _ i hi; exact absurd hi (by show ¬ i < 0; omega)
  · intro c x hs h8 hx b o k ta tp md n h h1 h2 h3 i hi
    have e : dpS (.tag c x) = 1 + dpS x := by show (if stS (sp_s c) then _ else _) = _; rw [if_pos hs]
    rw [e]
    rw [sp_z_t] at h2 hi
    cases i with
    | zero =>
      have := (LkS_tag h).2.1
      rw [Nat.add_zero, this, dO_oI (by omega)]
      exact chl_le h3 _ (by omega)
    | succ i =>
      rw [show b + (i + 1) = b + 1 + i by omega]
      exact chl_le (hx _ _ _ _ _ _ n (LkS_n84 h8 h) h1 (by omega) h3 i (by omega)) _ (by omega)
  · intro c u v w h8 _ hu hv hw b o k ta tp md n h h1 h2 h3 i hi
    have hs : stS (sp_s c) := by rw [h8]; unfold stS; omega
    have e : dpS (.tag c (.append u (.append v w))) = 1 + max (dpS u) (max (dpS v) (dpS w)) := by show (if stS (sp_s c) then _ else _) = _; rw [if_pos hs]; rfl
    rw [e]
    have ht := (LkS_tag h).2.1
    obtain ⟨u', v', w', e', k1, k2, k3⟩ := LkS_84 h8 h
    cases e'
    have ch : chl a (n + 1) (b + 1) := by
      refine Or.inr ?_
      rw [Nat.add_sub_cancel, ht, dO_oI (by omega)]
      exact h3
    rw [sp_z_t, sp_z_a, sp_z_a] at h2 hi
    cases i with
    | zero =>
      rw [Nat.add_zero, ht, dO_oI (by omega)]
      exact chl_le h3 _ (by omega)
    | succ i =>
      by_cases c1 : i < sp_z u
      · rw [show b + (i + 1) = b + 1 + i by omega]
        exact chl_le (hu _ _ _ _ _ _ (n + 1) k1 (by omega) (by omega) ch i c1) _ (by omega)
      · by_cases c2 : i < sp_z u + sp_z v
        · rw [show b + (i + 1) = b + 1 + sp_z u + (i - sp_z u) by omega]
          exact chl_le (hv _ _ _ _ _ _ (n + 1) k2 (by omega) (by omega) ch _ (by omega)) _ (by omega)
        · rw [show b + (i + 1) = b + 1 + sp_z u + sp_z v + (i - sp_z u - sp_z v) by omega]
          exact chl_le (hw _ _ _ _ _ _ (n + 1) k3 (by omega) (by omega) ch _ (by omega)) _ (by omega)
  · intro c u v hs he _ _ b o k ta tp md n h h1 h2 h3 i hi
    rw [(LkS_e _ _ (Nat.lt_succ_self _) he _ _ _ _ _ _ h i hi).1, dO_oI (by omega)]
    exact chl_le h3 _ (by omega)
  · intro c x hs he _ _ b o k ta tp md n h h1 h2 h3 i hi
    rw [(LkS_e _ _ (Nat.lt_succ_self _) he _ _ _ _ _ _ h i hi).1, dO_oI (by omega)]
    exact chl_le h3 _ (by omega)
theorem chl_20 {V : Nat} {a : Nat → Nat → Int32} {t : Std.Format} (ht : fT V t) (hl : LkS a t 0 0 0 0 0 false) (hz : sp_z t ≤ 240) (hd : dpS t ≤ 20) {i : Nat} (hi : i < sp_z t) : chl a 20 (dO (a c_P_tryAround i)) := by
  have := MC_all ht 0 0 0 0 0 false 0 hl (by omega) (by omega) rfl i hi
  rw [Nat.zero_add, Nat.zero_add] at this
  exact chl_le this _ hd
