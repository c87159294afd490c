/-! one walk, both sides -/
section EQ1
variable {a b : Nat → Nat → Int32} {V : Nat} {t : Std.Format} {K : Nat → Nat} {Wf : wL_T} {on : Nat → Int32} {E : eL_T} {root : Int32} {fr to : Nat} {I : Nat → Prop} {en : Nat → Nat → Nat} {v : Nat} {vr : Int32} {fm f : Nat → Int64} {s : Int64} {b0 : Nat}
def nodeEQ (t : Std.Format) (C : Nat → Nat → Prop) (H : pL_T) (j z : Nat) : Prop :=
  (C j z ↔ (5 * ID t j + 0, z) ∈ H) ∧ (¬ stS (SO t j) → (C (241 + j) z ↔ (5 * ID t j + 1, z) ∈ H) ∧ (C (482 + j) z ↔ (5 * ID t j + 2, z) ∈ H)) ∧ (stS (SO t j) → ((C (241 + j) z ↔ (5 * ID t j + 3, z) ∈ H) ∧ ¬ C (482 + j) z)) ∧ (SO t j = 61 → (C (241 + (j + 1)) z ↔ (5 * ID t j + 3, z) ∈ H) ∧ (C (482 + (j + 1)) z ↔ (5 * ID t j + 4, z) ∈ H))
/-- where a walk starts in the reference -/
def stX0 (t : Std.Format) (root : Int32) (x0 : Nat) : Prop := (root = -1 ∧ x0 = 3599) ∨ ∃ ρ, ρ < sp_z t ∧ root = nI ρ ∧ x0 = 1301 + 3 * ρ + 1
theorem i35 {M : Nat → Nat → Nat → Prop} {C : Nat → Nat → Prop} {z : Nat} (hN : sp_z t ≤ 240) (hlw : Wf.length < 1499) (h : C (if to ≤ fr then 964 else fr) z) : Phi a t Wf root fr to M C 3599 z := by
  refine ⟨⟨fun i hi e => ?_, fun i hi e => ?_, fun i hi e => ?_⟩, ⟨fun i hi e => ?_, fun i hi e => ?_⟩, ⟨fun e => ?_, fun q hq e => ?_, fun q hq e => ?_, fun q hq e => ?_⟩, fun w' T' c' e hw' => ?_, fun e => ?_⟩
  · have := ID_lt hi; omega
  · have := ID_lt hi; omega
  · have := ID_lt hi; omega
  · have := ID_lt hi; omega
  · have := ID_lt hi; omega
  · omega
  · omega
  · omega
  · omega
  · have := get_lt hw'
    rw [List.length_reverse] at this
    omega
  · exact h
theorem walk_eq (w : WC a b V t K Wf on E) (hZ : tZ t) (hg : RGE a b t K Wf root fr to I) (hM : MEq t fr to (MM v fm) en) (hL : LN V v vr) (hb0 : b0 < 2) (hle : leastC a (sp_z t) root fm fr to s f) (hs : ∀ z, z < 2 → (LB v b0 s z ↔ z = b0)) {x0 : Nat} (hx0 : stX0 t root x0) {H : pL_T} (hQ : walkQ E Wf on en vr I (vP (sp_z t) Wf) [(x0, b0)] H) : (∀ j z, fr ≤ j → j < to → z < 2 → nodeEQ t (CB v b0 f) H j z) ∧ (∀ z, z < 2 → (root = -1 → (CB v b0 f 964 z ↔ (1300, z) ∈ H)) ∧ ∀ ρ, ρ < sp_z t → root = nI ρ → (CB v b0 f 964 z ↔ (1301 + 3 * ρ + 2, z) ∈ H)) := by
  have hc := w.1.1
  have hr := w.1.2
  have hN := CU_N hc
  have hcl := rg_cl hc hg
  have h0 := hL.2.1
  have hle := hle v b0 hL.1 hb0
  have hR : clR E Wf on en vr I (fun x z => (x, z) ∈ H) := fun p z hz h1 h2 => hQ.2.2.1 (p, z) h1 h2
  have hH0 : (x0, b0) ∈ H := hQ.2.1 _ List.mem_cons_self
  have hlw := w.2.2.2.2.1
  -- the class's set within the reference's
  have sub1 : subF v b0 f (PsR t Wf root fr to (fun x z => (x, z) ∈ H)) := by
    refine hle.2.2 _ (fun q h1 h2 => ⟨PS_clB w hZ hg hM hR hL ⟨h1, h2⟩, PS_clO w hg hM hR hL ⟨h1, h2⟩⟩) (fun x z h1 h2 => absurd h2 h1) (fun z hz h1 => ?_)
    have hz0 := (hs z hz).mp h1
    subst hz0
    rcases hx0 with ⟨hro, rfl⟩ | ⟨ρ, hρ, hro, rfl⟩
    · have hft : fr = 0 ∧ to = sp_z t := by
        rcases hg with ⟨-, h1, h2, -⟩ | ⟨ρ, z1, -, z3, -⟩
        · exact ⟨h1, h2⟩
        · rw [hro] at z3; exact absurd z3.symm (nI_ne_m1 (by omega))
      have hI := (in_out hc hg).2.mpr hro
      rw [hft.1, hft.2]
      rcases lnk_0 (RT_lnk (t := t)) with ⟨n1, n2⟩ | ⟨n1, n2⟩
      · rw [if_pos (by omega)]
        have x1 := stepR hR (f := 3599) (s := 1300) ((w.2.2.1.2 _).mpr (Or.inl (by rw [chM_iff]; exact Or.inr (Or.inl ⟨n1, rfl, nI_ne_m1 (by omega)⟩)))) (by omega) hz hH0 hI
        rw [h0] at x1
        exact fun _ => jZ1 hN (fun _ => x1) (fun ρ hρ hρ2 => absurd (hro.symm.trans hρ2).symm (nI_ne_m1 (by omega)))
      · rw [if_neg (by omega)]
        have := ID_lt (t := t) (i := 0) (by omega)
        have x1 := stepR hR (f := 3599) (s := 5 * ID t 0 + 0) ((w.2.2.1.2 _).mpr (Or.inl (by rw [chM_iff]; exact Or.inl ⟨0, n1, rfl⟩))) (by omega) hz hH0 hI
        rw [h0] at x1
        exact fun _ => jB hN (by omega) x1
    · rcases hg' : hg with ⟨z1, -, -, -⟩ | ⟨ρ', z1, z2, z3, z4, z5, -⟩
      · rw [z1] at hro; exact absurd hro.symm (nI_ne_m1 (by omega))
      · rw [z3, nI_eq (by omega) (by omega)] at hro
        subst hro
        obtain ⟨u, y, y2, e, e1, e2⟩ := rg_T hc z1 z2.1 z2.2 z4.1 z4.2
        obtain ⟨u', y', y2', e', ⟨-, l3, ez⟩, -⟩ := W_T hc z1 z2.1
        rw [e] at e'
        cases e'
        have hst : stS (SO t ρ') := by rw [z2.1]; unfold stS; omega
        have hI := (in_try hc hr w.2.2.1.1 hg z1 hst (k := 1) (by omega)).mpr (Or.inr ⟨z3, by omega⟩)
        have hEN := EN_le z1
        rw [← e1] at l3
        rcases lnk_0 l3 with ⟨n1, n2⟩ | ⟨n1, n2⟩
        · rw [if_pos (by omega)]
          have x1 := stepR hR (f := 1301 + 3 * ρ' + 1) (s := 1301 + 3 * ρ' + 2) (E_own w z1 (by rw [ow_84 hr z1 z2.1 e (T_pl hc z1 z2.1), ← e1]; exact Or.inl ⟨z2.2, by rw [chM_iff]; exact Or.inr (Or.inl ⟨n1, rfl, nI_ne_m1 (by omega)⟩)⟩)) (by omega) hz hH0 hI
          rw [h0] at x1
          refine fun _ => jZ1 hN (fun u => ?_) (fun ρ hρ3 hρ2 => ?_)
          · rw [z3] at u; exact absurd u (nI_ne_m1 (by omega))
          · rw [z3, nI_eq (by omega) (by omega)] at hρ2
            rw [← hρ2]; exact x1
        · rw [if_neg (by omega)]
          have := ID_lt (t := t) (i := fr) (by omega)
          have x1 := stepR hR (f := 1301 + 3 * ρ' + 1) (s := 5 * ID t fr + 0) (E_own w z1 (by rw [ow_84 hr z1 z2.1 e (T_pl hc z1 z2.1), ← e1]; exact Or.inl ⟨z2.2, by rw [chM_iff]; exact Or.inl ⟨fr, n1, rfl⟩⟩)) (by omega) hz hH0 hI
          rw [h0] at x1
          exact fun _ => jB hN (by omega) x1
  -- the reference's within the class's
  have sub2 : ∀ x ∈ H, I x.1 → Phi a t Wf root fr to (MM v fm) (CB v b0 f) x.1 x.2 := by
    refine hQ.2.2.2 (fun p z => I p → Phi a t Wf root fr to (MM v fm) (CB v b0 f) p z) (fun x hx hI => ?_) (fun p z hz h1 hI => suc_Phi w hg hM hL (fun q h1 h2 => (hle.1 q h1 h2).1) (fun q h1 h2 => (hle.1 q h1 h2).2) hz (h1 hI) hI)
    rw [List.mem_singleton.mp hx] at hI ⊢
    have st := hle.2.1 b0 hb0 ((hs b0 hb0).mpr rfl)
    rcases hx0 with ⟨hro, rfl⟩ | ⟨ρ, hρ, hro, rfl⟩
    · exact i35 hN hlw st
    · exact iN hN hρ (fun _ => st) (fun u => absurd hro u)
  have inI := fun (j k : Nat) (hj : j < sp_z t) (hk : k < 5) (hin : fr ≤ j ∧ j < to) => (in_node hc hr w.2.2.1.1 hg hj hk).mpr hin
  refine ⟨fun j z h1 h2 hz => ?_, fun z hz => ⟨fun hro => ?_, fun ρ hρ hro => ?_⟩⟩
  · have hj : j < sp_z t := by omega
    have hin : fr ≤ j ∧ j < to := ⟨h1, h2⟩
    refine ⟨⟨fun h3 => xB1 hj hin (sub1 j z hz h3), fun h3 => (sub2 _ h3 (inI j 0 hj (by omega) hin)).1.1 j hj rfl⟩, fun hn => ⟨⟨fun h3 => (xT1 hj hin (sub1 _ z hz h3)).2 hn, fun h3 => ((sub2 _ h3 (inI j 1 hj (by omega) hin)).1.2.1 j hj rfl hn).1⟩, ⟨fun h3 => (xF1 hj hin (sub1 _ z hz h3)).2, fun h3 => ((sub2 _ h3 (inI j 2 hj (by omega) hin)).1.2.2 j hj rfl hn).1⟩⟩, fun hst => ⟨⟨fun h3 => (xT1 hj hin (sub1 _ z hz h3)).1 hst, fun h3 => ((sub2 _ h3 (inI j 3 hj (by omega) hin)).2.1.1 j hj rfl).1 hst⟩, fun h3 => (xF1 hj hin (sub1 _ z hz h3)).1 hst⟩, fun h61 => ?_⟩
    have hn : ¬ stS (SO t j) := by rw [h61]; unfold stS; omega
    rcases ks_e hc.1.2.1 hj hn with (⟨c1, -⟩ | ⟨c1, -⟩) | ⟨-, e, hK, g⟩ | ⟨c1, -⟩
    · omega
    · omega
    · have ef := first_kid hc hj hK
      subst ef
      have me := kid_lt hr hj (show j + 1 ∈ KI t j by rw [hK]; exact List.mem_cons_self)
      have hein := rg_kid hc hg hin (show j + 1 ∈ KI t j by rw [hK]; exact List.mem_cons_self)
      have lj := ID_lt hj
      refine ⟨⟨fun h3 => ?_, fun h3 => ((sub2 _ h3 (inI j 3 hj (by omega) hin)).2.1.1 j hj rfl).2 h61⟩, ⟨fun h3 => ?_, fun h3 => (sub2 _ h3 (inI j 4 hj (by omega) hin)).2.1.2 j hj rfl h61⟩⟩
      · exact Rk w hg hR h0 hj me.1 hein (k := 1) (s := 5 * ID t j + 3) (by omega) (by omega) hz (by rw [ow_61 hr hj h61 hK g]; exact Or.inr (Or.inr (Or.inr (Or.inl rfl)))) ((xT1 me.1 hein (sub1 _ z hz h3)).2 g)
      · exact Rk w hg hR h0 hj me.1 hein (k := 2) (s := 5 * ID t j + 4) (by omega) (by omega) hz (by rw [ow_61 hr hj h61 hK g]; exact Or.inr (Or.inr (Or.inl rfl))) (xF1 me.1 hein (sub1 _ z hz h3)).2
    · omega
  · exact ⟨fun h3 => (((sub1 964 z hz h3) (Or.inl rfl)).2.2 rfl).1 hro, fun h3 => (sub2 _ h3 ((in_out hc hg).1.mpr hro)).2.2.1.1 rfl⟩
  · have z2 : SO t ρ = 84 := by
      rcases hg with ⟨z1, -, -, -⟩ | ⟨ρ', z1, z2, z3, -⟩
      · rw [z1] at hro; exact absurd hro.symm (nI_ne_m1 (by omega))
      · rw [z3, nI_eq (by omega) (by omega)] at hro
        rw [← hro]; exact z2.1
    have hst : stS (SO t ρ) := by rw [z2]; unfold stS; omega
    exact ⟨fun h3 => (((sub1 964 z hz h3) (Or.inl rfl)).2.2 rfl).2 ρ hρ hro, fun h3 => (sub2 _ h3 ((in_try hc hr w.2.2.1.1 hg hρ hst (k := 2) (by omega)).mpr (Or.inr ⟨hro, by omega⟩))).2.2.1.2.2.2 ρ hρ rfl hro⟩
end EQ1
