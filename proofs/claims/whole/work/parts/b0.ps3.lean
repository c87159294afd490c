section PS3
variable {a b : Nat → Nat → Int32} {V : Nat} {t : Std.Format} {K : Nat → Nat} {Wf : wL_T} {on : Nat → Int32} {E : eL_T} {root : Int32} {fr to : Nat} {I : Nat → Prop} {M : Nat → Nat → Nat → Prop} {en : Nat → Nat → Nat} {v : Nat} {vr : Int32} {R : Nat → Nat → Prop}
theorem cdOK_2 {c i : Nat} (h : c ≤ 2) : cdOK t c i := fun u => by omega
theorem cdL_2 {c : Nat} (h : c ≤ 2) : cdL t c := fun u => by omega
/-- raising from a place of the range -/
theorem raiseP (w : WC a b V t K Wf on E) (hg : RGE a b t K Wf root fr to I) (hM : MEq t fr to M en) (hR : clR E Wf on en vr I R) (h0 : ∀ z, bt 0 vr z = z) {p k z : Nat} (hp : p < sp_z t) (hin : fr ≤ p ∧ p < to) (hk : k = 0 ∨ (SO t p = 61 ∧ (k = 1 ∨ k = 2))) (hz : z < 2) (h : R (5 * ID t p + k) z) : lvp a (sp_z t) root M (PsR t Wf root fr to R) (fun _ => True) (-1) 1 p z := by
  have hch := w.2.1.1
  by_cases c : TA a p = 0
  · show lvq a (sp_z t) root M (PsR t Wf root fr to R) (fun _ => True) (-1) 1 20 (TA a p) (a c_P_tryPart p) z
    rw [c]
    unfold lvq
    rw [if_pos (Or.inl (by omega))]
    trivial
  · have htr := (trN_eq w.1.1 w.1.2 (K (ID t p)) p hp (w.2.2.1.1 _ (ID_lt hp))).mpr c
    have hiw := (w.2.2.2.1.1 p hp).2 htr
    have e20 := lvA_20 w hp (cdOK_2 (t := t) (c := 2) (i := p) (by omega))
    rw [e20] at hiw
    have key := lv_Psi w hg hM hR h0 (c := 2) (by omega) (cdL_2 (by omega)) 20 p z hin.1 hin.2 (cdOK_2 (by omega)) (hch p hp) hiw hz (fun n => ?_)
    · exact lvq_mono (fun _ _ q => q) (fun _ _ _ => trivial) 20 _ _ _ hz key
    · have he : (5 * ID t p + k, coW Wf 2 (lvT a t (fnl b (sp_z t) 2) 2 20 (TA a p) (a c_P_tryPart p)), (0 : Int32)) ∈ E := by
        refine E_tr w hp ⟨htr, by rw [e20]; exact n, ?_⟩
        rw [e20]
        rcases hk with rfl | ⟨h61, rfl | rfl⟩
        · exact Or.inl rfl
        · exact Or.inr ⟨(RU_is w.1.2 hp (s := 61) (by decide)).mpr h61, Or.inl rfl⟩
        · exact Or.inr ⟨(RU_is w.1.2 hp (s := 61) (by decide)).mpr h61, Or.inr rfl⟩
      have hk5 : k < 5 := by omega
      have := (hR _ z hz h ((in_node w.1.1 w.1.2 w.2.2.1.1 hg hp hk5).mpr hin)).1 _ _ he
      rw [h0] at this
      exact this
/-- the code of a leaving statement -/
theorem cd_eq (w : WC a b V t K Wf on E) {q : Nat} (hq : q < sp_z t) : (SO t q = 82 → cdF b (ID t q) = 1) ∧ (SO t q = 88 → cdF b (ID t q) = 2) ∧ (SO t q = 66 → cdF b (ID t q) = 3 + 2 * TG t q) ∧ (SO t q = 67 → cdF b (ID t q) = 4 + 2 * TG t q) := by
  have hr := w.1.2
  have ne : ∀ s : Nat, s < 256 → ¬ SO t q = s → ¬ b r_sort (ID t q) = nI s := fun s h1 h2 u => h2 ((RU_is hr hq h1).mp u)
  have tg : (SO t q = 66 ∨ SO t q = 67) → dN (b r_target (ID t q)) = TG t q := fun hs => by
    have hst : stS (SO t q) := by unfold stS; omega
    have h1 := JT w.1.1.1.2.2 w.1.1.1.2.1 w.2.1.2 hq hs
    rw [ID_st w.1.1.1.2.2 hq hst, ((RU_S hr hq hst).2.1 hs).2]
    exact nI_clamp (by have := CU_N w.1.1; omega)
  unfold cdF
  refine ⟨fun c => ?_, fun c => ?_, fun c => ?_, fun c => ?_⟩
  · rw [if_pos (show b r_sort (ID t q) = 82 from (RU_is hr hq (s := 82) (by decide)).mpr c)]
  · rw [if_neg (show ¬ b r_sort (ID t q) = 82 from ne 82 (by decide) (by omega)), if_pos (show b r_sort (ID t q) = 88 from (RU_is hr hq (s := 88) (by decide)).mpr c)]
  · rw [if_neg (show ¬ b r_sort (ID t q) = 82 from ne 82 (by decide) (by omega)), if_neg (show ¬ b r_sort (ID t q) = 88 from ne 88 (by decide) (by omega)), if_pos (show b r_sort (ID t q) = 66 from (RU_is hr hq (s := 66) (by decide)).mpr c), tg (Or.inl c)]
  · rw [if_neg (show ¬ b r_sort (ID t q) = 82 from ne 82 (by decide) (by omega)), if_neg (show ¬ b r_sort (ID t q) = 88 from ne 88 (by decide) (by omega)), if_neg (show ¬ b r_sort (ID t q) = 66 from ne 66 (by decide) (by omega)), tg (Or.inr c)]
/-- a leaving statement's code is right -/
theorem cd_ok (w : WC a b V t K Wf on E) {q : Nat} (hq : q < sp_z t) (hs : SO t q = 66 ∨ SO t q = 67 ∨ SO t q = 82 ∨ SO t q = 88) : (cdOK t (cdF b (ID t q)) q ∧ cdL t (cdF b (ID t q))) ∧ ¬ cdF b (ID t q) = 0 ∧ isLv (b r_sort (ID t q)) := by
  have hr := w.1.2
  have ce := cd_eq w hq
  rcases hs with c | c | c | c
  · have j := JT w.1.1.1.2.2 w.1.1.1.2.1 w.2.1.2 hq (Or.inl c)
    have e : tgc (3 + 2 * TG t q) = TG t q := by show (3 + 2 * TG t q - 3) / 2 = TG t q; omega
    rw [ce.2.2.1 c]
    refine ⟨⟨fun _ => ?_, fun _ u => by omega⟩, by omega, Or.inr (Or.inr (Or.inl ((RU_is hr hq (s := 66) (by decide)).mpr c)))⟩
    rw [e]
    exact ⟨j.1.2, j.2.1⟩
  · have j := JT w.1.1.1.2.2 w.1.1.1.2.1 w.2.1.2 hq (Or.inr c)
    have e : tgc (4 + 2 * TG t q) = TG t q := by show (4 + 2 * TG t q - 3) / 2 = TG t q; omega
    rw [ce.2.2.2 c]
    refine ⟨⟨fun _ => ?_, fun _ u => ?_⟩, by omega, Or.inr (Or.inr (Or.inr ((RU_is hr hq (s := 67) (by decide)).mpr c)))⟩
    · rw [e]
      exact ⟨j.1.2, j.2.1⟩
    · rw [e]
      exact j.2.2 c
  · rw [ce.1 c]
    exact ⟨⟨cdOK_2 (by omega), cdL_2 (by omega)⟩, by omega, Or.inl ((RU_is hr hq (s := 82) (by decide)).mpr c)⟩
  · rw [ce.2.1 c]
    exact ⟨⟨cdOK_2 (by omega), cdL_2 (by omega)⟩, by omega, Or.inr (Or.inl ((RU_is hr hq (s := 88) (by decide)).mpr c))⟩
/-- leaving by a statement of the range, from a point of a place of the range -/
theorem leaveP (w : WC a b V t K Wf on E) (hg : RGE a b t K Wf root fr to I) (hM : MEq t fr to M en) (hR : clR E Wf on en vr I R) (h0 : ∀ z, bt 0 vr z = z) {q p k z : Nat} (hq : q < sp_z t) (hqin : fr ≤ q ∧ q < to) (hs : SO t q = 66 ∨ SO t q = 67 ∨ SO t q = 82 ∨ SO t q = 88) (hp : p < sp_z t) (hin : fr ≤ p ∧ p < to) (hk : k < 5) (hz : z < 2) (h : R (5 * ID t p + k) z)
    (he : ¬ coW Wf (cdF b (ID t q)) (lvA b (sp_z t) (cdF b (ID t q)) (K (ID t q)) (ID t q) (b r_around (ID t q))) = -1 → (5 * ID t p + k, coW Wf (cdF b (ID t q)) (lvA b (sp_z t) (cdF b (ID t q)) (K (ID t q)) (ID t q) (b r_around (ID t q))), (0 : Int32)) ∈ own b (sp_z t) (K (ID t q)) (ID t q) Wf []) : LVQ a t root M (PsR t Wf root fr to R) (cdF b (ID t q)) 20 (TA a q) (a c_P_tryPart q) z := by
  have co := cd_ok w hq hs
  have hst : stS (SO t q) := by unfold stS; omega
  have hiw := ((w.2.2.2.1.1 q hq).1 hst).2 co.2.2
  have e20 := lvA_20 w hq co.1.1
  rw [e20] at hiw he
  refine lv_Psi w hg hM hR h0 co.2.1 co.1.2 20 q z hqin.1 hqin.2 co.1.1 (w.2.1.1 q hq) hiw hz (fun n => ?_)
  have := (hR _ z hz h ((in_node w.1.1 w.1.2 w.2.2.1.1 hg hp hk).mpr hin)).1 _ _ (E_own w hq (he n))
  rw [h0] at this
  exact this
/-- what the e of S leads to -/
theorem first_kid (h : CU a V t) {q e : Nat} {L : List Nat} (hq : q < sp_z t) (hK : KI t q = e :: L) : e = q + 1 := by
  have := KI_lnk hq
  rw [hK] at this
  exact this.1.1
/-- the own flows of a place's begin -/
theorem PB_own (w : WC a b V t K Wf on E) (hg : RGE a b t K Wf root fr to I) (hM : MEq t fr to M en) (hR : clR E Wf on en vr I R) (hL : LN V v vr) {p z : Nat} (hp : p < sp_z t) (hin : fr ≤ p ∧ p < to) (hz : z < 2) (h : R (5 * ID t p + 0) z) : clS1 a (sp_z t) root M v (PsR t Wf root fr to R) p z := by
  have hc := w.1.1
  have hr := w.1.2
  have hN := CU_N hc
  have hW := hc.1.2.1
  have h0 := hL.2.1
  have lp := ID_lt hp
  have hI : ∀ k, k < 5 → I (5 * ID t p + k) := fun k hk => (in_node hc hr w.2.2.1.1 hg hp hk).mpr hin
  -- to the first kid
  have kid : ∀ e, e < sp_z t → (5 * ID t p + 0, nI (5 * ID t e + 0), (0 : Int32)) ∈ own b (sp_z t) (K (ID t p)) (ID t p) Wf [] → R (5 * ID t e + 0) z := fun e he hm => by
    have := ID_lt he
    exact Rk w hg hR h0 hp hp hin (by omega) (by omega) hz hm h
  have dflt : bgD (SO t p) → ¬ SO t p = 84 → ¬ SO t p = 123 → ∀ e L, KI t p = e :: L → (5 * ID t p + 0, nI (5 * ID t e + 0), (0 : Int32)) ∈ own b (sp_z t) (K (ID t p)) (ID t p) Wf [] → clS1 a (sp_z t) root M v (PsR t Wf root fr to R) p z := by
    intro hd n84 n123 e L hK hm
    have me := kid_lt hr hp (show e ∈ KI t p by rw [hK]; exact List.mem_cons_self)
    rw [clS_d hc hp hd, bg_K hc hp hd.2.2.2.2.1 hd.2.2.2.2.2.1 n84, if_neg n123, hK]
    show atP _ (oI (e + 1)) z
    rw [oI_s]
    exact (atP_n (by omega)).mpr (fun _ => jB hN me.1 (kid e me.1 hm))
  by_cases cs : stS (SO t p)
  · have c' := cs
    unfold stS at c'
    rcases c' with c' | c' | c' | c' | c' | c' | c' | c' | c' | c' | c' | c' | c' | c' | c'
    · -- $
      have hv := row_V hc hp (Or.inl c')
      have he : (5 * ID t p + 0, nI (5 * ID t p + 3), 20 + nI (VR t p)) ∈ E := E_own w hp (by rw [ow_36 hr hp (Or.inl c')]; exact Or.inl rfl)
      have := stepR hR he (by omega) hz h (hI 0 (by omega))
      rw [hL.2.2.2 _ hv.2] at this
      unfold clS1
      rw [if_pos (show a c_P_sort p = 36 from (CU_is hc hp (s := 36) (by decide)).mpr c'), hv.1.2]
      exact fun _ => jT1 hN hp (fun _ => this) (fun u => absurd cs u)
    · have hv := row_V hc hp (Or.inr (Or.inl c'))
      have he : (5 * ID t p + 0, nI (5 * ID t p + 3), 20 + nI (VR t p)) ∈ E := E_own w hp (by rw [ow_36 hr hp (Or.inr c')]; exact Or.inl rfl)
      have := stepR hR he (by omega) hz h (hI 0 (by omega))
      rw [hL.2.2.2 _ hv.2] at this
      unfold clS1
      rw [if_neg (show ¬ a c_P_sort p = 36 from so_ne hc hp (s := 36) (by decide) (by omega)), if_pos (show a c_P_sort p = 37 from (CU_is hc hp (s := 37) (by decide)).mpr c'), hv.1.2]
      exact fun _ => jT1 hN hp (fun _ => this) (fun u => absurd cs u)
    · -- {
      rw [clS_d hc hp (by rw [c']; unfold bgD; omega), bg_K hc hp (by omega) (by omega) (by omega), if_pos c']
      cases e0 : (KI t p)[0]? with
      | none =>
        have hnil : KI t p = [] := by
          cases hh : KI t p with
          | nil => rfl
          | cons y L => rw [hh] at e0; cases e0
        have he : (5 * ID t p + 0, nI (5 * ID t p + 3), (0 : Int32)) ∈ own b (sp_z t) (K (ID t p)) (ID t p) Wf [] := by
          rw [ow_123 hr hp c', chM_iff]
          exact Or.inl (Or.inr (Or.inl ⟨hnil, rfl, nI_ne_m1 (by omega)⟩))
        have x := Rk w hg hR h0 hp hp hin (by omega) (by omega) hz he h
        exact (atP_n (by omega)).mpr (fun _ => jT1 hN hp (fun _ => x) (fun u => absurd cs u))
      | some r =>
        have me := kid_lt hr hp (List.mem_of_getElem? e0)
        have x := kid r me.1 (by rw [ow_123 hr hp c', chM_iff]; exact Or.inl (Or.inl ⟨r, e0, rfl⟩))
        show atP _ (orV (r + 1) (nI (241 + p))) z
        rw [orV_s]
        exact (atP_n (by omega)).mpr (fun _ => jB hN me.1 x)
    · obtain ⟨s, hK, g⟩ := ks_58 hW hp c'
      exact dflt (by rw [c']; unfold bgD; omega) (by omega) (by omega) s _ hK (by rw [ow_58 hr hp c' hK g]; exact Or.inr (Or.inl rfl))
    · obtain ⟨s, hK, g⟩ := ks_59 hW hp c'
      exact dflt (by rw [c']; unfold bgD; omega) (by omega) (by omega) s _ hK (by rw [ow_59 hr hp c' hK g]; exact Or.inr (Or.inr (Or.inl rfl)))
    · rcases ks_73 hW hp c' with ⟨e, s, hK, g1, g2⟩ | ⟨e, s, s2, hK, g1, g2, g3⟩
      · exact dflt (by rw [c']; unfold bgD; omega) (by omega) (by omega) e _ hK (by rw [ow_73 hr hp c' hK g1 g2]; exact Or.inr (Or.inr (Or.inr (Or.inl rfl))))
      · exact dflt (by rw [c']; unfold bgD; omega) (by omega) (by omega) e _ hK (by rw [ow_73b hr hp c' hK g1 g2 g3]; exact Or.inr (Or.inr (Or.inr (Or.inr (Or.inl rfl)))))
    · obtain ⟨e, s, hK, g1, g2⟩ := ks_87 hW hp c'
      exact dflt (by rw [c']; unfold bgD; omega) (by omega) (by omega) e _ hK (by rw [ow_87 hr hp c' hK g1 g2]; exact Or.inr (Or.inr (Or.inr (Or.inl rfl))))
    · obtain ⟨s, e, hK, g1, g2⟩ := ks_68 hW hp c'
      exact dflt (by rw [c']; unfold bgD; omega) (by omega) (by omega) s _ hK (by rw [ow_68 hr hp c' hK g1 g2]; exact Or.inr (Or.inr (Or.inr (Or.inl rfl))))
    · obtain ⟨e, f, s, hK, ⟨g1, g2⟩, g3⟩ := ks_70 hW hp c'
      exact dflt (by rw [c']; unfold bgD; omega) (by omega) (by omega) e _ hK (by rw [ow_70 hr hp c' hK g1 g2 g3]; exact Or.inr (Or.inr (Or.inr (Or.inr (Or.inr (Or.inl rfl))))))
    · obtain ⟨e, L, hK, g1, g2⟩ := ks_83 hW hp c'
      exact dflt (by rw [c']; unfold bgD; omega) (by omega) (by omega) e _ hK (by rw [ow_83 hr hp c' hK g1 g2]; exact Or.inr (Or.inr (Or.inl rfl)))
    · -- T
      obtain ⟨u, x, y, e, ⟨⟨l1, l2⟩, l3, ez⟩, -, -, hb, -, -⟩ := W_T hc hp c'
      have hEN := EN_le hp
      have hl2 := lnkL_le _ _ _ l2
      have hl3 := lnkL_le _ _ _ l3
      have hid := ID_st hc.1.2.2 hp cs
      rw [clS_d hc hp (by rw [c']; unfold bgD; omega), hb]
      have edge : ∀ s d, chM (ID t) (rtL u (p + 1)) (5 * p + 0) (if hE t p then coW Wf 0 (.inr p) else nI (5 * p + 3)) (5 * p + 0, s, d) → (5 * ID t p + 0, s, d) ∈ own b (sp_z t) (K (ID t p)) (ID t p) Wf [] := fun s d hm => by
        rw [ow_84 hr hp c' e (T_pl hc hp c')]
        rw [hid]
        exact Or.inr (Or.inr (Or.inl hm))
      cases e0 : (rtL u (p + 1))[0]? with
      | none =>
        have hnil : rtL u (p + 1) = [] := by
          cases hh : rtL u (p + 1) with
          | nil => rfl
          | cons y L => rw [hh] at e0; cases e0
        show atP _ (nI (eT t p)) z
        unfold eT
        by_cases cE : hE t p
        · rw [if_pos cE]
          have hin0 := ((w.2.2.2.1.1 p hp).1 cs).1 c' cE
          obtain ⟨j, y1, y2, y3⟩ := way_at (show (p, 0) ∈ Wf from hin0)
          have hl := w.2.2.2.2.1
          have x := Rk w hg hR h0 hp hp hin (k := 0) (s := 2100 + j) (by omega) (by omega) hz (edge _ _ (by rw [chM_iff, if_pos cE, y3]; exact Or.inr (Or.inl ⟨hnil, rfl, nI_ne_m1 (by omega)⟩))) h
          refine (atP_n (by omega)).mpr (fun _ => jI1 hN hp ⟨fun _ _ => ?_, fun c => by omega, Or.inl ⟨c', cE⟩⟩)
          rw [y3]
          have e1 : dN (nI (2100 + j)) = 2100 + j := nI_clamp (by omega)
          rw [e1]
          exact x
        · rw [if_neg cE]
          have x := Rk w hg hR h0 hp hp hin (k := 0) (s := 5 * p + 3) (by omega) (by omega) hz (edge _ _ (by rw [chM_iff, if_neg cE]; exact Or.inr (Or.inl ⟨hnil, rfl, nI_ne_m1 (by omega)⟩))) h
          exact (atP_n (by omega)).mpr (fun _ => jT1 hN hp (fun _ => by rw [hid]; exact x) (fun u => absurd cs u))
      | some r =>
        have hr2 := lnkL_get _ _ _ _ _ l1 e0
        have hlr := ID_lt (t := t) (i := r) (by omega)
        have x := Rk w hg hR h0 hp hp hin (k := 0) (s := 5 * ID t r + 0) (by omega) (by omega) hz (edge _ _ (by rw [chM_iff]; exact Or.inl ⟨r, e0, rfl⟩)) h
        show atP _ (orV (r + 1) (nI (eT t p))) z
        rw [orV_s]
        exact (atP_n (by omega)).mpr (fun _ => jB hN (by omega) x)
    · -- B
      have j := JT hc.1.2.2 hW w.2.1.2 hp (Or.inl c')
      have hK := ks_0 hW hp (by omega)
      have key := leaveP w hg hM hR h0 hp hin (Or.inl c') hp hin (k := 0) (by omega) hz h (fun n => by rw [(ow_lv hr hp (by omega) _ Wf [] _).1 hK]; exact Or.inl ⟨rfl, n⟩)
      rw [(cd_eq w hp).2.2.1 c'] at key
      have et : tgc (3 + 2 * TG t p) = TG t p := by show (3 + 2 * TG t p - 3) / 2 = TG t p; omega
      have eb : a c_Y_beginTo p = nI (241 + TG t p) := by
        rw [(hc.2.2 p hp).1.1]
        unfold bgV
        rw [if_pos (show a c_P_sort p = 66 from (CU_is hc hp (s := 66) (by decide)).mpr c'), ((row_S hc hp cs).2.2.2 (Or.inl c')).2]
        congr 2
        exact nI_clamp (by omega)
      have eo : oC (3 + 2 * TG t p) = a c_P_target p := by
        unfold oC
        rw [if_neg (by omega), et, ((row_S hc hp cs).2.2.2 (Or.inl c')).2]
      have er : rC (3 + 2 * TG t p) = 0 := by unfold rC; rw [if_neg (by omega)]
      unfold clS1
      rw [if_neg (show ¬ a c_P_sort p = 36 from so_ne hc hp (s := 36) (by decide) (by omega)), if_neg (show ¬ a c_P_sort p = 37 from so_ne hc hp (s := 37) (by decide) (by omega)), if_neg (show ¬ a c_P_sort p = 48 from so_ne hc hp (s := 48) (by decide) (by omega)), if_neg (show ¬ a c_P_sort p = 49 from so_ne hc hp (s := 49) (by decide) (by omega)), if_pos (show a c_P_sort p = 66 from (CU_is hc hp (s := 66) (by decide)).mpr c')]
      unfold LVQ at key
      rw [eo, er] at key
      refine lvq_mono (fun _ _ q => q) (fun z' _ hf => ?_) 20 _ _ _ hz key
      rw [eb]
      unfold FIN at hf
      rw [if_neg (by omega), if_pos (by omega), et] at hf
      exact (atP_n (by omega)).mpr hf
    · -- C
      have j := JT hc.1.2.2 hW w.2.1.2 hp (Or.inr c')
      have hK := ks_0 hW hp (by omega)
      have key := leaveP w hg hM hR h0 hp hin (Or.inr (Or.inl c')) hp hin (k := 0) (by omega) hz h (fun n => by rw [(ow_lv hr hp (by omega) _ Wf [] _).1 hK]; exact Or.inl ⟨rfl, n⟩)
      rw [(cd_eq w hp).2.2.2 c'] at key
      have et : tgc (4 + 2 * TG t p) = TG t p := by show (4 + 2 * TG t p - 3) / 2 = TG t p; omega
      have htN : TG t p < sp_z t := by omega
      have ed : dN (a c_P_target p) = TG t p := by rw [((row_S hc hp cs).2.2.2 (Or.inr c')).2]; exact nI_clamp (by omega)
      have eb : a c_Y_beginTo p = oI (nx0 (lpE t (TG t p))) := by
        rw [(hc.2.2 p hp).1.1]
        unfold bgV
        rw [if_neg (show ¬ a c_P_sort p = 66 from so_ne hc hp (s := 66) (by decide) (by omega)), if_pos (show a c_P_sort p = 67 from (CU_is hc hp (s := 67) (by decide)).mpr c'), ed, chF_K hc htN]
        unfold lpE
        by_cases c7 : SO t (TG t p) = 87
        · rw [if_pos c7, if_pos (show a c_P_sort (TG t p) = 87 from (CU_is hc htN (s := 87) (by decide)).mpr c7)]
        · rw [if_neg c7, if_neg (show ¬ a c_P_sort (TG t p) = 87 from so_ne hc htN (s := 87) (by decide) c7)]
      have eo : oC (4 + 2 * TG t p) = a c_P_target p := by
        unfold oC
        rw [if_neg (by omega), et, ((row_S hc hp cs).2.2.2 (Or.inr c')).2]
      have er : rC (4 + 2 * TG t p) = 0 := by unfold rC; rw [if_neg (by omega)]
      unfold clS1
      rw [if_neg (show ¬ a c_P_sort p = 36 from so_ne hc hp (s := 36) (by decide) (by omega)), if_neg (show ¬ a c_P_sort p = 37 from so_ne hc hp (s := 37) (by decide) (by omega)), if_neg (show ¬ a c_P_sort p = 48 from so_ne hc hp (s := 48) (by decide) (by omega)), if_neg (show ¬ a c_P_sort p = 49 from so_ne hc hp (s := 49) (by decide) (by omega)), if_neg (show ¬ a c_P_sort p = 66 from so_ne hc hp (s := 66) (by decide) (by omega)), if_pos (show a c_P_sort p = 67 from (CU_is hc hp (s := 67) (by decide)).mpr c')]
      unfold LVQ at key
      rw [eo, er] at key
      refine lvq_mono (fun _ _ q => q) (fun z' _ hf => ?_) 20 _ _ _ hz key
      rw [eb]
      unfold FIN at hf
      rw [if_neg (by omega), if_neg (by omega), et] at hf
      exact hf
    · -- R
      have n7 : ¬ (a c_P_sort p = 35 ∨ (97 ≤ a c_P_sort p ∧ a c_P_sort p ≤ 122)) := by
        rw [CU_sort hc hp, c']
        decide
      unfold clS1
      rw [if_neg (show ¬ a c_P_sort p = 36 from so_ne hc hp (s := 36) (by decide) (by omega)), if_neg (show ¬ a c_P_sort p = 37 from so_ne hc hp (s := 37) (by decide) (by omega)), if_neg (show ¬ a c_P_sort p = 48 from so_ne hc hp (s := 48) (by decide) (by omega)), if_neg (show ¬ a c_P_sort p = 49 from so_ne hc hp (s := 49) (by decide) (by omega)), if_neg (show ¬ a c_P_sort p = 66 from so_ne hc hp (s := 66) (by decide) (by omega)), if_neg (show ¬ a c_P_sort p = 67 from so_ne hc hp (s := 67) (by decide) (by omega)), if_neg n7]
      have eb := bg_K hc hp (by omega) (by omega) (by omega)
      rw [if_neg (by omega)] at eb
      rcases ks_RX hW hp (Or.inl c') with hK | ⟨e, hK, g⟩
      · rw [hK] at eb
        have eb : a c_Y_beginTo p = -1 := eb
        rw [if_pos ⟨(CU_is hc hp (s := 82) (by decide)).mpr c', eb⟩]
        have key := leaveP w hg hM hR h0 hp hin (Or.inr (Or.inr (Or.inl c'))) hp hin (k := 0) (by omega) hz h (fun n => by rw [(ow_lv hr hp (by omega) _ Wf [] _).1 hK]; exact Or.inl ⟨rfl, n⟩)
        rw [(cd_eq w hp).1 c'] at key
        exact lvq_mono (fun _ _ q => q) (fun _ _ _ => trivial) 20 _ _ _ hz key
      · have me := kid_lt hr hp (show e ∈ KI t p by rw [hK]; exact List.mem_cons_self)
        rw [hK] at eb
        have eb : a c_Y_beginTo p = oI (e + 1) := eb
        rw [oI_s] at eb
        rw [if_neg (fun u => nI_ne_m1 (k := e) (by omega) (by rw [← eb]; exact u.2)), eb]
        have x := kid e me.1 (by rw [(ow_lv hr hp (by omega) _ Wf [] _).2 e hK g]; exact Or.inr (Or.inr (Or.inl rfl)))
        exact (atP_n (by omega)).mpr (fun _ => jB hN me.1 x)
    · -- X
      have eb := bg_K hc hp (by omega) (by omega) (by omega)
      rw [if_neg (by omega)] at eb
      rw [clS_d hc hp (by rw [c']; unfold bgD; omega)]
      rcases ks_RX hW hp (Or.inr c') with hK | ⟨e, hK, g⟩
      · rw [hK] at eb
        have eb : a c_Y_beginTo p = -1 := eb
        rw [eb]
        exact fun hx => absurd (Or.inl (by decide)) hx
      · have me := kid_lt hr hp (show e ∈ KI t p by rw [hK]; exact List.mem_cons_self)
        rw [hK] at eb
        have eb : a c_Y_beginTo p = oI (e + 1) := eb
        rw [oI_s] at eb
        rw [eb]
        have x := kid e me.1 (by rw [(ow_lv hr hp (by omega) _ Wf [] _).2 e hK g]; exact Or.inr (Or.inr (Or.inl rfl)))
        exact (atP_n (by omega)).mpr (fun _ => jB hN me.1 x)
  · rcases ks_e hW hp cs with (⟨c1, x1, y1, z1, hK, g1, g2, g3⟩ | ⟨c1, x1, y1, hK, g1, g2⟩) | ⟨c1, x1, hK, g1⟩ | ⟨c1, hK⟩
    · exact dflt (by rw [c1]; unfold bgD; omega) (by omega) (by omega) x1 _ hK (by rw [ow_63 hr hp c1 hK g1 g2 g3]; exact Or.inr (Or.inr (Or.inr (Or.inr (Or.inr (Or.inr (Or.inl rfl)))))))
    · rcases c1 with c1 | c1
      · exact dflt (by rw [c1]; unfold bgD; omega) (by omega) (by omega) x1 _ hK (by rw [ow_124 hr hp c1 hK g1 g2]; exact Or.inr (Or.inr (Or.inr (Or.inr (Or.inl rfl)))))
      · exact dflt (by rw [c1]; unfold bgD; omega) (by omega) (by omega) x1 _ hK (by rw [ow_38 hr hp c1 hK g1 g2]; exact Or.inr (Or.inr (Or.inr (Or.inr (Or.inl rfl)))))
    · rcases c1 with c1 | c1
      · exact dflt (by rw [c1]; unfold bgD; omega) (by omega) (by omega) x1 _ hK (by rw [ow_33 hr hp c1 hK g1]; exact Or.inr (Or.inr (Or.inl rfl)))
      · exact dflt (by rw [c1]; unfold bgD; omega) (by omega) (by omega) x1 _ hK (by rw [ow_61 hr hp c1 hK g1]; exact Or.inr (Or.inr (Or.inr (Or.inr (Or.inl rfl)))))
    · have hl := SO_lt (t := t) p
      unfold clS1
      rw [if_neg (show ¬ a c_P_sort p = 36 from so_ne hc hp (s := 36) (by decide) (by omega)), if_neg (show ¬ a c_P_sort p = 37 from so_ne hc hp (s := 37) (by decide) (by omega))]
      by_cases c48 : SO t p = 48
      · rw [if_pos (show a c_P_sort p = 48 from (CU_is hc hp (s := 48) (by decide)).mpr c48)]
        have x := Rk w hg hR h0 hp hp hin (k := 0) (s := 5 * ID t p + 2) (by omega) (by omega) hz (by rw [ow_48 hr hp c48 hK]; exact Or.inl rfl) h
        exact fun _ => jF1 hN hp cs x
      · rw [if_neg (show ¬ a c_P_sort p = 48 from so_ne hc hp (s := 48) (by decide) c48)]
        by_cases c49 : SO t p = 49
        · rw [if_pos (show a c_P_sort p = 49 from (CU_is hc hp (s := 49) (by decide)).mpr c49)]
          have x := Rk w hg hR h0 hp hp hin (k := 0) (s := 5 * ID t p + 1) (by omega) (by omega) hz (by rw [ow_49 hr hp c49 hK]; exact Or.inl rfl) h
          exact fun _ => jT1 hN hp (fun u => absurd u cs) (fun _ => x)
        · have c3 : (97 ≤ SO t p ∧ SO t p ≤ 122) ∨ SO t p = 35 := by omega
          have y7 : a c_P_sort p = 35 ∨ (97 ≤ a c_P_sort p ∧ a c_P_sort p ≤ 122) := by
            rcases c3 with c3 | c3
            · right
              rw [CU_sort hc hp, show (97 : Int32) = nI 97 from rfl, show (122 : Int32) = nI 122 from rfl, nI_leI (by omega) (by omega), nI_leI (by omega) (by omega)]
              exact c3
            · exact Or.inl ((CU_is hc hp (s := 35) (by decide)).mpr c3)
          rw [if_neg (show ¬ a c_P_sort p = 49 from so_ne hc hp (s := 49) (by decide) c49), if_neg (show ¬ a c_P_sort p = 66 from so_ne hc hp (s := 66) (by decide) (by omega)), if_neg (show ¬ a c_P_sort p = 67 from so_ne hc hp (s := 67) (by decide) (by omega)), if_pos y7]
          have xT := Rk w hg hR h0 hp hp hin (k := 0) (s := 5 * ID t p + 1) (by omega) (by omega) hz (by rw [ow_lf hr hp cs c3]; exact Or.inr (Or.inl rfl)) h
          have xF := Rk w hg hR h0 hp hp hin (k := 0) (s := 5 * ID t p + 2) (by omega) (by omega) hz (by rw [ow_lf hr hp cs c3]; exact Or.inl rfl) h
          exact ⟨fun _ => jT1 hN hp (fun u => absurd u cs) (fun _ => xT), fun _ => jF1 hN hp cs xF⟩
end PS3
