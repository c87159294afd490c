section PH5
variable {a b : Nat → Nat → Int32} {V : Nat} {t : Std.Format} {K : Nat → Nat} {Wf : wL_T} {on : Nat → Int32} {E : eL_T} {root : Int32} {fr to : Nat} {I : Nat → Prop} {M : Nat → Nat → Nat → Prop} {en : Nat → Nat → Nat} {v : Nat} {vr : Int32} {C : Nat → Nat → Prop}
theorem go_lvs (w : WC a b V t K Wf on E) (hg : RGE a b t K Wf root fr to I) (h0 : ∀ z, bt 0 vr z = z) (hB : ∀ p, fr ≤ p → p < to → clB a (sp_z t) root M v C p) (hO : ∀ p, fr ≤ p → p < to → clO a (sp_z t) root M v C p) {q : Nat} (hq : q < sp_z t) (hs : SO t q = 66 ∨ SO t q = 67 ∨ SO t q = 82 ∨ SO t q = 88) : ∀ x ∈ own b (sp_z t) (K (ID t q)) (ID t q) Wf [], good a t Wf root fr to M C I vr x := by
  have hc := w.1.1
  have hr := w.1.2
  have hN := CU_N hc
  have lq := ID_lt hq
  have inn := fun (j k : Nat) (hj : j < sp_z t) (hk : k < 5) => (in_node hc hr w.2.2.1.1 hg hj hk).mp
  have hk : KI t q = [] ∨ ((SO t q = 82 ∨ SO t q = 88) ∧ ∃ s, KI t q = [s] ∧ ¬ stS (SO t s)) := by
    rcases hs with c | c | c | c
    · exact Or.inl (ks_0 hc.1.2.1 hq (by omega))
    · exact Or.inl (ks_0 hc.1.2.1 hq (by omega))
    · exact (ks_RX hc.1.2.1 hq (Or.inl c)).imp_right (fun u => ⟨Or.inl c, u⟩)
    · exact (ks_RX hc.1.2.1 hq (Or.inr c)).imp_right (fun u => ⟨Or.inr c, u⟩)
  intro x hx
  rcases hk with hK | ⟨hs2, e, hK, g⟩
  · rw [(ow_lv hr hq hs _ Wf [] _).1 hK] at hx
    rcases hx with ⟨rfl, hne⟩ | hx
    · intro z hz hI hP hI2
      have hin := inn q 0 hq (by omega) hI
      show Phi _ _ _ _ _ _ _ _ _ (bt 0 vr z)
      rw [h0]
      exact go_lv w hg hq hs hin hz (LV_of w hB hq hin hs hK hz (hP.1.1 q hq rfl)) hne hI2
    · cases hx
  · have me := kid_lt hr hq (show e ∈ KI t q by rw [hK]; exact List.mem_cons_self)
    have pe := (KI_mem hq me.1).mpr (show e ∈ KI t q by rw [hK]; exact List.mem_cons_self)
    have ar := ar_k hc me.1 pe
    have hk0 : (KI t q)[0]? = some e := by rw [hK]; rfl
    have hw := W_all hc hq (by omega) hk0
    have f1 : a c_Y_trueTo e = -1 := by
      rcases hs2 with c | c
      · rw [c] at hw; exact congrArg Prod.fst hw
      · rw [c] at hw; exact congrArg Prod.fst hw
    have n9 : ¬ (a c_Y_trueTo e = 964 ∧ ¬ a c_P_around e = root) := fun u => by
      rw [f1] at u
      exact absurd u.1 (by decide)
    have fin : ∀ z k, z < 2 → (k = 1 ∨ k = 2) → I (5 * ID t e + k) → Phi a t Wf root fr to M C (5 * ID t e + k) z → ¬ coW Wf (cdF b (ID t q)) (lvA b (sp_z t) (cdF b (ID t q)) (K (ID t q)) (ID t q) (b r_around (ID t q))) = -1 → I (dN (coW Wf (cdF b (ID t q)) (lvA b (sp_z t) (cdF b (ID t q)) (K (ID t q)) (ID t q) (b r_around (ID t q))))) → Phi a t Wf root fr to M C (dN (coW Wf (cdF b (ID t q)) (lvA b (sp_z t) (cdF b (ID t q)) (K (ID t q)) (ID t q) (b r_around (ID t q))))) z := by
      intro z k hz hk hI hP hne hI2
      have hin := inn e k me.1 (by omega) hI
      have hqin : fr ≤ q ∧ q < to := by
        rcases rg_par hc hg hin with ⟨u, -⟩ | ⟨q', u, hq'⟩
        · omega
        · have : q' = q := by omega
          subst this
          exact hq'.resolve_right (fun u => by omega)
      have hor : C (241 + e) z ∨ C (482 + e) z := by
        rcases hk with rfl | rfl
        · exact Or.inl (hP.1.2.1 e me.1 rfl g).1
        · exact Or.inr (hP.1.2.2 e me.1 rfl g).1
      have h1 := ((hO e hin.1 hin.2).2 n9).2 ar.2.2 z hz
      rw [ar.2.1, if_neg (show ¬ a c_P_sort q = 61 from so_ne hc hq (s := 61) (by decide) (by omega))] at h1
      refine go_lv w hg hq hs hqin hz ?_ hne hI2
      rcases hs2 with c | c
      · rw [if_pos (show a c_P_sort q = 82 from (CU_is hc hq (s := 82) (by decide)).mpr c)] at h1
        rw [(cd_eq w hq).1 c]
        exact lvq_mono (fun _ _ q => q) (fun _ _ _ => trivial) 20 _ _ _ hz (h1 hor)
      · rw [if_neg (show ¬ a c_P_sort q = 82 from so_ne hc hq (s := 82) (by decide) (by omega)), if_pos (show a c_P_sort q = 88 from (CU_is hc hq (s := 88) (by decide)).mpr c)] at h1
        rw [(cd_eq w hq).2.1 c]
        exact lvq_mono (fun _ _ q => q) (fun _ _ _ => trivial) 20 _ _ _ hz (h1 hor)
    rw [(ow_lv hr hq hs _ Wf [] _).2 e hK g] at hx
    rcases hx with ⟨rfl, hne⟩ | ⟨rfl, hne⟩ | rfl | hx
    · intro z hz hI hP hI2
      show Phi _ _ _ _ _ _ _ _ _ (bt 0 vr z)
      rw [h0]
      exact fin z 2 hz (Or.inr rfl) hI hP hne hI2
    · intro z hz hI hP hI2
      show Phi _ _ _ _ _ _ _ _ _ (bt 0 vr z)
      rw [h0]
      exact fin z 1 hz (Or.inl rfl) hI hP hne hI2
    · refine good_n h0 (by omega) (fun z hz hI hP => ?_)
      have hin := inn q 0 hq (by omega) hI
      have eb := bg_K hc hq (by omega) (by omega) (by omega)
      rw [if_neg (by omega), hK] at eb
      have eb : a c_Y_beginTo q = oI (e + 1) := eb
      rw [oI_s] at eb
      have h1 := ((hB q hin.1 hin.2) z hz).2.2 (hP.1.1 q hq rfl)
      have h2 : atP C (a c_Y_beginTo q) z := by
        rcases hs2 with c | c
        · unfold clS1 at h1
          have n7 : ¬ (a c_P_sort q = 35 ∨ (97 ≤ a c_P_sort q ∧ a c_P_sort q ≤ 122)) := by
            rw [CU_sort hc hq, c]
            decide
          rw [if_neg (show ¬ a c_P_sort q = 36 from so_ne hc hq (s := 36) (by decide) (by omega)), if_neg (show ¬ a c_P_sort q = 37 from so_ne hc hq (s := 37) (by decide) (by omega)), if_neg (show ¬ a c_P_sort q = 48 from so_ne hc hq (s := 48) (by decide) (by omega)), if_neg (show ¬ a c_P_sort q = 49 from so_ne hc hq (s := 49) (by decide) (by omega)), if_neg (show ¬ a c_P_sort q = 66 from so_ne hc hq (s := 66) (by decide) (by omega)), if_neg (show ¬ a c_P_sort q = 67 from so_ne hc hq (s := 67) (by decide) (by omega)), if_neg n7, if_neg (fun u => nI_ne_m1 (k := e) (by omega) (by rw [← eb]; exact u.2))] at h1
          exact h1
        · exact (clS_d hc hq (by rw [c]; unfold bgD; omega)).mp h1
      rw [eb] at h2
      exact iB hN me.1 ((atP_n (by omega)).mp h2)
    · cases hx
theorem go_61 (w : WC a b V t K Wf on E) (hg : RGE a b t K Wf root fr to I) (hL : LN V v vr) (hB : ∀ p, fr ≤ p → p < to → clB a (sp_z t) root M v C p) (hO : ∀ p, fr ≤ p → p < to → clO a (sp_z t) root M v C p) {q e : Nat} (hq : q < sp_z t) (hs : SO t q = 61) (hK : KI t q = [e]) (g : ¬ stS (SO t e)) : ∀ x ∈ own b (sp_z t) (K (ID t q)) (ID t q) Wf [], good a t Wf root fr to M C I vr x := by
  have hc := w.1.1
  have hr := w.1.2
  have hN := CU_N hc
  have lq := ID_lt hq
  have h0 := hL.2.1
  have hqs : ¬ stS (SO t q) := by rw [hs]; unfold stS; omega
  have ef := first_kid hc hq hK
  subst ef
  have inn := fun (j k : Nat) (hj : j < sp_z t) (hk : k < 5) => (in_node hc hr w.2.2.1.1 hg hj hk).mp
  have me := kid_lt hr hq (show q + 1 ∈ KI t q by rw [hK]; exact List.mem_cons_self)
  have pe := (KI_mem hq me.1).mpr (show q + 1 ∈ KI t q by rw [hK]; exact List.mem_cons_self)
  have ar := ar_k hc me.1 pe
  have hv := row_V hc hq (Or.inr (Or.inr (Or.inl hs)))
  have hk0 : (KI t q)[0]? = some (q + 1) := by rw [hK]; rfl
  have hw := W_all hc hq (by omega) hk0
  rw [hs] at hw
  have f1 : a c_Y_trueTo (q + 1) = nI (241 + q) := congrArg Prod.fst hw
  have f2 : a c_Y_falseTo (q + 1) = nI (482 + q) := congrArg Prod.snd hw
  have cX : ∀ z, z < 2 → (fr ≤ q ∧ q < to) → (C (241 + (q + 1)) z → C (241 + q) (if VR t q = v then 1 else z) ∧ lvp a (sp_z t) root M C (fun _ => True) (-1) 1 q (if VR t q = v then 1 else z)) ∧ (C (482 + (q + 1)) z → C (482 + q) (if VR t q = v then 1 else z) ∧ lvp a (sp_z t) root M C (fun _ => True) (-1) 1 q (if VR t q = v then 1 else z)) := by
    intro z hz hin
    have hein := rg_kid hc hg hin (show q + 1 ∈ KI t q by rw [hK]; exact List.mem_cons_self)
    have h1 := ((hO (q + 1) hein.1 hein.2).2 (not9 (m := 241 + q) (by omega) f1 _)).2 ar.2.2 z hz
    rw [ar.2.1, if_pos (show a c_P_sort q = 61 from (CU_is hc hq (s := 61) (by decide)).mpr hs), hv.1.2, f1, f2] at h1
    exact ⟨fun u => ⟨(atP_n (by omega)).mp (h1.1 u).1, (h1.1 u).2⟩, fun u => ⟨(atP_n (by omega)).mp (h1.2 u).1, (h1.2 u).2⟩⟩
  intro x hx
  rw [ow_61 hr hq hs hK g] at hx
  rcases hx with rfl | rfl | rfl | rfl | rfl | hx
  · intro z hz hI hP _
    have hin := inn q 4 hq (by omega) hI
    show Phi _ _ _ _ _ _ _ _ (nI (5 * ID t q + 2)).toNatClampNeg (bt (1 + nI (VR t q)) vr z)
    rw [hL.2.2.1 _ hv.2, nI_clamp (by omega)]
    have h1 := (cX z hz hin).2 (hP.2.1.2 q hq rfl hs)
    exact iF hN hq ⟨h1.1, fun _ => h1.2⟩
  · intro z hz hI hP _
    have hin := inn q 3 hq (by omega) hI
    show Phi _ _ _ _ _ _ _ _ (nI (5 * ID t q + 1)).toNatClampNeg (bt (1 + nI (VR t q)) vr z)
    rw [hL.2.2.1 _ hv.2, nI_clamp (by omega)]
    have h1 := (cX z hz hin).1 ((hP.2.1.1 q hq rfl).2 hs)
    exact iT hN hq ⟨h1.1, fun _ => h1.2⟩
  · exact good_n h0 (by omega) (fun z hz hI hP => iG hN hq (hP.1.2.2 _ me.1 rfl g).1)
  · exact good_n h0 (by omega) (fun z hz hI hP => iA hN hq (fun u => absurd u hqs) (fun _ => (hP.1.2.1 _ me.1 rfl g).1))
  · refine good_n h0 (by omega) (fun z hz hI hP => ?_)
    have hin := inn q 0 hq (by omega) hI
    have x2 := (clS_d hc hq (by rw [hs]; unfold bgD; omega)).mp (((hB q hin.1 hin.2) z hz).2.2 (hP.1.1 q hq rfl))
    rw [bg_K hc hq (by omega) (by omega) (by omega), if_neg (by omega), hK] at x2
    have x2 : atP C (oI (q + 1 + 1)) z := x2
    rw [oI_s] at x2
    exact iB hN me.1 ((atP_n (by omega)).mp x2)
  · cases hx
theorem go_lf (w : WC a b V t K Wf on E) (hg : RGE a b t K Wf root fr to I) (hL : LN V v vr) (hB : ∀ p, fr ≤ p → p < to → clB a (sp_z t) root M v C p) {q : Nat} (hq : q < sp_z t) (hs : SO t q = 36 ∨ SO t q = 37 ∨ ((97 ≤ SO t q ∧ SO t q ≤ 122) ∨ SO t q = 48 ∨ SO t q = 49 ∨ SO t q = 35)) (hK : KI t q = []) : ∀ x ∈ own b (sp_z t) (K (ID t q)) (ID t q) Wf [], good a t Wf root fr to M C I vr x := by
  have hc := w.1.1
  have hr := w.1.2
  have hN := CU_N hc
  have lq := ID_lt hq
  have h0 := hL.2.1
  have inn := fun (j k : Nat) (hj : j < sp_z t) (hk : k < 5) => (in_node hc hr w.2.2.1.1 hg hj hk).mp
  have own1 : ∀ z, z < 2 → I (5 * ID t q + 0) → Phi a t Wf root fr to M C (5 * ID t q + 0) z → clS1 a (sp_z t) root M v C q z := fun z hz hI hP => by
    have hin := inn q 0 hq (by omega) hI
    exact ((hB q hin.1 hin.2) z hz).2.2 (hP.1.1 q hq rfl)
  intro x hx
  by_cases c3 : SO t q = 36 ∨ SO t q = 37
  · have hqs : stS (SO t q) := by unfold stS; omega
    have hv := row_V hc hq (by omega)
    rw [ow_36 hr hq c3] at hx
    rcases hx with rfl | hx
    · intro z hz hI hP _
      show Phi _ _ _ _ _ _ _ _ (nI (5 * ID t q + 3)).toNatClampNeg (bt (20 + nI (VR t q)) vr z)
      rw [hL.2.2.2 _ hv.2, nI_clamp (by omega)]
      have h1 := own1 z hz hI hP
      unfold clS1 at h1
      rw [hv.1.2] at h1
      refine iA hN hq (fun _ => ?_) (fun c => by omega)
      by_cases c36 : SO t q = 36
      · rw [if_pos (show a c_P_sort q = 36 from (CU_is hc hq (s := 36) (by decide)).mpr c36)] at h1
        exact h1
      · rw [if_neg (show ¬ a c_P_sort q = 36 from so_ne hc hq (s := 36) (by decide) c36), if_pos (show a c_P_sort q = 37 from (CU_is hc hq (s := 37) (by decide)).mpr (by omega))] at h1
        exact h1
    · cases hx
  · have hqs : ¬ stS (SO t q) := by unfold stS; omega
    have n36 : ¬ a c_P_sort q = 36 := so_ne hc hq (s := 36) (by decide) (by omega)
    have n37 : ¬ a c_P_sort q = 37 := so_ne hc hq (s := 37) (by decide) (by omega)
    by_cases c48 : SO t q = 48
    · rw [ow_48 hr hq c48 hK] at hx
      rcases hx with rfl | hx
      · refine good_n h0 (by omega) (fun z hz hI hP => ?_)
        have h1 := own1 z hz hI hP
        unfold clS1 at h1
        rw [if_neg n36, if_neg n37, if_pos (show a c_P_sort q = 48 from (CU_is hc hq (s := 48) (by decide)).mpr c48)] at h1
        exact iF hN hq ⟨h1, fun c => by omega⟩
      · cases hx
    · have n48 : ¬ a c_P_sort q = 48 := so_ne hc hq (s := 48) (by decide) c48
      by_cases c49 : SO t q = 49
      · rw [ow_49 hr hq c49 hK] at hx
        rcases hx with rfl | hx
        · refine good_n h0 (by omega) (fun z hz hI hP => ?_)
          have h1 := own1 z hz hI hP
          unfold clS1 at h1
          rw [if_neg n36, if_neg n37, if_neg n48, if_pos (show a c_P_sort q = 49 from (CU_is hc hq (s := 49) (by decide)).mpr c49)] at h1
          exact iT hN hq ⟨h1, fun c => by omega⟩
        · cases hx
      · have c4 : (97 ≤ SO t q ∧ SO t q ≤ 122) ∨ SO t q = 35 := by omega
        have y7 : a c_P_sort q = 35 ∨ (97 ≤ a c_P_sort q ∧ a c_P_sort q ≤ 122) := by
          have hl := SO_lt (t := t) q
          rcases c4 with c4 | c4
          · right
            rw [CU_sort hc hq, show (97 : Int32) = nI 97 from rfl, show (122 : Int32) = nI 122 from rfl, nI_leI (by omega) (by omega), nI_leI (by omega) (by omega)]
            exact c4
          · exact Or.inl ((CU_is hc hq (s := 35) (by decide)).mpr c4)
        have both : ∀ z, z < 2 → I (5 * ID t q + 0) → Phi a t Wf root fr to M C (5 * ID t q + 0) z → C (241 + q) z ∧ C (482 + q) z := fun z hz hI hP => by
          have h1 := own1 z hz hI hP
          unfold clS1 at h1
          rw [if_neg n36, if_neg n37, if_neg n48, if_neg (show ¬ a c_P_sort q = 49 from so_ne hc hq (s := 49) (by decide) c49), if_neg (show ¬ a c_P_sort q = 66 from so_ne hc hq (s := 66) (by decide) (by omega)), if_neg (show ¬ a c_P_sort q = 67 from so_ne hc hq (s := 67) (by decide) (by omega)), if_pos y7] at h1
          exact h1
        rw [ow_lf hr hq hqs c4] at hx
        rcases hx with rfl | rfl | hx
        · exact good_n h0 (by omega) (fun z hz hI hP => iF hN hq ⟨(both z hz hI hP).2, fun c => by omega⟩)
        · exact good_n h0 (by omega) (fun z hz hI hP => iT hN hq ⟨(both z hz hI hP).1, fun c => by omega⟩)
        · cases hx
/-- the unit's chain -/
theorem go_root (w : WC a b V t K Wf on E) (hg : RGE a b t K Wf root fr to I) (h0 : ∀ z, bt 0 vr z = z) (hO : ∀ p, fr ≤ p → p < to → clO a (sp_z t) root M v C p) : ∀ x, chM (ID t) (rtL t 0) 3599 (nI 1300) x → good a t Wf root fr to M C I vr x := by
  have hc := w.1.1
  have hr := w.1.2
  have hN := CU_N hc
  have rl : ∀ r ∈ rtL t 0, r < sp_z t := fun r h1 => ((scn_RT hr).2.1 r h1).2
  refine go_ch h0 hN rl (ks_root hc.1.2.1) (fun z hz hI hP => ?_) (fun k r z hk hz hI hC1 => ?_)
  · have hro := (in_out hc hg).2.mp hI
    have hft : fr = 0 ∧ to = sp_z t := by
      rcases hg with ⟨-, h1, h2, -⟩ | ⟨ρ, z1, -, z3, -⟩
      · exact ⟨h1, h2⟩
      · rw [hro] at z3; exact absurd z3.symm (nI_ne_m1 (by omega))
    have h1 := hP.2.2.2.2 rfl
    rw [hft.1, hft.2] at h1
    refine ⟨fun r h2 => ?_, fun h2 => ⟨1300, rfl, by omega, iZ hN ?_⟩⟩
    · have h3 := rl r (List.mem_of_getElem? h2)
      rcases lnk_0 (RT_lnk (t := t)) with ⟨n1, n2⟩ | ⟨n1, n2⟩
      · rw [n1] at h2; cases h2
      · rw [n1] at h2
        cases h2
        rw [if_neg (by omega)] at h1
        exact h1
    · rcases lnk_0 (RT_lnk (t := t)) with ⟨n1, n2⟩ | ⟨n1, n2⟩
      · rw [if_pos (by omega)] at h1
        exact h1
      · rw [h2] at n1; cases n1
  · have hrN := rl r (List.mem_of_getElem? hk)
    have hin := (in_node hc hr w.2.2.1.1 hg hrN (k := 3) (by omega)).mp hI
    have pr := (RT_mem hrN).mpr (List.mem_of_getElem? hk)
    have ha : a c_P_around r = -1 := by rw [CU_ar hc hrN, pr]; rfl
    have hro : root = -1 := by
      rcases rg_par hc hg hin with ⟨-, u⟩ | ⟨q', u, -⟩
      · exact u
      · omega
    have hw := Wy_root hc hk
    have h1 := (((hO r hin.1 hin.2).2 (fun u => u.2 (by rw [ha, hro]))).1 ha z hz).1 hC1
    rw [hw.1] at h1
    refine ⟨fun r' h2 => ?_, fun h2 => ⟨1300, rfl, by omega, iZ hN ?_⟩⟩
    · have h3 := rl r' (List.mem_of_getElem? h2)
      rw [h2] at h1
      have h1 : atP C (orV (r' + 1) (nI 964)) z := h1
      rw [orV_s] at h1
      exact (atP_n (by omega)).mp h1
    · rw [h2] at h1
      exact (atP_n (k := 964) (by omega)).mp h1
/-- all edges are good -/
theorem ed_good (w : WC a b V t K Wf on E) (hg : RGE a b t K Wf root fr to I) (hL : LN V v vr) (hB : ∀ p, fr ≤ p → p < to → clB a (sp_z t) root M v C p) (hO : ∀ p, fr ≤ p → p < to → clO a (sp_z t) root M v C p) : ∀ x ∈ E, good a t Wf root fr to M C I vr x := by
  have hc := w.1.1
  have hW := hc.1.2.1
  have h0 := hL.2.1
  intro x hx
  rcases (w.2.2.1.2 x).mp hx with hx | ⟨q, hq, hx | hx⟩
  · exact go_root w hg h0 hO x hx
  · exact go_tr w hg h0 hB hq x hx
  · by_cases cs : stS (SO t q)
    · have c' := cs
      unfold stS at c'
      rcases c' with c' | c' | c' | c' | c' | c' | c' | c' | c' | c' | c' | c' | c' | c' | c'
      · exact go_lf w hg hL hB hq (by omega) (ks_0 hW hq (by omega)) x hx
      · exact go_lf w hg hL hB hq (by omega) (ks_0 hW hq (by omega)) x hx
      · exact go_123 w hg h0 hB hO hq c' x hx
      · obtain ⟨s, hK, g⟩ := ks_58 hW hq c'
        exact go_58 w hg h0 hB hO hq c' hK g x hx
      · obtain ⟨s, hK, g⟩ := ks_59 hW hq c'
        exact go_59 w hg h0 hB hO hq c' hK g x hx
      · rcases ks_73 hW hq c' with ⟨e, s, hK, g1, g2⟩ | ⟨e, s, s2, hK, g1, g2, g3⟩
        · exact go_73 w hg h0 hB hO hq c' hK g1 g2 x hx
        · exact go_73b w hg h0 hB hO hq c' hK g1 g2 g3 x hx
      · obtain ⟨e, s, hK, g1, g2⟩ := ks_87 hW hq c'
        exact go_87 w hg h0 hB hO hq c' hK g1 g2 x hx
      · obtain ⟨s, e, hK, g1, g2⟩ := ks_68 hW hq c'
        exact go_68 w hg h0 hB hO hq c' hK g1 g2 x hx
      · obtain ⟨e, f, s, hK, ⟨g1, g2⟩, g3⟩ := ks_70 hW hq c'
        exact go_70 w hg h0 hB hO hq c' hK g1 g2 g3 x hx
      · exact go_83 w hg h0 hB hO hq c' x hx
      · exact go_84 w hg h0 hB hO hq c' x hx
      · exact go_lvs w hg h0 hB hO hq (by omega) x hx
      · exact go_lvs w hg h0 hB hO hq (by omega) x hx
      · exact go_lvs w hg h0 hB hO hq (by omega) x hx
      · exact go_lvs w hg h0 hB hO hq (by omega) x hx
    · rcases ks_e hW hq cs with (⟨c1, x1, y1, z1, hK, g1, g2, g3⟩ | ⟨c1, x1, y1, hK, g1, g2⟩) | ⟨c1, x1, hK, g1⟩ | ⟨c1, hK⟩
      · exact go_63 w hg h0 hB hO hq c1 hK g1 g2 g3 x hx
      · rcases c1 with c1 | c1
        · exact go_124 w hg h0 hB hO hq c1 hK g1 g2 x hx
        · exact go_38 w hg h0 hB hO hq c1 hK g1 g2 x hx
      · rcases c1 with c1 | c1
        · exact go_33 w hg h0 hB hO hq c1 hK g1 x hx
        · exact go_61 w hg hL hB hO hq c1 hK g1 x hx
      · exact go_lf w hg hL hB hq (Or.inr (Or.inr c1)) hK x hx
/-- the class's set, at the reference's points, is closed under the reference's steps -/
theorem suc_Phi (w : WC a b V t K Wf on E) (hg : RGE a b t K Wf root fr to I) (hM : MEq t fr to M en) (hL : LN V v vr) (hB : ∀ p, fr ≤ p → p < to → clB a (sp_z t) root M v C p) (hO : ∀ p, fr ≤ p → p < to → clO a (sp_z t) root M v C p) {p z : Nat} (hz : z < 2) (hP : Phi a t Wf root fr to M C p z) (hI : I p) : suc E Wf on en vr (fun p z => I p → Phi a t Wf root fr to M C p z) p z := by
  have hc := w.1.1
  have hr := w.1.2
  have hN := CU_N hc
  refine ⟨fun s d hx hI2 => ed_good w hg hL hB hO _ hx z hz hI hP hI2, fun x hp hx => ?_⟩
  obtain ⟨T, c⟩ := x
  obtain ⟨y, rfl⟩ : ∃ y, p = 2100 + y := ⟨p - 2100, by omega⟩
  rw [Nat.add_sub_cancel_left] at hx
  have hyl := get_lt hx
  rw [List.length_reverse] at hyl
  have hT := w.2.2.2.2.2 _ (List.mem_reverse.mp (List.mem_of_getElem? hx))
  have hTN : T < sp_z t := hT.1
  have hs : SO t T = 84 := hT.2.1
  have cE : hE t T := hT.2.2
  have hst : stS (SO t T) := by rw [hs]; unfold stS; omega
  have hid := ID_st hc.1.2.2 hTN hst
  have hin := (in_way hc hr w.2.2.1.1 hg hx w.2.2.2.2.1 hTN hst).mp hI
  have hw := hP.2.2.2.1 y T c rfl hx
  have hff := (T_cf hc hTN hs).2.mpr cE
  have nro : ¬ root = nI T := fun u => by
    rcases hg with ⟨z1, -, -, -⟩ | ⟨ρ, z1, z2, z3, z4, z5, -⟩
    · rw [z1] at u; exact absurd u.symm (nI_ne_m1 (by omega))
    · rw [z3, nI_eq (by omega) (by omega)] at u
      obtain ⟨u', v', w', e', e1, e2⟩ := rg_T hc z1 z2.1 z2.2 z4.1 z4.2
      omega
  have hwo := w.2.2.2.1.2 y hyl _ hx
  rw [Nat.add_sub_cancel_left]
  by_cases c0 : c = 0
  · subst c0
    have h1 := ((hO T hin.1 hin.2).1 z hz (hw.1 rfl)).1 hff
    have ho : on y = nI (5 * T + 3) := hwo.2
    refine ⟨fun _ => iN hN hTN (fun u => absurd u nro) (fun _ => h1.1), fun k hk hen _ _ => ?_⟩
    have h2 := h1.2 k hk ((hM T hin.1 hin.2 hs cE z k hz hk).mpr hen)
    rw [ho]
    have e4 : dN (nI (5 * T + 3)) = 5 * T + 3 := nI_clamp (by omega)
    rw [e4]
    have := iA (a := a) (Wf := Wf) (root := root) (fr := fr) (to := to) (M := M) hN hTN (fun _ => h2) (fun c => by rw [hs] at c; exact absurd c (by decide))
    rw [hid] at this
    exact this
  · have h1 := hw.2 c0
    refine ⟨fun _ => iN hN hTN (fun u => absurd u nro) (fun _ => h1.2.1), fun k hk hen hne hI2 => ?_⟩
    have h2 := h1.2.2 k hk ((hM T hin.1 hin.2 hs cE z k hz hk).mpr hen)
    have ewo : woA b (sp_z t) K (T, c) = lvT a t (fnl b (sp_z t) c) c 20 (TA a T) (a c_P_tryPart T) := by
      unfold woA
      rw [if_neg c0]
      have q := lvA_20 w hTN h1.1.1
      rw [hid] at q
      exact q
    rw [ewo] at hwo
    have ho : on y = coW Wf c (lvT a t (fnl b (sp_z t) c) c 20 (TA a T) (a c_P_tryPart T)) := hwo.2
    rw [ho] at hne hI2 ⊢
    obtain ⟨p, e1, e2, e3⟩ := lv_Phi hc hr w.2.1.1 w.2.2.1.1 hg w.2.2.2.2 c0 h1.1.2 20 T k hin.1 hin.2 h1.1.1 (w.2.1.1 T hTN) hwo.1 hk h2 hne hI2
    rw [e1]
    have e4 : dN (nI p) = p := nI_clamp (by omega)
    rw [e4]
    exact e3
end PH5
