section PH4
variable {a b : Nat → Nat → Int32} {V : Nat} {t : Std.Format} {K : Nat → Nat} {Wf : wL_T} {on : Nat → Int32} {E : eL_T} {root : Int32} {fr to : Nat} {I : Nat → Prop} {M : Nat → Nat → Nat → Prop} {en : Nat → Nat → Nat} {v : Nat} {vr : Int32} {C : Nat → Nat → Prop}
theorem go_123 (w : WC a b V t K Wf on E) (hg : RGE a b t K Wf root fr to I) (h0 : ∀ z, bt 0 vr z = z) (hB : ∀ p, fr ≤ p → p < to → clB a (sp_z t) root M v C p) (hO : ∀ p, fr ≤ p → p < to → clO a (sp_z t) root M v C p) {q : Nat} (hq : q < sp_z t) (hs : SO t q = 123) : ∀ x ∈ own b (sp_z t) (K (ID t q)) (ID t q) Wf [], good a t Wf root fr to M C I vr x := by
  have hc := w.1.1
  have hr := w.1.2
  have hN := CU_N hc
  have lq := ID_lt hq
  have hqs : stS (SO t q) := by rw [hs]; unfold stS; omega
  have inn := fun (j k : Nat) (hj : j < sp_z t) (hk : k < 5) => (in_node hc hr w.2.2.1.1 hg hj hk).mp
  intro x hx
  rw [ow_123 hr hq hs] at hx
  rcases hx with hx | hx
  · have ov : ∀ z, z < 2 → atP C (nI (241 + q)) z → ∃ p, nI (5 * ID t q + 3) = nI p ∧ p < 10000 ∧ Phi a t Wf root fr to M C p z := fun z hz h => ⟨_, rfl, by omega, iA hN hq (fun _ => (atP_n (by omega)).mp h) (fun c => by omega)⟩
    refine go_ch h0 hN (fun r h1 => (kid_lt hr hq h1).1) (ks_123 hc.1.2.1 hq hs) (fun z hz hI hP => ?_) (fun k r z hk hz hI hC1 => ?_) x hx
    · have hin := inn q 0 hq (by omega) hI
      have x2 := (clS_d hc hq (by rw [hs]; unfold bgD; omega)).mp (((hB q hin.1 hin.2) z hz).2.2 (hP.1.1 q hq rfl))
      rw [bg_K hc hq (by omega) (by omega) (by omega), if_pos hs] at x2
      refine ⟨fun r h1 => ?_, fun h1 => ov z hz ?_⟩
      · rw [h1] at x2
        have mr := kid_lt hr hq (List.mem_of_getElem? h1)
        have x2 : atP C (orV (r + 1) (nI (241 + q))) z := x2
        rw [orV_s] at x2
        exact (atP_n (by omega)).mp x2
      · rw [h1] at x2
        exact x2
    · have mr := kid_lt hr hq (List.mem_of_getElem? hk)
      have hin := inn r 3 mr.1 (by omega) hI
      have pa := (KI_mem hq mr.1).mpr (List.mem_of_getElem? hk)
      have hw := W_all hc hq (by omega) hk
      rw [hs] at hw
      have e1 : a c_Y_trueTo r = orV (nx0 (KI t q)[k + 1]?) (nI (241 + q)) := congrArg Prod.fst hw
      refine ⟨fun r' h1 => ?_, fun h1 => ?_⟩
      · have mr' := kid_lt hr hq (List.mem_of_getElem? h1)
        rw [h1] at e1
        have e1 : a c_Y_trueTo r = orV (r' + 1) (nI (241 + q)) := e1
        rw [orV_s] at e1
        have x3 := (clO_use hc mr.1 pa (by omega) (by omega) (by omega) (hO r hin.1 hin.2) (not9 (m := r') (by omega) e1 _) hz).1 hC1
        rw [e1] at x3
        exact (atP_n (by omega)).mp x3
      · rw [h1] at e1
        have e1 : a c_Y_trueTo r = nI (241 + q) := e1
        have x3 := (clO_use hc mr.1 pa (by omega) (by omega) (by omega) (hO r hin.1 hin.2) (not9 (m := 241 + q) (by omega) e1 _) hz).1 hC1
        rw [e1] at x3
        exact ov z hz x3
  · cases hx
theorem go_83 (w : WC a b V t K Wf on E) (hg : RGE a b t K Wf root fr to I) (h0 : ∀ z, bt 0 vr z = z) (hB : ∀ p, fr ≤ p → p < to → clB a (sp_z t) root M v C p) (hO : ∀ p, fr ≤ p → p < to → clO a (sp_z t) root M v C p) {q : Nat} (hq : q < sp_z t) (hs : SO t q = 83) : ∀ x ∈ own b (sp_z t) (K (ID t q)) (ID t q) Wf [], good a t Wf root fr to M C I vr x := by
  have hc := w.1.1
  have hr := w.1.2
  have hN := CU_N hc
  have lq := ID_lt hq
  have hqs : stS (SO t q) := by rw [hs]; unfold stS; omega
  have inn := fun (j k : Nat) (hj : j < sp_z t) (hk : k < 5) => (in_node hc hr w.2.2.1.1 hg hj hk).mp
  obtain ⟨e, L, hK, g1, g2⟩ := ks_83 hc.1.2.1 hq hs
  have me := kid_lt hr hq (show e ∈ KI t q by rw [hK]; exact List.mem_cons_self)
  have pe := (KI_mem hq me.1).mpr (show e ∈ KI t q by rw [hK]; exact List.mem_cons_self)
  have hk0 : (KI t q)[0]? = some e := by rw [hK]; rfl
  have hw0 := W_all hc hq (by omega) hk0
  rw [hs] at hw0
  have f1 : a c_Y_trueTo e = nI (723 + q) := congrArg Prod.fst hw0
  have f2 : a c_Y_falseTo e = nI (723 + q) := congrArg Prod.snd hw0
  -- the point within
  have inner : ∀ z k, z < 2 → (k = 1 ∨ k = 2) → I (5 * ID t e + k) → Phi a t Wf root fr to M C (5 * ID t e + k) z → (fr ≤ q ∧ q < to) ∧ C (723 + q) z := by
    intro z k hz hk hI hP
    have hin := inn e k me.1 (by omega) hI
    have hqin : fr ≤ q ∧ q < to := by
      rcases rg_par hc hg hin with ⟨u, -⟩ | ⟨q', u, hq'⟩
      · omega
      · have : q' = q := by omega
        subst this
        exact hq'.resolve_right (fun u => by omega)
    have x3 := clO_use hc me.1 pe (by omega) (by omega) (by omega) (hO e hin.1 hin.2) (not9 (m := 723 + q) (by omega) f1 _) hz
    rw [f1, f2] at x3
    refine ⟨hqin, ?_⟩
    rcases hk with rfl | rfl
    · exact (atP_n (by omega)).mp (x3.1 (hP.1.2.1 e me.1 rfl g1).1)
    · exact (atP_n (by omega)).mp (x3.2 (hP.1.2.2 e me.1 rfl g1).1)
  have skip : fLine (XI t q) → ∀ k, (k = 1 ∨ k = 2) → good a t Wf root fr to M C I vr (5 * ID t e + k, nI (5 * ID t q + 3), 0) := fun hfl k hk => good_n h0 (by omega) (fun z hz hI hP => by
    obtain ⟨hqin, hx⟩ := inner z k hz hk hI hP
    have hsk : ¬ a c_P_isSkipped q = 0 := by
      have := (row_S hc hq hqs).2.1
      rw [if_pos hs] at this
      rcases this with u | u
      · rw [u.1]; decide
      · exact absurd hfl u.2
    have hff := ((row_S hc hq hqs).1.2 (by omega)).2
    have := ((hO q hqin.1 hqin.2).1 z hz hx).2 hff hsk
    exact iA hN hq (fun _ => this) (fun c => by omega))
  have mark : ∀ r ∈ L, ¬ sp_en (CO t r) = 0 → ∀ k, (k = 1 ∨ k = 2) → good a t Wf root fr to M C I vr (5 * ID t e + k, nI (5 * ID t r + 0), 0) := fun r hrL hm k hk => by
    have mr := kid_lt hr hq (show r ∈ KI t q by rw [hK]; exact List.mem_cons_of_mem _ hrL)
    refine good_n h0 (by omega) (fun z hz hI hP => ?_)
    obtain ⟨hqin, hx⟩ := inner z k hz hk hI hP
    have hrin := rg_kid hc hg hqin (show r ∈ KI t q by rw [hK]; exact List.mem_cons_of_mem _ hrL)
    have pr := (KI_mem hq mr.1).mpr (show r ∈ KI t q by rw [hK]; exact List.mem_cons_of_mem _ hrL)
    have ar := ar_k hc mr.1 pr
    have he := (row_S hc mr.1 (g2 r hrL)).1.1
    have hen : ¬ a c_P_isEntered r = 0 := by
      rw [he]
      have : sp_en (CO t r) < 2 := Nat.mod_lt _ (by decide)
      exact fun u => hm ((nI_eq (b := 0) (by omega) (by omega)).mp u)
    exact iB hN mr.1 (((hB r hrin.1 hrin.2) z hz).1 hen ar.2.2 (by rw [ar.2.1]; exact hx))
  have step : ∀ k r, L[k]? = some r → ∀ z, z < 2 → I (5 * ID t r + 3) → Phi a t Wf root fr to M C (5 * ID t r + 3) z → (∀ r', L[k + 1]? = some r' → C r' z) ∧ (L[k + 1]? = none → C (241 + q) z) := by
    intro k r hk z hz hI hP
    have hrL := List.mem_of_getElem? hk
    have mr := kid_lt hr hq (show r ∈ KI t q by rw [hK]; exact List.mem_cons_of_mem _ hrL)
    have hin := inn r 3 mr.1 (by omega) hI
    have pr := (KI_mem hq mr.1).mpr (show r ∈ KI t q by rw [hK]; exact List.mem_cons_of_mem _ hrL)
    have hk1 : (KI t q)[k + 1]? = some r := by rw [hK]; exact hk
    have hw := W_all hc hq (by omega) hk1
    rw [hs, hK] at hw
    have e1 : a c_Y_trueTo r = orV (nx0 L[k + 1]?) (nI (241 + q)) := congrArg Prod.fst hw
    have hC1 := (hP.2.1.1 r mr.1 rfl).1 (g2 r hrL)
    refine ⟨fun r' h1 => ?_, fun h1 => ?_⟩
    · have mr' := kid_lt hr hq (show r' ∈ KI t q by rw [hK]; exact List.mem_cons_of_mem _ (List.mem_of_getElem? h1))
      rw [h1] at e1
      have e1 : a c_Y_trueTo r = orV (r' + 1) (nI (241 + q)) := e1
      rw [orV_s] at e1
      have x3 := (clO_use hc mr.1 pr (by omega) (by omega) (by omega) (hO r hin.1 hin.2) (not9 (m := r') (by omega) e1 _) hz).1 hC1
      rw [e1] at x3
      exact (atP_n (by omega)).mp x3
    · rw [h1] at e1
      have e1 : a c_Y_trueTo r = nI (241 + q) := e1
      have x3 := (clO_use hc mr.1 pr (by omega) (by omega) (by omega) (hO r hin.1 hin.2) (not9 (m := 241 + q) (by omega) e1 _) hz).1 hC1
      rw [e1] at x3
      exact (atP_n (by omega)).mp x3
  intro x hx
  rw [ow_83 hr hq hs hK g1 g2, bcJ_iff] at hx
  rcases hx with ⟨hfl, rfl | rfl⟩ | (⟨r, hrL, hm, rfl | rfl⟩ | ⟨hn, -⟩ | ⟨k, r, r', ⟨h1, h2⟩, rfl⟩ | ⟨k, r, ⟨h1, h2⟩, rfl⟩) | rfl | hx
  · exact skip hfl 2 (Or.inr rfl)
  · exact skip hfl 1 (Or.inl rfl)
  · exact mark r hrL hm 1 (Or.inl rfl)
  · exact mark r hrL hm 2 (Or.inr rfl)
  · exact absurd rfl hn
  · have mr' := kid_lt hr hq (show r' ∈ KI t q by rw [hK]; exact List.mem_cons_of_mem _ (List.mem_of_getElem? h2))
    exact good_n h0 (by omega) (fun z hz hI hP => iB hN mr'.1 ((step k r h1 z hz hI hP).1 r' h2))
  · exact good_n h0 (by omega) (fun z hz hI hP => iA hN hq (fun _ => (step k r h1 z hz hI hP).2 h2) (fun c => by omega))
  · refine good_n h0 (by omega) (fun z hz hI hP => ?_)
    have hin := inn q 0 hq (by omega) hI
    have x2 := (clS_d hc hq (by rw [hs]; unfold bgD; omega)).mp (((hB q hin.1 hin.2) z hz).2.2 (hP.1.1 q hq rfl))
    rw [bg_K hc hq (by omega) (by omega) (by omega), if_neg (by omega), hK] at x2
    have x2 : atP C (oI (e + 1)) z := x2
    rw [oI_s] at x2
    exact iB hN me.1 ((atP_n (by omega)).mp x2)
  · cases hx
theorem go_84 (w : WC a b V t K Wf on E) (hg : RGE a b t K Wf root fr to I) (h0 : ∀ z, bt 0 vr z = z) (hB : ∀ p, fr ≤ p → p < to → clB a (sp_z t) root M v C p) (hO : ∀ p, fr ≤ p → p < to → clO a (sp_z t) root M v C p) {q : Nat} (hq : q < sp_z t) (hs : SO t q = 84) : ∀ x ∈ own b (sp_z t) (K (ID t q)) (ID t q) Wf [], good a t Wf root fr to M C I vr x := by
  have hc := w.1.1
  have hr := w.1.2
  have hN := CU_N hc
  have lq := ID_lt hq
  have hqs : stS (SO t q) := by rw [hs]; unfold stS; omega
  have hid := ID_st hc.1.2.2 hq hqs
  have inn := fun (j k : Nat) (hj : j < sp_z t) (hk : k < 5) => (in_node hc hr w.2.2.1.1 hg hj hk).mp
  obtain ⟨u, y, y2, e, ⟨⟨l1, l2⟩, l3, ez⟩, -, -, hb, hcat, hfin⟩ := W_T hc hq hs
  have hEN := EN_le hq
  have hl2 := lnkL_le _ _ _ l2
  have hl3 := lnkL_le _ _ _ l3
  obtain ⟨k1, k2, k3⟩ := W_Tk hc hq hs e
  have eK : KI t q = rtL u (q + 1) ++ (rtL y (q + 1 + sp_z u) ++ rtL y2 (q + 1 + sp_z u + sp_z y)) := by
    show rtL (XI t q) (q + 1) = _
    rw [e]; rfl
  have ks := ks_84 hc.1.2.1 hq hs
  have inU : ∀ r ∈ rtL u (q + 1), r ∈ KI t q := fun r h1 => by rw [eK]; exact List.mem_append_left _ h1
  have inY : ∀ r ∈ rtL y (q + 1 + sp_z u), r ∈ KI t q := fun r h1 => by rw [eK]; exact List.mem_append_right _ (List.mem_append_left _ h1)
  have inZ : ∀ r ∈ rtL y2 (q + 1 + sp_z u + sp_z y), r ∈ KI t q := fun r h1 => by rw [eK]; exact List.mem_append_right _ (List.mem_append_right _ h1)
  have eTl : eT t q < 964 := by unfold eT; split <;> omega
  have ov : ∀ z, z < 2 → atP C (nI (eT t q)) z → ∃ p, (if hE t q then coW Wf 0 (.inr q) else nI (5 * q + 3)) = nI p ∧ p < 10000 ∧ Phi a t Wf root fr to M C p z := fun z _ h => over_Phi w hq hs h
  -- along the first two parts
  have nx : ∀ (L : List Nat), (∀ r ∈ L, r ∈ KI t q) → (∀ j p, L[j]? = some p → a c_Y_trueTo p = orV (nx0 L[j + 1]?) (nI (eT t q))) → ∀ k r z, L[k]? = some r → z < 2 → I (5 * ID t r + 3) → C (241 + r) z → (∀ r', L[k + 1]? = some r' → C r' z) ∧ (L[k + 1]? = none → ∃ p, (if hE t q then coW Wf 0 (.inr q) else nI (5 * q + 3)) = nI p ∧ p < 10000 ∧ Phi a t Wf root fr to M C p z) := by
    intro L hLK hLt k r z hk hz hI hC1
    have hrK := hLK r (List.mem_of_getElem? hk)
    have mr := kid_lt hr hq hrK
    have hin := inn r 3 mr.1 (by omega) hI
    have pr := (KI_mem hq mr.1).mpr hrK
    have e1 := hLt k r hk
    refine ⟨fun r' h1 => ?_, fun h1 => ?_⟩
    · have mr' := kid_lt hr hq (hLK r' (List.mem_of_getElem? h1))
      rw [h1] at e1
      have e1 : a c_Y_trueTo r = orV (r' + 1) (nI (eT t q)) := e1
      rw [orV_s] at e1
      have x3 := (clO_use hc mr.1 pr (by omega) (by omega) (by omega) (hO r hin.1 hin.2) (not9 (m := r') (by omega) e1 _) hz).1 hC1
      rw [e1] at x3
      exact (atP_n (by omega)).mp x3
    · rw [h1] at e1
      have e1 : a c_Y_trueTo r = nI (eT t q) := e1
      have x3 := (clO_use hc mr.1 pr (by omega) (by omega) (by omega) (hO r hin.1 hin.2) (not9 (m := eT t q) eTl e1 _) hz).1 hC1
      rw [e1] at x3
      exact ov z hz x3
  have hd2 : ∀ (L : List Nat) z, z < 2 → atP C (orV (nx0 L[0]?) (nI (eT t q))) z → (∀ r ∈ L, r ∈ KI t q) → (∀ r, L[0]? = some r → C r z) ∧ (L = [] → ∃ p, (if hE t q then coW Wf 0 (.inr q) else nI (5 * q + 3)) = nI p ∧ p < 10000 ∧ Phi a t Wf root fr to M C p z) := by
    intro L z hz hx hLK
    refine ⟨fun r h1 => ?_, fun h1 => ov z hz ?_⟩
    · have mr := kid_lt hr hq (hLK r (List.mem_of_getElem? h1))
      rw [h1] at hx
      have hx : atP C (orV (r + 1) (nI (eT t q))) z := hx
      rw [orV_s] at hx
      exact (atP_n (by omega)).mp hx
    · rw [h1] at hx
      exact hx
  intro x hx
  rw [ow_84 hr hq hs e (T_pl hc hq hs)] at hx
  rcases hx with ⟨cE, hx⟩ | ⟨cC, hx⟩ | hx | hx
  · -- N
    have hfin2 : a c_Y_finallyTo q = oI (nx0 (rtL y2 (q + 1 + sp_z u + sp_z y))[0]?) := by rw [hfin, if_pos cE]
    have frq : root = nI q → fr = q + 1 + sp_z u + sp_z y ∧ to = EN t q := fun hro => by
      rcases hg with ⟨z1, -, -, -⟩ | ⟨ρ, z1, z2, z3, z4, z5, -⟩
      · rw [z1] at hro; exact absurd hro.symm (nI_ne_m1 (by omega))
      · rw [z3, nI_eq (by omega) (by omega)] at hro
        subst hro
        obtain ⟨u', v', w', e', e1, e2⟩ := rg_T hc z1 z2.1 z2.2 z4.1 z4.2
        rw [e] at e'
        cases e'
        exact ⟨e1, z5⟩
    refine go_ch h0 hN (fun r h1 => (kid_lt hr hq (inZ r h1)).1) (fun r h1 => ks r (inZ r h1)) (fun z hz hI hP => ?_) (fun k r z hk hz hI hC1 => ?_) x hx
    · have h1 := hP.2.2.1.2.2.1 q hq rfl hs cE
      by_cases hro : root = nI q
      · have h2 := h1.1 hro
        have h3 := frq hro
        refine ⟨fun r h4 => ?_, fun h4 => ⟨_, rfl, by omega, iM hN hq (fun _ => ?_)⟩⟩
        · rcases lnk_0 l3 with ⟨n1, n2⟩ | ⟨n1, n2⟩
          · rw [n1] at h4; cases h4
          · rw [n1] at h4
            cases h4
            rw [if_neg (by omega), h3.1] at h2
            exact h2
        · rcases lnk_0 l3 with ⟨n1, n2⟩ | ⟨n1, n2⟩
          · rw [if_pos (by omega)] at h2
            exact h2
          · rw [h4] at n1; cases n1
      · have h2 := h1.2 hro
        rw [hfin2] at h2
        refine ⟨fun r h4 => ?_, fun h4 => ⟨_, rfl, by omega, iM hN hq (fun u => absurd u hro)⟩⟩
        rw [h4] at h2
        have mr := kid_lt hr hq (inZ r (List.mem_of_getElem? h4))
        have h2 : atP C (oI (r + 1)) z := h2
        rw [oI_s] at h2
        exact (atP_n (by omega)).mp h2
    · have hrK := inZ r (List.mem_of_getElem? hk)
      have mr := kid_lt hr hq hrK
      have hin := inn r 3 mr.1 (by omega) hI
      have pr := (KI_mem hq mr.1).mpr hrK
      have ar := ar_k hc mr.1 pr
      have e1 := (k3 k r hk).1
      refine ⟨fun r' h1 => ?_, fun h1 => ⟨_, rfl, by omega, iM hN hq (fun hro => ?_)⟩⟩
      · have mr' := kid_lt hr hq (inZ r' (List.mem_of_getElem? h1))
        rw [h1] at e1
        have e1 : a c_Y_trueTo r = orV (r' + 1) (nI 964) := e1
        rw [orV_s] at e1
        have x3 := (clO_use hc mr.1 pr (by omega) (by omega) (by omega) (hO r hin.1 hin.2) (not9 (m := r') (by omega) e1 _) hz).1 hC1
        rw [e1] at x3
        exact (atP_n (by omega)).mp x3
      · rw [h1] at e1
        have e1 : a c_Y_trueTo r = nI 964 := e1
        have x3 := (clO_use hc mr.1 pr (by omega) (by omega) (by omega) (hO r hin.1 hin.2) (fun n => n.2 (by rw [ar.1, hro])) hz).1 hC1
        rw [e1] at x3
        exact (atP_n (by omega)).mp x3
  · refine go_ch h0 hN (fun r h1 => (kid_lt hr hq (inY r h1)).1) (fun r h1 => ks r (inY r h1)) (fun z hz hI hP => ?_) (nx _ inY (fun j p hj => (k2 j p hj).1)) x hx
    have h1 := hP.2.2.1.2.1 q hq rfl hs cC
    rw [hcat, if_pos cC] at h1
    exact hd2 _ z hz h1 inY
  · refine go_ch h0 hN (fun r h1 => (kid_lt hr hq (inU r h1)).1) (fun r h1 => ks r (inU r h1)) (fun z hz hI hP => ?_) (nx _ inU (fun j p hj => (k1 j p hj).1)) x hx
    have hI : I (5 * q + 0) := hI
    rw [← hid] at hI hP
    have hin := inn q 0 hq (by omega) hI
    have x2 := (clS_d hc hq (by rw [hs]; unfold bgD; omega)).mp (((hB q hin.1 hin.2) z hz).2.2 (hP.1.1 q hq rfl))
    rw [hb] at x2
    exact hd2 _ z hz x2 inU
  · cases hx
end PH4
