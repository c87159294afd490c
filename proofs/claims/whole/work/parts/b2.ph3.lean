section PH3
variable {a b : Nat → Nat → Int32} {V : Nat} {t : Std.Format} {K : Nat → Nat} {Wf : wL_T} {on : Nat → Int32} {E : eL_T} {root : Int32} {fr to : Nat} {I : Nat → Prop} {M : Nat → Nat → Nat → Prop} {en : Nat → Nat → Nat} {v : Nat} {vr : Int32} {C : Nat → Nat → Prop}
/-- raising edges are good -/
theorem go_tr (w : WC a b V t K Wf on E) (hg : RGE a b t K Wf root fr to I) (h0 : ∀ z, bt 0 vr z = z) (hB : ∀ p, fr ≤ p → p < to → clB a (sp_z t) root M v C p) {q : Nat} (hq : q < sp_z t) : ∀ x, trM b (sp_z t) (K (ID t q)) (ID t q) Wf x → good a t Wf root fr to M C I vr x := by
  have hc := w.1.1
  have hr := w.1.2
  have hN := CU_N hc
  intro x hx
  obtain ⟨htr, hne, hx⟩ := hx
  have e20 := lvA_20 w hq (cdOK_2 (t := t) (c := 2) (i := q) (by omega))
  have hiw := (w.2.2.2.1.1 q hq).2 htr
  rw [e20] at hiw hne hx
  have key : ∀ z, z < 2 → (fr ≤ q ∧ q < to) → lvp a (sp_z t) root M C (fun _ => True) (-1) 1 q z → I (dN (coW Wf 2 (lvT a t (fnl b (sp_z t) 2) 2 20 (TA a q) (a c_P_tryPart q)))) → Phi a t Wf root fr to M C (dN (coW Wf 2 (lvT a t (fnl b (sp_z t) 2) 2 20 (TA a q) (a c_P_tryPart q)))) z := by
    intro z hz hin hl hI
    have hq2 : LVQ a t root M C 2 20 (TA a q) (a c_P_tryPart q) z := lvq_mono (fun _ _ q => q) (fun _ _ _ => trivial) 20 _ _ _ hz hl
    obtain ⟨p, e1, e2, e3⟩ := lv_Phi hc hr w.2.1.1 w.2.2.1.1 hg w.2.2.2.2 (c := 2) (by omega) (cdL_2 (by omega)) 20 q z hin.1 hin.2 (cdOK_2 (by omega)) (w.2.1.1 q hq) hiw hz hq2 hne hI
    rw [e1]
    have e4 : dN (nI p) = p := nI_clamp (by omega)
    rw [e4]
    exact e3
  intro z hz hI hP hI2
  rcases hx with rfl | ⟨h61, rfl | rfl⟩
  · have hin := (in_node hc hr w.2.2.1.1 hg hq (k := 0) (by omega)).mp hI
    show Phi _ _ _ _ _ _ _ _ _ (bt 0 vr z)
    rw [h0]
    exact key z hz hin (((hB q hin.1 hin.2) z hz).2.1 (hP.1.1 q hq rfl)) hI2
  · have c61 := (RU_is hr hq (s := 61) (by decide)).mp h61
    have hin := (in_node hc hr w.2.2.1.1 hg hq (k := 1) (by omega)).mp hI
    show Phi _ _ _ _ _ _ _ _ _ (bt 0 vr z)
    rw [h0]
    exact key z hz hin ((hP.1.2.1 q hq rfl (by rw [c61]; unfold stS; omega)).2 c61) hI2
  · have c61 := (RU_is hr hq (s := 61) (by decide)).mp h61
    have hin := (in_node hc hr w.2.2.1.1 hg hq (k := 2) (by omega)).mp hI
    show Phi _ _ _ _ _ _ _ _ _ (bt 0 vr z)
    rw [h0]
    exact key z hz hin ((hP.1.2.2 q hq rfl (by rw [c61]; unfold stS; omega)).2 c61) hI2
/-- leaving by a statement: the target -/
theorem go_lv (w : WC a b V t K Wf on E) (hg : RGE a b t K Wf root fr to I) {q : Nat} (hq : q < sp_z t) (hs : SO t q = 66 ∨ SO t q = 67 ∨ SO t q = 82 ∨ SO t q = 88) (hin : fr ≤ q ∧ q < to) {z : Nat} (hz : z < 2) (hl : LVQ a t root M C (cdF b (ID t q)) 20 (TA a q) (a c_P_tryPart q) z) (hne : ¬ coW Wf (cdF b (ID t q)) (lvA b (sp_z t) (cdF b (ID t q)) (K (ID t q)) (ID t q) (b r_around (ID t q))) = -1) (hI : I (dN (coW Wf (cdF b (ID t q)) (lvA b (sp_z t) (cdF b (ID t q)) (K (ID t q)) (ID t q) (b r_around (ID t q)))))) : Phi a t Wf root fr to M C (dN (coW Wf (cdF b (ID t q)) (lvA b (sp_z t) (cdF b (ID t q)) (K (ID t q)) (ID t q) (b r_around (ID t q))))) z := by
  have co := cd_ok w hq hs
  have hst : stS (SO t q) := by unfold stS; omega
  have hiw := ((w.2.2.2.1.1 q hq).1 hst).2 co.2.2
  have e20 := lvA_20 w hq co.1.1
  rw [e20] at hiw hne hI ⊢
  obtain ⟨p, e1, e2, e3⟩ := lv_Phi w.1.1 w.1.2 w.2.1.1 w.2.2.1.1 hg w.2.2.2.2 co.2.1 co.1.2 20 q z hin.1 hin.2 co.1.1 (w.2.1.1 q hq) hiw hz hl hne hI
  rw [e1]
  have e4 : dN (nI p) = p := nI_clamp (by omega)
  rw [e4]
  exact e3
/-- what B, C and R ask for where they begin -/
theorem LV_of (w : WC a b V t K Wf on E) (hB : ∀ p, fr ≤ p → p < to → clB a (sp_z t) root M v C p) {q : Nat} (hq : q < sp_z t) (hin : fr ≤ q ∧ q < to) (hs : SO t q = 66 ∨ SO t q = 67 ∨ SO t q = 82 ∨ SO t q = 88) (hK : KI t q = []) {z : Nat} (hz : z < 2) (hC1 : C q z) : LVQ a t root M C (cdF b (ID t q)) 20 (TA a q) (a c_P_tryPart q) z := by
  have hc := w.1.1
  have hN := CU_N hc
  have hW := hc.1.2.1
  have cs : stS (SO t q) := by unfold stS; omega
  have h1 := ((hB q hin.1 hin.2) z hz).2.2 hC1
  have ce := cd_eq w hq
  by_cases c88 : SO t q = 88
  · rw [ce.2.1 c88]
    exact lvq_mono (fun _ _ q => q) (fun _ _ _ => trivial) 20 _ _ _ hz (((hB q hin.1 hin.2) z hz).2.1 hC1)
  · unfold clS1 at h1
    rw [if_neg (show ¬ a c_P_sort q = 36 from so_ne hc hq (s := 36) (by decide) (by omega)), if_neg (show ¬ a c_P_sort q = 37 from so_ne hc hq (s := 37) (by decide) (by omega)), if_neg (show ¬ a c_P_sort q = 48 from so_ne hc hq (s := 48) (by decide) (by omega)), if_neg (show ¬ a c_P_sort q = 49 from so_ne hc hq (s := 49) (by decide) (by omega))] at h1
    rcases hs with c' | c' | c' | c'
    · have j := JT hc.1.2.2 hW w.2.1.2 hq (Or.inl c')
      rw [if_pos (show a c_P_sort q = 66 from (CU_is hc hq (s := 66) (by decide)).mpr c')] at h1
      have et : tgc (3 + 2 * TG t q) = TG t q := by show (3 + 2 * TG t q - 3) / 2 = TG t q; omega
      have eb : a c_Y_beginTo q = nI (241 + TG t q) := by
        rw [(hc.2.2 q hq).1.1]
        unfold bgV
        rw [if_pos (show a c_P_sort q = 66 from (CU_is hc hq (s := 66) (by decide)).mpr c'), ((row_S hc hq cs).2.2.2 (Or.inl c')).2]
        congr 2
        exact nI_clamp (by omega)
      have eo : oC (3 + 2 * TG t q) = a c_P_target q := by
        unfold oC
        rw [if_neg (by omega), et, ((row_S hc hq cs).2.2.2 (Or.inl c')).2]
      have er : rC (3 + 2 * TG t q) = 0 := by unfold rC; rw [if_neg (by omega)]
      rw [ce.2.2.1 c']
      unfold LVQ
      rw [eo, er]
      refine lvq_mono (fun _ _ q => q) (fun z' _ hf => ?_) 20 _ _ _ hz h1
      rw [eb] at hf
      unfold FIN
      rw [if_neg (by omega), if_pos (by omega), et]
      exact (atP_n (by omega)).mp hf
    · have j := JT hc.1.2.2 hW w.2.1.2 hq (Or.inr c')
      rw [if_neg (show ¬ a c_P_sort q = 66 from so_ne hc hq (s := 66) (by decide) (by omega)), if_pos (show a c_P_sort q = 67 from (CU_is hc hq (s := 67) (by decide)).mpr c')] at h1
      have et : tgc (4 + 2 * TG t q) = TG t q := by show (4 + 2 * TG t q - 3) / 2 = TG t q; omega
      have htN : TG t q < sp_z t := by omega
      have ed : dN (a c_P_target q) = TG t q := by rw [((row_S hc hq cs).2.2.2 (Or.inr c')).2]; exact nI_clamp (by omega)
      have eb : a c_Y_beginTo q = oI (nx0 (lpE t (TG t q))) := by
        rw [(hc.2.2 q hq).1.1]
        unfold bgV
        rw [if_neg (show ¬ a c_P_sort q = 66 from so_ne hc hq (s := 66) (by decide) (by omega)), if_pos (show a c_P_sort q = 67 from (CU_is hc hq (s := 67) (by decide)).mpr c'), ed, chF_K hc htN]
        unfold lpE
        by_cases c7 : SO t (TG t q) = 87
        · rw [if_pos c7, if_pos (show a c_P_sort (TG t q) = 87 from (CU_is hc htN (s := 87) (by decide)).mpr c7)]
        · rw [if_neg c7, if_neg (show ¬ a c_P_sort (TG t q) = 87 from so_ne hc htN (s := 87) (by decide) c7)]
      have eo : oC (4 + 2 * TG t q) = a c_P_target q := by
        unfold oC
        rw [if_neg (by omega), et, ((row_S hc hq cs).2.2.2 (Or.inr c')).2]
      have er : rC (4 + 2 * TG t q) = 0 := by unfold rC; rw [if_neg (by omega)]
      rw [ce.2.2.2 c']
      unfold LVQ
      rw [eo, er]
      refine lvq_mono (fun _ _ q => q) (fun z' _ hf => ?_) 20 _ _ _ hz h1
      rw [eb] at hf
      unfold FIN
      rw [if_neg (by omega), if_neg (by omega), et]
      exact hf
    · have n7 : ¬ (a c_P_sort q = 35 ∨ (97 ≤ a c_P_sort q ∧ a c_P_sort q ≤ 122)) := by
        rw [CU_sort hc hq, c']
        decide
      have eb := bg_K hc hq (by omega) (by omega) (by omega)
      rw [if_neg (by omega), hK] at eb
      have eb : a c_Y_beginTo q = -1 := eb
      rw [if_neg (show ¬ a c_P_sort q = 66 from so_ne hc hq (s := 66) (by decide) (by omega)), if_neg (show ¬ a c_P_sort q = 67 from so_ne hc hq (s := 67) (by decide) (by omega)), if_neg n7, if_pos ⟨(CU_is hc hq (s := 82) (by decide)).mpr c', eb⟩] at h1
      rw [ce.1 c']
      exact lvq_mono (fun _ _ q => q) (fun _ _ _ => trivial) 20 _ _ _ hz h1
    · exact absurd c' c88
/-- where the class's first two parts of a T go on -/
theorem over_Phi (w : WC a b V t K Wf on E) {q : Nat} (hq : q < sp_z t) (hs : SO t q = 84) {z : Nat} (h : atP C (nI (eT t q)) z) : ∃ p, (if hE t q then coW Wf 0 (.inr q) else nI (5 * q + 3)) = nI p ∧ p < 10000 ∧ Phi a t Wf root fr to M C p z := by
  have hc := w.1.1
  have hN := CU_N hc
  have hst : stS (SO t q) := by rw [hs]; unfold stS; omega
  have hid := ID_st hc.1.2.2 hq hst
  unfold eT at h
  by_cases cE : hE t q
  · rw [if_pos cE] at h ⊢
    have hin0 := ((w.2.2.2.1.1 q hq).1 hst).1 hs cE
    obtain ⟨j, y1, y2, y3⟩ := way_at (show (q, 0) ∈ Wf from hin0)
    have hl := w.2.2.2.2.1
    exact ⟨2100 + j, y3, by omega, iW hN hl y1 (fun _ => (atP_n (by omega)).mp h) (fun c => absurd rfl c)⟩
  · rw [if_neg cE] at h ⊢
    have := iA (a := a) (Wf := Wf) (root := root) (fr := fr) (to := to) (M := M) hN hq (fun _ => (atP_n (by omega)).mp h) (fun c => by rw [hs] at c; exact absurd c (by decide))
    rw [hid] at this
    exact ⟨5 * q + 3, rfl, by omega, this⟩
/-- chains are good -/
theorem go_ch {L : List Nat} {f : Nat} {s : Int32} (h0 : ∀ z, bt 0 vr z = z) (hN : sp_z t ≤ 240) (hL : ∀ r ∈ L, r < sp_z t) (hst : ∀ r ∈ L, stS (SO t r)) (hd : ∀ z, z < 2 → I f → Phi a t Wf root fr to M C f z → (∀ r, L[0]? = some r → C r z) ∧ (L = [] → ∃ p, s = nI p ∧ p < 10000 ∧ Phi a t Wf root fr to M C p z))
    (nx : ∀ k r z, L[k]? = some r → z < 2 → I (5 * ID t r + 3) → C (241 + r) z → (∀ r', L[k + 1]? = some r' → C r' z) ∧ (L[k + 1]? = none → ∃ p, s = nI p ∧ p < 10000 ∧ Phi a t Wf root fr to M C p z)) : ∀ x, chM (ID t) L f s x → good a t Wf root fr to M C I vr x := by
  intro x hx
  rw [chM_iff] at hx
  have cl : ∀ z p, s = nI p → p < 10000 → Phi a t Wf root fr to M C p z → Phi a t Wf root fr to M C (dN s) (bt 0 vr z) := fun z p e1 e2 e3 => by
    rw [h0, e1]
    have e4 : dN (nI p) = p := nI_clamp (by omega)
    rw [e4]; exact e3
  rcases hx with ⟨r, h1, rfl⟩ | ⟨h1, rfl, -⟩ | ⟨k, r, r', ⟨h1, h2⟩, rfl⟩ | ⟨k, r, ⟨h1, h2⟩, rfl, -⟩
  · have hr := hL r (List.mem_of_getElem? h1)
    have := ID_lt hr
    exact good_n h0 (by omega) (fun z hz hI hP => iB hN hr ((hd z hz hI hP).1 r h1))
  · intro z hz hI hP _
    obtain ⟨p, e1, e2, e3⟩ := (hd z hz hI hP).2 h1
    exact cl z p e1 e2 e3
  · have hr := hL r (List.mem_of_getElem? h1)
    have hr' := hL r' (List.mem_of_getElem? h2)
    have := ID_lt hr'
    exact good_n h0 (by omega) (fun z hz hI hP => iB hN hr' ((nx k r z h1 hz hI ((hP.2.1.1 r hr rfl).1 (hst r (List.mem_of_getElem? h1)))).1 r' h2))
  · have hr := hL r (List.mem_of_getElem? h1)
    intro z hz hI hP _
    obtain ⟨p, e1, e2, e3⟩ := (nx k r z h1 hz hI ((hP.2.1.1 r hr rfl).1 (hst r (List.mem_of_getElem? h1)))).2 h2
    exact cl z p e1 e2 e3
end PH3
