section KP
variable {a b : Nat → Nat → Int32} {V : Nat} {t : Std.Format} {K : Nat → Nat} {Wf : wL_T} {on : Nat → Int32} {E : eL_T} {root : Int32} {fr to : Nat} {I : Nat → Prop} {M : Nat → Nat → Nat → Prop} {en : Nat → Nat → Nat} {v : Nat} {vr : Int32} {R C : Nat → Nat → Prop}

theorem po_58 (w : WC a b V t K Wf on E) (hg : RGE a b t K Wf root fr to I) (hR : clR E Wf on en vr I R) (h0 : ∀ z, bt 0 vr z = z) {q s : Nat} (hq : q < sp_z t) (hs : SO t q = 58) (hK : KI t q = [s]) (g_s : stS (SO t s)) : (fr ≤ s ∧ s < to → ∀ z, z < 2 → (PsR t Wf root fr to R (241 + s) z → atP (PsR t Wf root fr to R) (a c_Y_trueTo s) z) ∧ (PsR t Wf root fr to R (482 + s) z → atP (PsR t Wf root fr to R) (a c_Y_falseTo s) z)) := by
  have h := w.1.1
  have hr := w.1.2
  have hN := CU_N h
  have n84 : ¬ SO t q = 84 := by omega
  have hqs : stS (SO t q) := by rw [hs]; unfold stS; omega
  have lq := ID_lt hq
  have m_s := kid_lt hr hq (show s ∈ KI t q by rw [hK]; simp)
  refine (?_)
  · intro hin z hz
    have hk : (KI t q)[0]? = some s := by rw [hK]; rfl
    have hw := W_all h hq n84 hk
    rw [hs, hK] at hw
    have e1 : a c_Y_trueTo s = nI (241 + q) := congrArg Prod.fst hw
    have e2 : a c_Y_falseTo s = nI (241 + q) := congrArg Prod.snd hw
    refine ⟨fun x1 => ?_, fun x1 => ?_⟩
    · have x2 := (xT1 m_s.1 hin x1).1 g_s
      have x3 := Rk w hg hR h0 hq m_s.1 hin (k := 3) (s := 5 * ID t q + 3) (by omega) (by omega) hz (by rw [ow_58 hr hq hs hK g_s]; exact Or.inl rfl) x2
      rw [e1]
      exact (atP_n (by omega)).mpr (fun _ => jT1 hN hq (fun _ => x3) (fun c => absurd hqs c))
    · exact absurd g_s (xF1 m_s.1 hin x1).1

theorem go_58 (w : WC a b V t K Wf on E) (hg : RGE a b t K Wf root fr to I) (h0 : ∀ z, bt 0 vr z = z) (hB : ∀ p, fr ≤ p → p < to → clB a (sp_z t) root M v C p) (hO : ∀ p, fr ≤ p → p < to → clO a (sp_z t) root M v C p) {q s : Nat} (hq : q < sp_z t) (hs : SO t q = 58) (hK : KI t q = [s]) (g_s : stS (SO t s)) : ∀ x ∈ own b (sp_z t) (K (ID t q)) (ID t q) Wf [], good a t Wf root fr to M C I vr x := by
  have h := w.1.1
  have hr := w.1.2
  have hN := CU_N h
  have n84 : ¬ SO t q = 84 := by omega
  have hqs : stS (SO t q) := by rw [hs]; unfold stS; omega
  have lq := ID_lt hq
  have m_s := kid_lt hr hq (show s ∈ KI t q by rw [hK]; simp)
  have inn := fun (j k : Nat) (hj : j < sp_z t) (hk : k < 5) => (in_node h hr w.2.2.1.1 hg hj hk).mp
  intro x hx
  rw [ow_58 hr hq hs hK g_s] at hx
  rcases hx with rfl | rfl | hx
  · refine good_n h0 (by omega) (fun z hz hI hP => ?_)
    have hin := inn s 3 m_s.1 (by omega) hI
    have hk : (KI t q)[0]? = some s := by rw [hK]; rfl
    have hw := W_all h hq n84 hk
    rw [hs, hK] at hw
    have e1 : a c_Y_trueTo s = nI (241 + q) := congrArg Prod.fst hw
    have e2 : a c_Y_falseTo s = nI (241 + q) := congrArg Prod.snd hw
    have n9 := not9 (x := a c_Y_trueTo s) (m := 241 + q) (by omega) (e1) (¬ a c_P_around s = root)
    have pa := (KI_mem hq m_s.1).mpr (List.mem_of_getElem? hk)
    have x3 := clO_use h m_s.1 pa (by omega) (by omega) (by omega) (hO s hin.1 hin.2) n9 hz
    have x4 := x3.1 ((hP.2.1.1 s m_s.1 rfl).1 g_s)
    rw [e1] at x4
    exact iA hN hq (fun _ => ((atP_n (by omega)).mp x4)) (fun c => absurd c (by omega))
  · refine good_n h0 (by omega) (fun z hz hI hP => ?_)
    have hin := inn q 0 hq (by omega) hI
    have x1 := hP.1.1 q hq rfl
    have x2 := (clS_d h hq (by rw [hs]; unfold bgD; omega)).mp (((hB q hin.1 hin.2) z hz).2.2 x1)
    rw [bg_K h hq (by omega) (by omega) (by omega), if_neg (by omega), hK] at x2
    have x2 : atP C (oI (s + 1)) z := x2
    rw [oI_s] at x2
    exact iB hN m_s.1 ((atP_n (by omega)).mp x2)
  · cases hx

theorem po_59 (w : WC a b V t K Wf on E) (hg : RGE a b t K Wf root fr to I) (hR : clR E Wf on en vr I R) (h0 : ∀ z, bt 0 vr z = z) {q e : Nat} (hq : q < sp_z t) (hs : SO t q = 59) (hK : KI t q = [e]) (g_e : ¬ stS (SO t e)) : (fr ≤ e ∧ e < to → ∀ z, z < 2 → (PsR t Wf root fr to R (241 + e) z → atP (PsR t Wf root fr to R) (a c_Y_trueTo e) z) ∧ (PsR t Wf root fr to R (482 + e) z → atP (PsR t Wf root fr to R) (a c_Y_falseTo e) z)) := by
  have h := w.1.1
  have hr := w.1.2
  have hN := CU_N h
  have n84 : ¬ SO t q = 84 := by omega
  have hqs : stS (SO t q) := by rw [hs]; unfold stS; omega
  have lq := ID_lt hq
  have m_e := kid_lt hr hq (show e ∈ KI t q by rw [hK]; simp)
  refine (?_)
  · intro hin z hz
    have hk : (KI t q)[0]? = some e := by rw [hK]; rfl
    have hw := W_all h hq n84 hk
    rw [hs, hK] at hw
    have e1 : a c_Y_trueTo e = nI (241 + q) := congrArg Prod.fst hw
    have e2 : a c_Y_falseTo e = nI (241 + q) := congrArg Prod.snd hw
    refine ⟨fun x1 => ?_, fun x1 => ?_⟩
    · have x2 := (xT1 m_e.1 hin x1).2 g_e
      have x3 := Rk w hg hR h0 hq m_e.1 hin (k := 1) (s := 5 * ID t q + 3) (by omega) (by omega) hz (by rw [ow_59 hr hq hs hK g_e]; exact Or.inr (Or.inl rfl)) x2
      rw [e1]
      exact (atP_n (by omega)).mpr (fun _ => jT1 hN hq (fun _ => x3) (fun c => absurd hqs c))
    · have x2 := (xF1 m_e.1 hin x1).2
      have x3 := Rk w hg hR h0 hq m_e.1 hin (k := 2) (s := 5 * ID t q + 3) (by omega) (by omega) hz (by rw [ow_59 hr hq hs hK g_e]; exact Or.inl rfl) x2
      rw [e2]
      exact (atP_n (by omega)).mpr (fun _ => jT1 hN hq (fun _ => x3) (fun c => absurd hqs c))

theorem go_59 (w : WC a b V t K Wf on E) (hg : RGE a b t K Wf root fr to I) (h0 : ∀ z, bt 0 vr z = z) (hB : ∀ p, fr ≤ p → p < to → clB a (sp_z t) root M v C p) (hO : ∀ p, fr ≤ p → p < to → clO a (sp_z t) root M v C p) {q e : Nat} (hq : q < sp_z t) (hs : SO t q = 59) (hK : KI t q = [e]) (g_e : ¬ stS (SO t e)) : ∀ x ∈ own b (sp_z t) (K (ID t q)) (ID t q) Wf [], good a t Wf root fr to M C I vr x := by
  have h := w.1.1
  have hr := w.1.2
  have hN := CU_N h
  have n84 : ¬ SO t q = 84 := by omega
  have hqs : stS (SO t q) := by rw [hs]; unfold stS; omega
  have lq := ID_lt hq
  have m_e := kid_lt hr hq (show e ∈ KI t q by rw [hK]; simp)
  have inn := fun (j k : Nat) (hj : j < sp_z t) (hk : k < 5) => (in_node h hr w.2.2.1.1 hg hj hk).mp
  intro x hx
  rw [ow_59 hr hq hs hK g_e] at hx
  rcases hx with rfl | rfl | rfl | hx
  · refine good_n h0 (by omega) (fun z hz hI hP => ?_)
    have hin := inn e 2 m_e.1 (by omega) hI
    have hk : (KI t q)[0]? = some e := by rw [hK]; rfl
    have hw := W_all h hq n84 hk
    rw [hs, hK] at hw
    have e1 : a c_Y_trueTo e = nI (241 + q) := congrArg Prod.fst hw
    have e2 : a c_Y_falseTo e = nI (241 + q) := congrArg Prod.snd hw
    have n9 := not9 (x := a c_Y_trueTo e) (m := 241 + q) (by omega) (e1) (¬ a c_P_around e = root)
    have pa := (KI_mem hq m_e.1).mpr (List.mem_of_getElem? hk)
    have x3 := clO_use h m_e.1 pa (by omega) (by omega) (by omega) (hO e hin.1 hin.2) n9 hz
    have x4 := x3.2 (hP.1.2.2 e m_e.1 rfl g_e).1
    rw [e2] at x4
    exact iA hN hq (fun _ => ((atP_n (by omega)).mp x4)) (fun c => absurd c (by omega))
  · refine good_n h0 (by omega) (fun z hz hI hP => ?_)
    have hin := inn e 1 m_e.1 (by omega) hI
    have hk : (KI t q)[0]? = some e := by rw [hK]; rfl
    have hw := W_all h hq n84 hk
    rw [hs, hK] at hw
    have e1 : a c_Y_trueTo e = nI (241 + q) := congrArg Prod.fst hw
    have e2 : a c_Y_falseTo e = nI (241 + q) := congrArg Prod.snd hw
    have n9 := not9 (x := a c_Y_trueTo e) (m := 241 + q) (by omega) (e1) (¬ a c_P_around e = root)
    have pa := (KI_mem hq m_e.1).mpr (List.mem_of_getElem? hk)
    have x3 := clO_use h m_e.1 pa (by omega) (by omega) (by omega) (hO e hin.1 hin.2) n9 hz
    have x4 := x3.1 (hP.1.2.1 e m_e.1 rfl g_e).1
    rw [e1] at x4
    exact iA hN hq (fun _ => ((atP_n (by omega)).mp x4)) (fun c => absurd c (by omega))
  · refine good_n h0 (by omega) (fun z hz hI hP => ?_)
    have hin := inn q 0 hq (by omega) hI
    have x1 := hP.1.1 q hq rfl
    have x2 := (clS_d h hq (by rw [hs]; unfold bgD; omega)).mp (((hB q hin.1 hin.2) z hz).2.2 x1)
    rw [bg_K h hq (by omega) (by omega) (by omega), if_neg (by omega), hK] at x2
    have x2 : atP C (oI (e + 1)) z := x2
    rw [oI_s] at x2
    exact iB hN m_e.1 ((atP_n (by omega)).mp x2)
  · cases hx

theorem po_68 (w : WC a b V t K Wf on E) (hg : RGE a b t K Wf root fr to I) (hR : clR E Wf on en vr I R) (h0 : ∀ z, bt 0 vr z = z) {q s e : Nat} (hq : q < sp_z t) (hs : SO t q = 68) (hK : KI t q = [s, e]) (g_s : stS (SO t s)) (g_e : ¬ stS (SO t e)) : (fr ≤ s ∧ s < to → ∀ z, z < 2 → (PsR t Wf root fr to R (241 + s) z → atP (PsR t Wf root fr to R) (a c_Y_trueTo s) z) ∧ (PsR t Wf root fr to R (482 + s) z → atP (PsR t Wf root fr to R) (a c_Y_falseTo s) z)) ∧ (fr ≤ e ∧ e < to → ∀ z, z < 2 → (PsR t Wf root fr to R (241 + e) z → atP (PsR t Wf root fr to R) (a c_Y_trueTo e) z) ∧ (PsR t Wf root fr to R (482 + e) z → atP (PsR t Wf root fr to R) (a c_Y_falseTo e) z)) := by
  have h := w.1.1
  have hr := w.1.2
  have hN := CU_N h
  have n84 : ¬ SO t q = 84 := by omega
  have hqs : stS (SO t q) := by rw [hs]; unfold stS; omega
  have lq := ID_lt hq
  have m_s := kid_lt hr hq (show s ∈ KI t q by rw [hK]; simp)
  have m_e := kid_lt hr hq (show e ∈ KI t q by rw [hK]; simp)
  refine ⟨?_, ?_⟩
  · intro hin z hz
    have hk : (KI t q)[0]? = some s := by rw [hK]; rfl
    have hw := W_all h hq n84 hk
    rw [hs, hK] at hw
    have e1 : a c_Y_trueTo s = oI (e + 1) := congrArg Prod.fst hw
    have e2 : a c_Y_falseTo s = oI (e + 1) := congrArg Prod.snd hw
    refine ⟨fun x1 => ?_, fun x1 => ?_⟩
    · have x2 := (xT1 m_s.1 hin x1).1 g_s
      have x3 := Rk w hg hR h0 hq m_s.1 hin (k := 3) (s := 5 * ID t e + 0) (by omega) (by omega) hz (by rw [ow_68 hr hq hs hK g_s g_e]; exact Or.inr (Or.inr (Or.inl rfl))) x2
      rw [e1, oI_s]
      exact (atP_n (by omega)).mpr (fun _ => jB hN m_e.1 x3)
    · exact absurd g_s (xF1 m_s.1 hin x1).1
  · intro hin z hz
    have hk : (KI t q)[1]? = some e := by rw [hK]; rfl
    have hw := W_all h hq n84 hk
    rw [hs, hK] at hw
    have e1 : a c_Y_trueTo e = oI (s + 1) := congrArg Prod.fst hw
    have e2 : a c_Y_falseTo e = nI (241 + q) := congrArg Prod.snd hw
    refine ⟨fun x1 => ?_, fun x1 => ?_⟩
    · have x2 := (xT1 m_e.1 hin x1).2 g_e
      have x3 := Rk w hg hR h0 hq m_e.1 hin (k := 1) (s := 5 * ID t s + 0) (by omega) (by omega) hz (by rw [ow_68 hr hq hs hK g_s g_e]; exact Or.inr (Or.inl rfl)) x2
      rw [e1, oI_s]
      exact (atP_n (by omega)).mpr (fun _ => jB hN m_s.1 x3)
    · have x2 := (xF1 m_e.1 hin x1).2
      have x3 := Rk w hg hR h0 hq m_e.1 hin (k := 2) (s := 5 * ID t q + 3) (by omega) (by omega) hz (by rw [ow_68 hr hq hs hK g_s g_e]; exact Or.inl rfl) x2
      rw [e2]
      exact (atP_n (by omega)).mpr (fun _ => jT1 hN hq (fun _ => x3) (fun c => absurd hqs c))

theorem go_68 (w : WC a b V t K Wf on E) (hg : RGE a b t K Wf root fr to I) (h0 : ∀ z, bt 0 vr z = z) (hB : ∀ p, fr ≤ p → p < to → clB a (sp_z t) root M v C p) (hO : ∀ p, fr ≤ p → p < to → clO a (sp_z t) root M v C p) {q s e : Nat} (hq : q < sp_z t) (hs : SO t q = 68) (hK : KI t q = [s, e]) (g_s : stS (SO t s)) (g_e : ¬ stS (SO t e)) : ∀ x ∈ own b (sp_z t) (K (ID t q)) (ID t q) Wf [], good a t Wf root fr to M C I vr x := by
  have h := w.1.1
  have hr := w.1.2
  have hN := CU_N h
  have n84 : ¬ SO t q = 84 := by omega
  have hqs : stS (SO t q) := by rw [hs]; unfold stS; omega
  have lq := ID_lt hq
  have m_s := kid_lt hr hq (show s ∈ KI t q by rw [hK]; simp)
  have m_e := kid_lt hr hq (show e ∈ KI t q by rw [hK]; simp)
  have inn := fun (j k : Nat) (hj : j < sp_z t) (hk : k < 5) => (in_node h hr w.2.2.1.1 hg hj hk).mp
  intro x hx
  rw [ow_68 hr hq hs hK g_s g_e] at hx
  rcases hx with rfl | rfl | rfl | rfl | hx
  · refine good_n h0 (by omega) (fun z hz hI hP => ?_)
    have hin := inn e 2 m_e.1 (by omega) hI
    have hk : (KI t q)[1]? = some e := by rw [hK]; rfl
    have hw := W_all h hq n84 hk
    rw [hs, hK] at hw
    have e1 : a c_Y_trueTo e = oI (s + 1) := congrArg Prod.fst hw
    have e2 : a c_Y_falseTo e = nI (241 + q) := congrArg Prod.snd hw
    have n9 := not9 (x := a c_Y_trueTo e) (m := s) (by omega) (by rw [e1, oI_s]) (¬ a c_P_around e = root)
    have pa := (KI_mem hq m_e.1).mpr (List.mem_of_getElem? hk)
    have x3 := clO_use h m_e.1 pa (by omega) (by omega) (by omega) (hO e hin.1 hin.2) n9 hz
    have x4 := x3.2 (hP.1.2.2 e m_e.1 rfl g_e).1
    rw [e2] at x4
    exact iA hN hq (fun _ => ((atP_n (by omega)).mp x4)) (fun c => absurd c (by omega))
  · refine good_n h0 (by omega) (fun z hz hI hP => ?_)
    have hin := inn e 1 m_e.1 (by omega) hI
    have hk : (KI t q)[1]? = some e := by rw [hK]; rfl
    have hw := W_all h hq n84 hk
    rw [hs, hK] at hw
    have e1 : a c_Y_trueTo e = oI (s + 1) := congrArg Prod.fst hw
    have e2 : a c_Y_falseTo e = nI (241 + q) := congrArg Prod.snd hw
    have n9 := not9 (x := a c_Y_trueTo e) (m := s) (by omega) (by rw [e1, oI_s]) (¬ a c_P_around e = root)
    have pa := (KI_mem hq m_e.1).mpr (List.mem_of_getElem? hk)
    have x3 := clO_use h m_e.1 pa (by omega) (by omega) (by omega) (hO e hin.1 hin.2) n9 hz
    have x4 := x3.1 (hP.1.2.1 e m_e.1 rfl g_e).1
    rw [e1, oI_s] at x4
    exact iB hN m_s.1 ((atP_n (by omega)).mp x4)
  · refine good_n h0 (by omega) (fun z hz hI hP => ?_)
    have hin := inn s 3 m_s.1 (by omega) hI
    have hk : (KI t q)[0]? = some s := by rw [hK]; rfl
    have hw := W_all h hq n84 hk
    rw [hs, hK] at hw
    have e1 : a c_Y_trueTo s = oI (e + 1) := congrArg Prod.fst hw
    have e2 : a c_Y_falseTo s = oI (e + 1) := congrArg Prod.snd hw
    have n9 := not9 (x := a c_Y_trueTo s) (m := e) (by omega) (by rw [e1, oI_s]) (¬ a c_P_around s = root)
    have pa := (KI_mem hq m_s.1).mpr (List.mem_of_getElem? hk)
    have x3 := clO_use h m_s.1 pa (by omega) (by omega) (by omega) (hO s hin.1 hin.2) n9 hz
    have x4 := x3.1 ((hP.2.1.1 s m_s.1 rfl).1 g_s)
    rw [e1, oI_s] at x4
    exact iB hN m_e.1 ((atP_n (by omega)).mp x4)
  · refine good_n h0 (by omega) (fun z hz hI hP => ?_)
    have hin := inn q 0 hq (by omega) hI
    have x1 := hP.1.1 q hq rfl
    have x2 := (clS_d h hq (by rw [hs]; unfold bgD; omega)).mp (((hB q hin.1 hin.2) z hz).2.2 x1)
    rw [bg_K h hq (by omega) (by omega) (by omega), if_neg (by omega), hK] at x2
    have x2 : atP C (oI (s + 1)) z := x2
    rw [oI_s] at x2
    exact iB hN m_s.1 ((atP_n (by omega)).mp x2)
  · cases hx

theorem po_70 (w : WC a b V t K Wf on E) (hg : RGE a b t K Wf root fr to I) (hR : clR E Wf on en vr I R) (h0 : ∀ z, bt 0 vr z = z) {q e f s : Nat} (hq : q < sp_z t) (hs : SO t q = 70) (hK : KI t q = [e, f, s]) (g_e : ¬ stS (SO t e)) (g_f : ¬ stS (SO t f)) (g_s : stS (SO t s)) : (fr ≤ e ∧ e < to → ∀ z, z < 2 → (PsR t Wf root fr to R (241 + e) z → atP (PsR t Wf root fr to R) (a c_Y_trueTo e) z) ∧ (PsR t Wf root fr to R (482 + e) z → atP (PsR t Wf root fr to R) (a c_Y_falseTo e) z)) ∧ (fr ≤ f ∧ f < to → ∀ z, z < 2 → (PsR t Wf root fr to R (241 + f) z → atP (PsR t Wf root fr to R) (a c_Y_trueTo f) z) ∧ (PsR t Wf root fr to R (482 + f) z → atP (PsR t Wf root fr to R) (a c_Y_falseTo f) z)) ∧ (fr ≤ s ∧ s < to → ∀ z, z < 2 → (PsR t Wf root fr to R (241 + s) z → atP (PsR t Wf root fr to R) (a c_Y_trueTo s) z) ∧ (PsR t Wf root fr to R (482 + s) z → atP (PsR t Wf root fr to R) (a c_Y_falseTo s) z)) := by
  have h := w.1.1
  have hr := w.1.2
  have hN := CU_N h
  have n84 : ¬ SO t q = 84 := by omega
  have hqs : stS (SO t q) := by rw [hs]; unfold stS; omega
  have lq := ID_lt hq
  have m_e := kid_lt hr hq (show e ∈ KI t q by rw [hK]; simp)
  have m_f := kid_lt hr hq (show f ∈ KI t q by rw [hK]; simp)
  have m_s := kid_lt hr hq (show s ∈ KI t q by rw [hK]; simp)
  refine ⟨?_, ?_, ?_⟩
  · intro hin z hz
    have hk : (KI t q)[0]? = some e := by rw [hK]; rfl
    have hw := W_all h hq n84 hk
    rw [hs, hK] at hw
    have e1 : a c_Y_trueTo e = oI (s + 1) := congrArg Prod.fst hw
    have e2 : a c_Y_falseTo e = nI (241 + q) := congrArg Prod.snd hw
    refine ⟨fun x1 => ?_, fun x1 => ?_⟩
    · have x2 := (xT1 m_e.1 hin x1).2 g_e
      have x3 := Rk w hg hR h0 hq m_e.1 hin (k := 1) (s := 5 * ID t s + 0) (by omega) (by omega) hz (by rw [ow_70 hr hq hs hK g_e g_f g_s]; exact Or.inr (Or.inr (Or.inr (Or.inr (Or.inl rfl))))) x2
      rw [e1, oI_s]
      exact (atP_n (by omega)).mpr (fun _ => jB hN m_s.1 x3)
    · have x2 := (xF1 m_e.1 hin x1).2
      have x3 := Rk w hg hR h0 hq m_e.1 hin (k := 2) (s := 5 * ID t q + 3) (by omega) (by omega) hz (by rw [ow_70 hr hq hs hK g_e g_f g_s]; exact Or.inr (Or.inr (Or.inr (Or.inl rfl)))) x2
      rw [e2]
      exact (atP_n (by omega)).mpr (fun _ => jT1 hN hq (fun _ => x3) (fun c => absurd hqs c))
  · intro hin z hz
    have hk : (KI t q)[1]? = some f := by rw [hK]; rfl
    have hw := W_all h hq n84 hk
    rw [hs, hK] at hw
    have e1 : a c_Y_trueTo f = oI (e + 1) := congrArg Prod.fst hw
    have e2 : a c_Y_falseTo f = oI (e + 1) := congrArg Prod.snd hw
    refine ⟨fun x1 => ?_, fun x1 => ?_⟩
    · have x2 := (xT1 m_f.1 hin x1).2 g_f
      have x3 := Rk w hg hR h0 hq m_f.1 hin (k := 1) (s := 5 * ID t e + 0) (by omega) (by omega) hz (by rw [ow_70 hr hq hs hK g_e g_f g_s]; exact Or.inr (Or.inl rfl)) x2
      rw [e1, oI_s]
      exact (atP_n (by omega)).mpr (fun _ => jB hN m_e.1 x3)
    · have x2 := (xF1 m_f.1 hin x1).2
      have x3 := Rk w hg hR h0 hq m_f.1 hin (k := 2) (s := 5 * ID t e + 0) (by omega) (by omega) hz (by rw [ow_70 hr hq hs hK g_e g_f g_s]; exact Or.inl rfl) x2
      rw [e2, oI_s]
      exact (atP_n (by omega)).mpr (fun _ => jB hN m_e.1 x3)
  · intro hin z hz
    have hk : (KI t q)[2]? = some s := by rw [hK]; rfl
    have hw := W_all h hq n84 hk
    rw [hs, hK] at hw
    have e1 : a c_Y_trueTo s = oI (f + 1) := congrArg Prod.fst hw
    have e2 : a c_Y_falseTo s = oI (f + 1) := congrArg Prod.snd hw
    refine ⟨fun x1 => ?_, fun x1 => ?_⟩
    · have x2 := (xT1 m_s.1 hin x1).1 g_s
      have x3 := Rk w hg hR h0 hq m_s.1 hin (k := 3) (s := 5 * ID t f + 0) (by omega) (by omega) hz (by rw [ow_70 hr hq hs hK g_e g_f g_s]; exact Or.inr (Or.inr (Or.inl rfl))) x2
      rw [e1, oI_s]
      exact (atP_n (by omega)).mpr (fun _ => jB hN m_f.1 x3)
    · exact absurd g_s (xF1 m_s.1 hin x1).1

theorem go_70 (w : WC a b V t K Wf on E) (hg : RGE a b t K Wf root fr to I) (h0 : ∀ z, bt 0 vr z = z) (hB : ∀ p, fr ≤ p → p < to → clB a (sp_z t) root M v C p) (hO : ∀ p, fr ≤ p → p < to → clO a (sp_z t) root M v C p) {q e f s : Nat} (hq : q < sp_z t) (hs : SO t q = 70) (hK : KI t q = [e, f, s]) (g_e : ¬ stS (SO t e)) (g_f : ¬ stS (SO t f)) (g_s : stS (SO t s)) : ∀ x ∈ own b (sp_z t) (K (ID t q)) (ID t q) Wf [], good a t Wf root fr to M C I vr x := by
  have h := w.1.1
  have hr := w.1.2
  have hN := CU_N h
  have n84 : ¬ SO t q = 84 := by omega
  have hqs : stS (SO t q) := by rw [hs]; unfold stS; omega
  have lq := ID_lt hq
  have m_e := kid_lt hr hq (show e ∈ KI t q by rw [hK]; simp)
  have m_f := kid_lt hr hq (show f ∈ KI t q by rw [hK]; simp)
  have m_s := kid_lt hr hq (show s ∈ KI t q by rw [hK]; simp)
  have inn := fun (j k : Nat) (hj : j < sp_z t) (hk : k < 5) => (in_node h hr w.2.2.1.1 hg hj hk).mp
  intro x hx
  rw [ow_70 hr hq hs hK g_e g_f g_s] at hx
  rcases hx with rfl | rfl | rfl | rfl | rfl | rfl | hx
  · refine good_n h0 (by omega) (fun z hz hI hP => ?_)
    have hin := inn f 2 m_f.1 (by omega) hI
    have hk : (KI t q)[1]? = some f := by rw [hK]; rfl
    have hw := W_all h hq n84 hk
    rw [hs, hK] at hw
    have e1 : a c_Y_trueTo f = oI (e + 1) := congrArg Prod.fst hw
    have e2 : a c_Y_falseTo f = oI (e + 1) := congrArg Prod.snd hw
    have n9 := not9 (x := a c_Y_trueTo f) (m := e) (by omega) (by rw [e1, oI_s]) (¬ a c_P_around f = root)
    have pa := (KI_mem hq m_f.1).mpr (List.mem_of_getElem? hk)
    have x3 := clO_use h m_f.1 pa (by omega) (by omega) (by omega) (hO f hin.1 hin.2) n9 hz
    have x4 := x3.2 (hP.1.2.2 f m_f.1 rfl g_f).1
    rw [e2, oI_s] at x4
    exact iB hN m_e.1 ((atP_n (by omega)).mp x4)
  · refine good_n h0 (by omega) (fun z hz hI hP => ?_)
    have hin := inn f 1 m_f.1 (by omega) hI
    have hk : (KI t q)[1]? = some f := by rw [hK]; rfl
    have hw := W_all h hq n84 hk
    rw [hs, hK] at hw
    have e1 : a c_Y_trueTo f = oI (e + 1) := congrArg Prod.fst hw
    have e2 : a c_Y_falseTo f = oI (e + 1) := congrArg Prod.snd hw
    have n9 := not9 (x := a c_Y_trueTo f) (m := e) (by omega) (by rw [e1, oI_s]) (¬ a c_P_around f = root)
    have pa := (KI_mem hq m_f.1).mpr (List.mem_of_getElem? hk)
    have x3 := clO_use h m_f.1 pa (by omega) (by omega) (by omega) (hO f hin.1 hin.2) n9 hz
    have x4 := x3.1 (hP.1.2.1 f m_f.1 rfl g_f).1
    rw [e1, oI_s] at x4
    exact iB hN m_e.1 ((atP_n (by omega)).mp x4)
  · refine good_n h0 (by omega) (fun z hz hI hP => ?_)
    have hin := inn s 3 m_s.1 (by omega) hI
    have hk : (KI t q)[2]? = some s := by rw [hK]; rfl
    have hw := W_all h hq n84 hk
    rw [hs, hK] at hw
    have e1 : a c_Y_trueTo s = oI (f + 1) := congrArg Prod.fst hw
    have e2 : a c_Y_falseTo s = oI (f + 1) := congrArg Prod.snd hw
    have n9 := not9 (x := a c_Y_trueTo s) (m := f) (by omega) (by rw [e1, oI_s]) (¬ a c_P_around s = root)
    have pa := (KI_mem hq m_s.1).mpr (List.mem_of_getElem? hk)
    have x3 := clO_use h m_s.1 pa (by omega) (by omega) (by omega) (hO s hin.1 hin.2) n9 hz
    have x4 := x3.1 ((hP.2.1.1 s m_s.1 rfl).1 g_s)
    rw [e1, oI_s] at x4
    exact iB hN m_f.1 ((atP_n (by omega)).mp x4)
  · refine good_n h0 (by omega) (fun z hz hI hP => ?_)
    have hin := inn e 2 m_e.1 (by omega) hI
    have hk : (KI t q)[0]? = some e := by rw [hK]; rfl
    have hw := W_all h hq n84 hk
    rw [hs, hK] at hw
    have e1 : a c_Y_trueTo e = oI (s + 1) := congrArg Prod.fst hw
    have e2 : a c_Y_falseTo e = nI (241 + q) := congrArg Prod.snd hw
    have n9 := not9 (x := a c_Y_trueTo e) (m := s) (by omega) (by rw [e1, oI_s]) (¬ a c_P_around e = root)
    have pa := (KI_mem hq m_e.1).mpr (List.mem_of_getElem? hk)
    have x3 := clO_use h m_e.1 pa (by omega) (by omega) (by omega) (hO e hin.1 hin.2) n9 hz
    have x4 := x3.2 (hP.1.2.2 e m_e.1 rfl g_e).1
    rw [e2] at x4
    exact iA hN hq (fun _ => ((atP_n (by omega)).mp x4)) (fun c => absurd c (by omega))
  · refine good_n h0 (by omega) (fun z hz hI hP => ?_)
    have hin := inn e 1 m_e.1 (by omega) hI
    have hk : (KI t q)[0]? = some e := by rw [hK]; rfl
    have hw := W_all h hq n84 hk
    rw [hs, hK] at hw
    have e1 : a c_Y_trueTo e = oI (s + 1) := congrArg Prod.fst hw
    have e2 : a c_Y_falseTo e = nI (241 + q) := congrArg Prod.snd hw
    have n9 := not9 (x := a c_Y_trueTo e) (m := s) (by omega) (by rw [e1, oI_s]) (¬ a c_P_around e = root)
    have pa := (KI_mem hq m_e.1).mpr (List.mem_of_getElem? hk)
    have x3 := clO_use h m_e.1 pa (by omega) (by omega) (by omega) (hO e hin.1 hin.2) n9 hz
    have x4 := x3.1 (hP.1.2.1 e m_e.1 rfl g_e).1
    rw [e1, oI_s] at x4
    exact iB hN m_s.1 ((atP_n (by omega)).mp x4)
  · refine good_n h0 (by omega) (fun z hz hI hP => ?_)
    have hin := inn q 0 hq (by omega) hI
    have x1 := hP.1.1 q hq rfl
    have x2 := (clS_d h hq (by rw [hs]; unfold bgD; omega)).mp (((hB q hin.1 hin.2) z hz).2.2 x1)
    rw [bg_K h hq (by omega) (by omega) (by omega), if_neg (by omega), hK] at x2
    have x2 : atP C (oI (e + 1)) z := x2
    rw [oI_s] at x2
    exact iB hN m_e.1 ((atP_n (by omega)).mp x2)
  · cases hx

theorem po_73 (w : WC a b V t K Wf on E) (hg : RGE a b t K Wf root fr to I) (hR : clR E Wf on en vr I R) (h0 : ∀ z, bt 0 vr z = z) {q e s : Nat} (hq : q < sp_z t) (hs : SO t q = 73) (hK : KI t q = [e, s]) (g_e : ¬ stS (SO t e)) (g_s : stS (SO t s)) : (fr ≤ e ∧ e < to → ∀ z, z < 2 → (PsR t Wf root fr to R (241 + e) z → atP (PsR t Wf root fr to R) (a c_Y_trueTo e) z) ∧ (PsR t Wf root fr to R (482 + e) z → atP (PsR t Wf root fr to R) (a c_Y_falseTo e) z)) ∧ (fr ≤ s ∧ s < to → ∀ z, z < 2 → (PsR t Wf root fr to R (241 + s) z → atP (PsR t Wf root fr to R) (a c_Y_trueTo s) z) ∧ (PsR t Wf root fr to R (482 + s) z → atP (PsR t Wf root fr to R) (a c_Y_falseTo s) z)) := by
  have h := w.1.1
  have hr := w.1.2
  have hN := CU_N h
  have n84 : ¬ SO t q = 84 := by omega
  have hqs : stS (SO t q) := by rw [hs]; unfold stS; omega
  have lq := ID_lt hq
  have m_e := kid_lt hr hq (show e ∈ KI t q by rw [hK]; simp)
  have m_s := kid_lt hr hq (show s ∈ KI t q by rw [hK]; simp)
  refine ⟨?_, ?_⟩
  · intro hin z hz
    have hk : (KI t q)[0]? = some e := by rw [hK]; rfl
    have hw := W_all h hq n84 hk
    rw [hs, hK] at hw
    have e1 : a c_Y_trueTo e = oI (s + 1) := congrArg Prod.fst hw
    have e2 : a c_Y_falseTo e = nI (241 + q) := congrArg Prod.snd hw
    refine ⟨fun x1 => ?_, fun x1 => ?_⟩
    · have x2 := (xT1 m_e.1 hin x1).2 g_e
      have x3 := Rk w hg hR h0 hq m_e.1 hin (k := 1) (s := 5 * ID t s + 0) (by omega) (by omega) hz (by rw [ow_73 hr hq hs hK g_e g_s]; exact Or.inr (Or.inr (Or.inl rfl))) x2
      rw [e1, oI_s]
      exact (atP_n (by omega)).mpr (fun _ => jB hN m_s.1 x3)
    · have x2 := (xF1 m_e.1 hin x1).2
      have x3 := Rk w hg hR h0 hq m_e.1 hin (k := 2) (s := 5 * ID t q + 3) (by omega) (by omega) hz (by rw [ow_73 hr hq hs hK g_e g_s]; exact Or.inr (Or.inl rfl)) x2
      rw [e2]
      exact (atP_n (by omega)).mpr (fun _ => jT1 hN hq (fun _ => x3) (fun c => absurd hqs c))
  · intro hin z hz
    have hk : (KI t q)[1]? = some s := by rw [hK]; rfl
    have hw := W_all h hq n84 hk
    rw [hs, hK] at hw
    have e1 : a c_Y_trueTo s = nI (241 + q) := congrArg Prod.fst hw
    have e2 : a c_Y_falseTo s = nI (241 + q) := congrArg Prod.snd hw
    refine ⟨fun x1 => ?_, fun x1 => ?_⟩
    · have x2 := (xT1 m_s.1 hin x1).1 g_s
      have x3 := Rk w hg hR h0 hq m_s.1 hin (k := 3) (s := 5 * ID t q + 3) (by omega) (by omega) hz (by rw [ow_73 hr hq hs hK g_e g_s]; exact Or.inl rfl) x2
      rw [e1]
      exact (atP_n (by omega)).mpr (fun _ => jT1 hN hq (fun _ => x3) (fun c => absurd hqs c))
    · exact absurd g_s (xF1 m_s.1 hin x1).1

theorem go_73 (w : WC a b V t K Wf on E) (hg : RGE a b t K Wf root fr to I) (h0 : ∀ z, bt 0 vr z = z) (hB : ∀ p, fr ≤ p → p < to → clB a (sp_z t) root M v C p) (hO : ∀ p, fr ≤ p → p < to → clO a (sp_z t) root M v C p) {q e s : Nat} (hq : q < sp_z t) (hs : SO t q = 73) (hK : KI t q = [e, s]) (g_e : ¬ stS (SO t e)) (g_s : stS (SO t s)) : ∀ x ∈ own b (sp_z t) (K (ID t q)) (ID t q) Wf [], good a t Wf root fr to M C I vr x := by
  have h := w.1.1
  have hr := w.1.2
  have hN := CU_N h
  have n84 : ¬ SO t q = 84 := by omega
  have hqs : stS (SO t q) := by rw [hs]; unfold stS; omega
  have lq := ID_lt hq
  have m_e := kid_lt hr hq (show e ∈ KI t q by rw [hK]; simp)
  have m_s := kid_lt hr hq (show s ∈ KI t q by rw [hK]; simp)
  have inn := fun (j k : Nat) (hj : j < sp_z t) (hk : k < 5) => (in_node h hr w.2.2.1.1 hg hj hk).mp
  intro x hx
  rw [ow_73 hr hq hs hK g_e g_s] at hx
  rcases hx with rfl | rfl | rfl | rfl | hx
  · refine good_n h0 (by omega) (fun z hz hI hP => ?_)
    have hin := inn s 3 m_s.1 (by omega) hI
    have hk : (KI t q)[1]? = some s := by rw [hK]; rfl
    have hw := W_all h hq n84 hk
    rw [hs, hK] at hw
    have e1 : a c_Y_trueTo s = nI (241 + q) := congrArg Prod.fst hw
    have e2 : a c_Y_falseTo s = nI (241 + q) := congrArg Prod.snd hw
    have n9 := not9 (x := a c_Y_trueTo s) (m := 241 + q) (by omega) (e1) (¬ a c_P_around s = root)
    have pa := (KI_mem hq m_s.1).mpr (List.mem_of_getElem? hk)
    have x3 := clO_use h m_s.1 pa (by omega) (by omega) (by omega) (hO s hin.1 hin.2) n9 hz
    have x4 := x3.1 ((hP.2.1.1 s m_s.1 rfl).1 g_s)
    rw [e1] at x4
    exact iA hN hq (fun _ => ((atP_n (by omega)).mp x4)) (fun c => absurd c (by omega))
  · refine good_n h0 (by omega) (fun z hz hI hP => ?_)
    have hin := inn e 2 m_e.1 (by omega) hI
    have hk : (KI t q)[0]? = some e := by rw [hK]; rfl
    have hw := W_all h hq n84 hk
    rw [hs, hK] at hw
    have e1 : a c_Y_trueTo e = oI (s + 1) := congrArg Prod.fst hw
    have e2 : a c_Y_falseTo e = nI (241 + q) := congrArg Prod.snd hw
    have n9 := not9 (x := a c_Y_trueTo e) (m := s) (by omega) (by rw [e1, oI_s]) (¬ a c_P_around e = root)
    have pa := (KI_mem hq m_e.1).mpr (List.mem_of_getElem? hk)
    have x3 := clO_use h m_e.1 pa (by omega) (by omega) (by omega) (hO e hin.1 hin.2) n9 hz
    have x4 := x3.2 (hP.1.2.2 e m_e.1 rfl g_e).1
    rw [e2] at x4
    exact iA hN hq (fun _ => ((atP_n (by omega)).mp x4)) (fun c => absurd c (by omega))
  · refine good_n h0 (by omega) (fun z hz hI hP => ?_)
    have hin := inn e 1 m_e.1 (by omega) hI
    have hk : (KI t q)[0]? = some e := by rw [hK]; rfl
    have hw := W_all h hq n84 hk
    rw [hs, hK] at hw
    have e1 : a c_Y_trueTo e = oI (s + 1) := congrArg Prod.fst hw
    have e2 : a c_Y_falseTo e = nI (241 + q) := congrArg Prod.snd hw
    have n9 := not9 (x := a c_Y_trueTo e) (m := s) (by omega) (by rw [e1, oI_s]) (¬ a c_P_around e = root)
    have pa := (KI_mem hq m_e.1).mpr (List.mem_of_getElem? hk)
    have x3 := clO_use h m_e.1 pa (by omega) (by omega) (by omega) (hO e hin.1 hin.2) n9 hz
    have x4 := x3.1 (hP.1.2.1 e m_e.1 rfl g_e).1
    rw [e1, oI_s] at x4
    exact iB hN m_s.1 ((atP_n (by omega)).mp x4)
  · refine good_n h0 (by omega) (fun z hz hI hP => ?_)
    have hin := inn q 0 hq (by omega) hI
    have x1 := hP.1.1 q hq rfl
    have x2 := (clS_d h hq (by rw [hs]; unfold bgD; omega)).mp (((hB q hin.1 hin.2) z hz).2.2 x1)
    rw [bg_K h hq (by omega) (by omega) (by omega), if_neg (by omega), hK] at x2
    have x2 : atP C (oI (e + 1)) z := x2
    rw [oI_s] at x2
    exact iB hN m_e.1 ((atP_n (by omega)).mp x2)
  · cases hx

theorem po_73b (w : WC a b V t K Wf on E) (hg : RGE a b t K Wf root fr to I) (hR : clR E Wf on en vr I R) (h0 : ∀ z, bt 0 vr z = z) {q e s r : Nat} (hq : q < sp_z t) (hs : SO t q = 73) (hK : KI t q = [e, s, r]) (g_e : ¬ stS (SO t e)) (g_s : stS (SO t s)) (g_r : stS (SO t r)) : (fr ≤ e ∧ e < to → ∀ z, z < 2 → (PsR t Wf root fr to R (241 + e) z → atP (PsR t Wf root fr to R) (a c_Y_trueTo e) z) ∧ (PsR t Wf root fr to R (482 + e) z → atP (PsR t Wf root fr to R) (a c_Y_falseTo e) z)) ∧ (fr ≤ s ∧ s < to → ∀ z, z < 2 → (PsR t Wf root fr to R (241 + s) z → atP (PsR t Wf root fr to R) (a c_Y_trueTo s) z) ∧ (PsR t Wf root fr to R (482 + s) z → atP (PsR t Wf root fr to R) (a c_Y_falseTo s) z)) ∧ (fr ≤ r ∧ r < to → ∀ z, z < 2 → (PsR t Wf root fr to R (241 + r) z → atP (PsR t Wf root fr to R) (a c_Y_trueTo r) z) ∧ (PsR t Wf root fr to R (482 + r) z → atP (PsR t Wf root fr to R) (a c_Y_falseTo r) z)) := by
  have h := w.1.1
  have hr := w.1.2
  have hN := CU_N h
  have n84 : ¬ SO t q = 84 := by omega
  have hqs : stS (SO t q) := by rw [hs]; unfold stS; omega
  have lq := ID_lt hq
  have m_e := kid_lt hr hq (show e ∈ KI t q by rw [hK]; simp)
  have m_s := kid_lt hr hq (show s ∈ KI t q by rw [hK]; simp)
  have m_r := kid_lt hr hq (show r ∈ KI t q by rw [hK]; simp)
  refine ⟨?_, ?_, ?_⟩
  · intro hin z hz
    have hk : (KI t q)[0]? = some e := by rw [hK]; rfl
    have hw := W_all h hq n84 hk
    rw [hs, hK] at hw
    have e1 : a c_Y_trueTo e = oI (s + 1) := congrArg Prod.fst hw
    have e2 : a c_Y_falseTo e = orV (r + 1) (nI (241 + q)) := congrArg Prod.snd hw
    refine ⟨fun x1 => ?_, fun x1 => ?_⟩
    · have x2 := (xT1 m_e.1 hin x1).2 g_e
      have x3 := Rk w hg hR h0 hq m_e.1 hin (k := 1) (s := 5 * ID t s + 0) (by omega) (by omega) hz (by rw [ow_73b hr hq hs hK g_e g_s g_r]; exact Or.inr (Or.inr (Or.inr (Or.inl rfl)))) x2
      rw [e1, oI_s]
      exact (atP_n (by omega)).mpr (fun _ => jB hN m_s.1 x3)
    · have x2 := (xF1 m_e.1 hin x1).2
      have x3 := Rk w hg hR h0 hq m_e.1 hin (k := 2) (s := 5 * ID t r + 0) (by omega) (by omega) hz (by rw [ow_73b hr hq hs hK g_e g_s g_r]; exact Or.inr (Or.inr (Or.inl rfl))) x2
      rw [e2, orV_s]
      exact (atP_n (by omega)).mpr (fun _ => jB hN m_r.1 x3)
  · intro hin z hz
    have hk : (KI t q)[1]? = some s := by rw [hK]; rfl
    have hw := W_all h hq n84 hk
    rw [hs, hK] at hw
    have e1 : a c_Y_trueTo s = nI (241 + q) := congrArg Prod.fst hw
    have e2 : a c_Y_falseTo s = nI (241 + q) := congrArg Prod.snd hw
    refine ⟨fun x1 => ?_, fun x1 => ?_⟩
    · have x2 := (xT1 m_s.1 hin x1).1 g_s
      have x3 := Rk w hg hR h0 hq m_s.1 hin (k := 3) (s := 5 * ID t q + 3) (by omega) (by omega) hz (by rw [ow_73b hr hq hs hK g_e g_s g_r]; exact Or.inr (Or.inl rfl)) x2
      rw [e1]
      exact (atP_n (by omega)).mpr (fun _ => jT1 hN hq (fun _ => x3) (fun c => absurd hqs c))
    · exact absurd g_s (xF1 m_s.1 hin x1).1
  · intro hin z hz
    have hk : (KI t q)[2]? = some r := by rw [hK]; rfl
    have hw := W_all h hq n84 hk
    rw [hs, hK] at hw
    have e1 : a c_Y_trueTo r = nI (241 + q) := congrArg Prod.fst hw
    have e2 : a c_Y_falseTo r = nI (241 + q) := congrArg Prod.snd hw
    refine ⟨fun x1 => ?_, fun x1 => ?_⟩
    · have x2 := (xT1 m_r.1 hin x1).1 g_r
      have x3 := Rk w hg hR h0 hq m_r.1 hin (k := 3) (s := 5 * ID t q + 3) (by omega) (by omega) hz (by rw [ow_73b hr hq hs hK g_e g_s g_r]; exact Or.inl rfl) x2
      rw [e1]
      exact (atP_n (by omega)).mpr (fun _ => jT1 hN hq (fun _ => x3) (fun c => absurd hqs c))
    · exact absurd g_r (xF1 m_r.1 hin x1).1

theorem go_73b (w : WC a b V t K Wf on E) (hg : RGE a b t K Wf root fr to I) (h0 : ∀ z, bt 0 vr z = z) (hB : ∀ p, fr ≤ p → p < to → clB a (sp_z t) root M v C p) (hO : ∀ p, fr ≤ p → p < to → clO a (sp_z t) root M v C p) {q e s r : Nat} (hq : q < sp_z t) (hs : SO t q = 73) (hK : KI t q = [e, s, r]) (g_e : ¬ stS (SO t e)) (g_s : stS (SO t s)) (g_r : stS (SO t r)) : ∀ x ∈ own b (sp_z t) (K (ID t q)) (ID t q) Wf [], good a t Wf root fr to M C I vr x := by
  have h := w.1.1
  have hr := w.1.2
  have hN := CU_N h
  have n84 : ¬ SO t q = 84 := by omega
  have hqs : stS (SO t q) := by rw [hs]; unfold stS; omega
  have lq := ID_lt hq
  have m_e := kid_lt hr hq (show e ∈ KI t q by rw [hK]; simp)
  have m_s := kid_lt hr hq (show s ∈ KI t q by rw [hK]; simp)
  have m_r := kid_lt hr hq (show r ∈ KI t q by rw [hK]; simp)
  have inn := fun (j k : Nat) (hj : j < sp_z t) (hk : k < 5) => (in_node h hr w.2.2.1.1 hg hj hk).mp
  intro x hx
  rw [ow_73b hr hq hs hK g_e g_s g_r] at hx
  rcases hx with rfl | rfl | rfl | rfl | rfl | hx
  · refine good_n h0 (by omega) (fun z hz hI hP => ?_)
    have hin := inn r 3 m_r.1 (by omega) hI
    have hk : (KI t q)[2]? = some r := by rw [hK]; rfl
    have hw := W_all h hq n84 hk
    rw [hs, hK] at hw
    have e1 : a c_Y_trueTo r = nI (241 + q) := congrArg Prod.fst hw
    have e2 : a c_Y_falseTo r = nI (241 + q) := congrArg Prod.snd hw
    have n9 := not9 (x := a c_Y_trueTo r) (m := 241 + q) (by omega) (e1) (¬ a c_P_around r = root)
    have pa := (KI_mem hq m_r.1).mpr (List.mem_of_getElem? hk)
    have x3 := clO_use h m_r.1 pa (by omega) (by omega) (by omega) (hO r hin.1 hin.2) n9 hz
    have x4 := x3.1 ((hP.2.1.1 r m_r.1 rfl).1 g_r)
    rw [e1] at x4
    exact iA hN hq (fun _ => ((atP_n (by omega)).mp x4)) (fun c => absurd c (by omega))
  · refine good_n h0 (by omega) (fun z hz hI hP => ?_)
    have hin := inn s 3 m_s.1 (by omega) hI
    have hk : (KI t q)[1]? = some s := by rw [hK]; rfl
    have hw := W_all h hq n84 hk
    rw [hs, hK] at hw
    have e1 : a c_Y_trueTo s = nI (241 + q) := congrArg Prod.fst hw
    have e2 : a c_Y_falseTo s = nI (241 + q) := congrArg Prod.snd hw
    have n9 := not9 (x := a c_Y_trueTo s) (m := 241 + q) (by omega) (e1) (¬ a c_P_around s = root)
    have pa := (KI_mem hq m_s.1).mpr (List.mem_of_getElem? hk)
    have x3 := clO_use h m_s.1 pa (by omega) (by omega) (by omega) (hO s hin.1 hin.2) n9 hz
    have x4 := x3.1 ((hP.2.1.1 s m_s.1 rfl).1 g_s)
    rw [e1] at x4
    exact iA hN hq (fun _ => ((atP_n (by omega)).mp x4)) (fun c => absurd c (by omega))
  · refine good_n h0 (by omega) (fun z hz hI hP => ?_)
    have hin := inn e 2 m_e.1 (by omega) hI
    have hk : (KI t q)[0]? = some e := by rw [hK]; rfl
    have hw := W_all h hq n84 hk
    rw [hs, hK] at hw
    have e1 : a c_Y_trueTo e = oI (s + 1) := congrArg Prod.fst hw
    have e2 : a c_Y_falseTo e = orV (r + 1) (nI (241 + q)) := congrArg Prod.snd hw
    have n9 := not9 (x := a c_Y_trueTo e) (m := s) (by omega) (by rw [e1, oI_s]) (¬ a c_P_around e = root)
    have pa := (KI_mem hq m_e.1).mpr (List.mem_of_getElem? hk)
    have x3 := clO_use h m_e.1 pa (by omega) (by omega) (by omega) (hO e hin.1 hin.2) n9 hz
    have x4 := x3.2 (hP.1.2.2 e m_e.1 rfl g_e).1
    rw [e2, orV_s] at x4
    exact iB hN m_r.1 ((atP_n (by omega)).mp x4)
  · refine good_n h0 (by omega) (fun z hz hI hP => ?_)
    have hin := inn e 1 m_e.1 (by omega) hI
    have hk : (KI t q)[0]? = some e := by rw [hK]; rfl
    have hw := W_all h hq n84 hk
    rw [hs, hK] at hw
    have e1 : a c_Y_trueTo e = oI (s + 1) := congrArg Prod.fst hw
    have e2 : a c_Y_falseTo e = orV (r + 1) (nI (241 + q)) := congrArg Prod.snd hw
    have n9 := not9 (x := a c_Y_trueTo e) (m := s) (by omega) (by rw [e1, oI_s]) (¬ a c_P_around e = root)
    have pa := (KI_mem hq m_e.1).mpr (List.mem_of_getElem? hk)
    have x3 := clO_use h m_e.1 pa (by omega) (by omega) (by omega) (hO e hin.1 hin.2) n9 hz
    have x4 := x3.1 (hP.1.2.1 e m_e.1 rfl g_e).1
    rw [e1, oI_s] at x4
    exact iB hN m_s.1 ((atP_n (by omega)).mp x4)
  · refine good_n h0 (by omega) (fun z hz hI hP => ?_)
    have hin := inn q 0 hq (by omega) hI
    have x1 := hP.1.1 q hq rfl
    have x2 := (clS_d h hq (by rw [hs]; unfold bgD; omega)).mp (((hB q hin.1 hin.2) z hz).2.2 x1)
    rw [bg_K h hq (by omega) (by omega) (by omega), if_neg (by omega), hK] at x2
    have x2 : atP C (oI (e + 1)) z := x2
    rw [oI_s] at x2
    exact iB hN m_e.1 ((atP_n (by omega)).mp x2)
  · cases hx

theorem po_87 (w : WC a b V t K Wf on E) (hg : RGE a b t K Wf root fr to I) (hR : clR E Wf on en vr I R) (h0 : ∀ z, bt 0 vr z = z) {q e s : Nat} (hq : q < sp_z t) (hs : SO t q = 87) (hK : KI t q = [e, s]) (g_e : ¬ stS (SO t e)) (g_s : stS (SO t s)) : (fr ≤ e ∧ e < to → ∀ z, z < 2 → (PsR t Wf root fr to R (241 + e) z → atP (PsR t Wf root fr to R) (a c_Y_trueTo e) z) ∧ (PsR t Wf root fr to R (482 + e) z → atP (PsR t Wf root fr to R) (a c_Y_falseTo e) z)) ∧ (fr ≤ s ∧ s < to → ∀ z, z < 2 → (PsR t Wf root fr to R (241 + s) z → atP (PsR t Wf root fr to R) (a c_Y_trueTo s) z) ∧ (PsR t Wf root fr to R (482 + s) z → atP (PsR t Wf root fr to R) (a c_Y_falseTo s) z)) := by
  have h := w.1.1
  have hr := w.1.2
  have hN := CU_N h
  have n84 : ¬ SO t q = 84 := by omega
  have hqs : stS (SO t q) := by rw [hs]; unfold stS; omega
  have lq := ID_lt hq
  have m_e := kid_lt hr hq (show e ∈ KI t q by rw [hK]; simp)
  have m_s := kid_lt hr hq (show s ∈ KI t q by rw [hK]; simp)
  refine ⟨?_, ?_⟩
  · intro hin z hz
    have hk : (KI t q)[0]? = some e := by rw [hK]; rfl
    have hw := W_all h hq n84 hk
    rw [hs, hK] at hw
    have e1 : a c_Y_trueTo e = oI (s + 1) := congrArg Prod.fst hw
    have e2 : a c_Y_falseTo e = nI (241 + q) := congrArg Prod.snd hw
    refine ⟨fun x1 => ?_, fun x1 => ?_⟩
    · have x2 := (xT1 m_e.1 hin x1).2 g_e
      have x3 := Rk w hg hR h0 hq m_e.1 hin (k := 1) (s := 5 * ID t s + 0) (by omega) (by omega) hz (by rw [ow_87 hr hq hs hK g_e g_s]; exact Or.inr (Or.inr (Or.inl rfl))) x2
      rw [e1, oI_s]
      exact (atP_n (by omega)).mpr (fun _ => jB hN m_s.1 x3)
    · have x2 := (xF1 m_e.1 hin x1).2
      have x3 := Rk w hg hR h0 hq m_e.1 hin (k := 2) (s := 5 * ID t q + 3) (by omega) (by omega) hz (by rw [ow_87 hr hq hs hK g_e g_s]; exact Or.inr (Or.inl rfl)) x2
      rw [e2]
      exact (atP_n (by omega)).mpr (fun _ => jT1 hN hq (fun _ => x3) (fun c => absurd hqs c))
  · intro hin z hz
    have hk : (KI t q)[1]? = some s := by rw [hK]; rfl
    have hw := W_all h hq n84 hk
    rw [hs, hK] at hw
    have e1 : a c_Y_trueTo s = oI (e + 1) := congrArg Prod.fst hw
    have e2 : a c_Y_falseTo s = oI (e + 1) := congrArg Prod.snd hw
    refine ⟨fun x1 => ?_, fun x1 => ?_⟩
    · have x2 := (xT1 m_s.1 hin x1).1 g_s
      have x3 := Rk w hg hR h0 hq m_s.1 hin (k := 3) (s := 5 * ID t e + 0) (by omega) (by omega) hz (by rw [ow_87 hr hq hs hK g_e g_s]; exact Or.inl rfl) x2
      rw [e1, oI_s]
      exact (atP_n (by omega)).mpr (fun _ => jB hN m_e.1 x3)
    · exact absurd g_s (xF1 m_s.1 hin x1).1

theorem go_87 (w : WC a b V t K Wf on E) (hg : RGE a b t K Wf root fr to I) (h0 : ∀ z, bt 0 vr z = z) (hB : ∀ p, fr ≤ p → p < to → clB a (sp_z t) root M v C p) (hO : ∀ p, fr ≤ p → p < to → clO a (sp_z t) root M v C p) {q e s : Nat} (hq : q < sp_z t) (hs : SO t q = 87) (hK : KI t q = [e, s]) (g_e : ¬ stS (SO t e)) (g_s : stS (SO t s)) : ∀ x ∈ own b (sp_z t) (K (ID t q)) (ID t q) Wf [], good a t Wf root fr to M C I vr x := by
  have h := w.1.1
  have hr := w.1.2
  have hN := CU_N h
  have n84 : ¬ SO t q = 84 := by omega
  have hqs : stS (SO t q) := by rw [hs]; unfold stS; omega
  have lq := ID_lt hq
  have m_e := kid_lt hr hq (show e ∈ KI t q by rw [hK]; simp)
  have m_s := kid_lt hr hq (show s ∈ KI t q by rw [hK]; simp)
  have inn := fun (j k : Nat) (hj : j < sp_z t) (hk : k < 5) => (in_node h hr w.2.2.1.1 hg hj hk).mp
  intro x hx
  rw [ow_87 hr hq hs hK g_e g_s] at hx
  rcases hx with rfl | rfl | rfl | rfl | hx
  · refine good_n h0 (by omega) (fun z hz hI hP => ?_)
    have hin := inn s 3 m_s.1 (by omega) hI
    have hk : (KI t q)[1]? = some s := by rw [hK]; rfl
    have hw := W_all h hq n84 hk
    rw [hs, hK] at hw
    have e1 : a c_Y_trueTo s = oI (e + 1) := congrArg Prod.fst hw
    have e2 : a c_Y_falseTo s = oI (e + 1) := congrArg Prod.snd hw
    have n9 := not9 (x := a c_Y_trueTo s) (m := e) (by omega) (by rw [e1, oI_s]) (¬ a c_P_around s = root)
    have pa := (KI_mem hq m_s.1).mpr (List.mem_of_getElem? hk)
    have x3 := clO_use h m_s.1 pa (by omega) (by omega) (by omega) (hO s hin.1 hin.2) n9 hz
    have x4 := x3.1 ((hP.2.1.1 s m_s.1 rfl).1 g_s)
    rw [e1, oI_s] at x4
    exact iB hN m_e.1 ((atP_n (by omega)).mp x4)
  · refine good_n h0 (by omega) (fun z hz hI hP => ?_)
    have hin := inn e 2 m_e.1 (by omega) hI
    have hk : (KI t q)[0]? = some e := by rw [hK]; rfl
    have hw := W_all h hq n84 hk
    rw [hs, hK] at hw
    have e1 : a c_Y_trueTo e = oI (s + 1) := congrArg Prod.fst hw
    have e2 : a c_Y_falseTo e = nI (241 + q) := congrArg Prod.snd hw
    have n9 := not9 (x := a c_Y_trueTo e) (m := s) (by omega) (by rw [e1, oI_s]) (¬ a c_P_around e = root)
    have pa := (KI_mem hq m_e.1).mpr (List.mem_of_getElem? hk)
    have x3 := clO_use h m_e.1 pa (by omega) (by omega) (by omega) (hO e hin.1 hin.2) n9 hz
    have x4 := x3.2 (hP.1.2.2 e m_e.1 rfl g_e).1
    rw [e2] at x4
    exact iA hN hq (fun _ => ((atP_n (by omega)).mp x4)) (fun c => absurd c (by omega))
  · refine good_n h0 (by omega) (fun z hz hI hP => ?_)
    have hin := inn e 1 m_e.1 (by omega) hI
    have hk : (KI t q)[0]? = some e := by rw [hK]; rfl
    have hw := W_all h hq n84 hk
    rw [hs, hK] at hw
    have e1 : a c_Y_trueTo e = oI (s + 1) := congrArg Prod.fst hw
    have e2 : a c_Y_falseTo e = nI (241 + q) := congrArg Prod.snd hw
    have n9 := not9 (x := a c_Y_trueTo e) (m := s) (by omega) (by rw [e1, oI_s]) (¬ a c_P_around e = root)
    have pa := (KI_mem hq m_e.1).mpr (List.mem_of_getElem? hk)
    have x3 := clO_use h m_e.1 pa (by omega) (by omega) (by omega) (hO e hin.1 hin.2) n9 hz
    have x4 := x3.1 (hP.1.2.1 e m_e.1 rfl g_e).1
    rw [e1, oI_s] at x4
    exact iB hN m_s.1 ((atP_n (by omega)).mp x4)
  · refine good_n h0 (by omega) (fun z hz hI hP => ?_)
    have hin := inn q 0 hq (by omega) hI
    have x1 := hP.1.1 q hq rfl
    have x2 := (clS_d h hq (by rw [hs]; unfold bgD; omega)).mp (((hB q hin.1 hin.2) z hz).2.2 x1)
    rw [bg_K h hq (by omega) (by omega) (by omega), if_neg (by omega), hK] at x2
    have x2 : atP C (oI (e + 1)) z := x2
    rw [oI_s] at x2
    exact iB hN m_e.1 ((atP_n (by omega)).mp x2)
  · cases hx

theorem po_33 (w : WC a b V t K Wf on E) (hg : RGE a b t K Wf root fr to I) (hR : clR E Wf on en vr I R) (h0 : ∀ z, bt 0 vr z = z) {q e : Nat} (hq : q < sp_z t) (hs : SO t q = 33) (hK : KI t q = [e]) (g_e : ¬ stS (SO t e)) : (fr ≤ e ∧ e < to → ∀ z, z < 2 → (PsR t Wf root fr to R (241 + e) z → atP (PsR t Wf root fr to R) (a c_Y_trueTo e) z) ∧ (PsR t Wf root fr to R (482 + e) z → atP (PsR t Wf root fr to R) (a c_Y_falseTo e) z)) := by
  have h := w.1.1
  have hr := w.1.2
  have hN := CU_N h
  have n84 : ¬ SO t q = 84 := by omega
  have hqs : ¬ stS (SO t q) := by rw [hs]; unfold stS; omega
  have lq := ID_lt hq
  have m_e := kid_lt hr hq (show e ∈ KI t q by rw [hK]; simp)
  refine (?_)
  · intro hin z hz
    have hk : (KI t q)[0]? = some e := by rw [hK]; rfl
    have hw := W_all h hq n84 hk
    rw [hs, hK] at hw
    have e1 : a c_Y_trueTo e = nI (482 + q) := congrArg Prod.fst hw
    have e2 : a c_Y_falseTo e = nI (241 + q) := congrArg Prod.snd hw
    refine ⟨fun x1 => ?_, fun x1 => ?_⟩
    · have x2 := (xT1 m_e.1 hin x1).2 g_e
      have x3 := Rk w hg hR h0 hq m_e.1 hin (k := 1) (s := 5 * ID t q + 2) (by omega) (by omega) hz (by rw [ow_33 hr hq hs hK g_e]; exact Or.inr (Or.inl rfl)) x2
      rw [e1]
      exact (atP_n (by omega)).mpr (fun _ => jF1 hN hq hqs x3)
    · have x2 := (xF1 m_e.1 hin x1).2
      have x3 := Rk w hg hR h0 hq m_e.1 hin (k := 2) (s := 5 * ID t q + 1) (by omega) (by omega) hz (by rw [ow_33 hr hq hs hK g_e]; exact Or.inl rfl) x2
      rw [e2]
      exact (atP_n (by omega)).mpr (fun _ => jT1 hN hq (fun c => absurd c hqs) (fun _ => x3))

theorem go_33 (w : WC a b V t K Wf on E) (hg : RGE a b t K Wf root fr to I) (h0 : ∀ z, bt 0 vr z = z) (hB : ∀ p, fr ≤ p → p < to → clB a (sp_z t) root M v C p) (hO : ∀ p, fr ≤ p → p < to → clO a (sp_z t) root M v C p) {q e : Nat} (hq : q < sp_z t) (hs : SO t q = 33) (hK : KI t q = [e]) (g_e : ¬ stS (SO t e)) : ∀ x ∈ own b (sp_z t) (K (ID t q)) (ID t q) Wf [], good a t Wf root fr to M C I vr x := by
  have h := w.1.1
  have hr := w.1.2
  have hN := CU_N h
  have n84 : ¬ SO t q = 84 := by omega
  have hqs : ¬ stS (SO t q) := by rw [hs]; unfold stS; omega
  have lq := ID_lt hq
  have m_e := kid_lt hr hq (show e ∈ KI t q by rw [hK]; simp)
  have inn := fun (j k : Nat) (hj : j < sp_z t) (hk : k < 5) => (in_node h hr w.2.2.1.1 hg hj hk).mp
  intro x hx
  rw [ow_33 hr hq hs hK g_e] at hx
  rcases hx with rfl | rfl | rfl | hx
  · refine good_n h0 (by omega) (fun z hz hI hP => ?_)
    have hin := inn e 2 m_e.1 (by omega) hI
    have hk : (KI t q)[0]? = some e := by rw [hK]; rfl
    have hw := W_all h hq n84 hk
    rw [hs, hK] at hw
    have e1 : a c_Y_trueTo e = nI (482 + q) := congrArg Prod.fst hw
    have e2 : a c_Y_falseTo e = nI (241 + q) := congrArg Prod.snd hw
    have n9 := not9 (x := a c_Y_trueTo e) (m := 482 + q) (by omega) (e1) (¬ a c_P_around e = root)
    have pa := (KI_mem hq m_e.1).mpr (List.mem_of_getElem? hk)
    have x3 := clO_use h m_e.1 pa (by omega) (by omega) (by omega) (hO e hin.1 hin.2) n9 hz
    have x4 := x3.2 (hP.1.2.2 e m_e.1 rfl g_e).1
    rw [e2] at x4
    exact iT hN hq ⟨((atP_n (by omega)).mp x4), fun c => absurd c (by omega)⟩
  · refine good_n h0 (by omega) (fun z hz hI hP => ?_)
    have hin := inn e 1 m_e.1 (by omega) hI
    have hk : (KI t q)[0]? = some e := by rw [hK]; rfl
    have hw := W_all h hq n84 hk
    rw [hs, hK] at hw
    have e1 : a c_Y_trueTo e = nI (482 + q) := congrArg Prod.fst hw
    have e2 : a c_Y_falseTo e = nI (241 + q) := congrArg Prod.snd hw
    have n9 := not9 (x := a c_Y_trueTo e) (m := 482 + q) (by omega) (e1) (¬ a c_P_around e = root)
    have pa := (KI_mem hq m_e.1).mpr (List.mem_of_getElem? hk)
    have x3 := clO_use h m_e.1 pa (by omega) (by omega) (by omega) (hO e hin.1 hin.2) n9 hz
    have x4 := x3.1 (hP.1.2.1 e m_e.1 rfl g_e).1
    rw [e1] at x4
    exact iF hN hq ⟨((atP_n (by omega)).mp x4), fun c => absurd c (by omega)⟩
  · refine good_n h0 (by omega) (fun z hz hI hP => ?_)
    have hin := inn q 0 hq (by omega) hI
    have x1 := hP.1.1 q hq rfl
    have x2 := (clS_d h hq (by rw [hs]; unfold bgD; omega)).mp (((hB q hin.1 hin.2) z hz).2.2 x1)
    rw [bg_K h hq (by omega) (by omega) (by omega), if_neg (by omega), hK] at x2
    have x2 : atP C (oI (e + 1)) z := x2
    rw [oI_s] at x2
    exact iB hN m_e.1 ((atP_n (by omega)).mp x2)
  · cases hx

theorem po_38 (w : WC a b V t K Wf on E) (hg : RGE a b t K Wf root fr to I) (hR : clR E Wf on en vr I R) (h0 : ∀ z, bt 0 vr z = z) {q e f : Nat} (hq : q < sp_z t) (hs : SO t q = 38) (hK : KI t q = [e, f]) (g_e : ¬ stS (SO t e)) (g_f : ¬ stS (SO t f)) : (fr ≤ e ∧ e < to → ∀ z, z < 2 → (PsR t Wf root fr to R (241 + e) z → atP (PsR t Wf root fr to R) (a c_Y_trueTo e) z) ∧ (PsR t Wf root fr to R (482 + e) z → atP (PsR t Wf root fr to R) (a c_Y_falseTo e) z)) ∧ (fr ≤ f ∧ f < to → ∀ z, z < 2 → (PsR t Wf root fr to R (241 + f) z → atP (PsR t Wf root fr to R) (a c_Y_trueTo f) z) ∧ (PsR t Wf root fr to R (482 + f) z → atP (PsR t Wf root fr to R) (a c_Y_falseTo f) z)) := by
  have h := w.1.1
  have hr := w.1.2
  have hN := CU_N h
  have n84 : ¬ SO t q = 84 := by omega
  have hqs : ¬ stS (SO t q) := by rw [hs]; unfold stS; omega
  have lq := ID_lt hq
  have m_e := kid_lt hr hq (show e ∈ KI t q by rw [hK]; simp)
  have m_f := kid_lt hr hq (show f ∈ KI t q by rw [hK]; simp)
  refine ⟨?_, ?_⟩
  · intro hin z hz
    have hk : (KI t q)[0]? = some e := by rw [hK]; rfl
    have hw := W_all h hq n84 hk
    rw [hs, hK] at hw
    have e1 : a c_Y_trueTo e = orV (f + 1) (nI (241 + q)) := congrArg Prod.fst hw
    have e2 : a c_Y_falseTo e = nI (482 + q) := congrArg Prod.snd hw
    refine ⟨fun x1 => ?_, fun x1 => ?_⟩
    · have x2 := (xT1 m_e.1 hin x1).2 g_e
      have x3 := Rk w hg hR h0 hq m_e.1 hin (k := 1) (s := 5 * ID t f + 0) (by omega) (by omega) hz (by rw [ow_38 hr hq hs hK g_e g_f]; exact Or.inr (Or.inr (Or.inr (Or.inl rfl)))) x2
      rw [e1, orV_s]
      exact (atP_n (by omega)).mpr (fun _ => jB hN m_f.1 x3)
    · have x2 := (xF1 m_e.1 hin x1).2
      have x3 := Rk w hg hR h0 hq m_e.1 hin (k := 2) (s := 5 * ID t q + 2) (by omega) (by omega) hz (by rw [ow_38 hr hq hs hK g_e g_f]; exact Or.inr (Or.inr (Or.inl rfl))) x2
      rw [e2]
      exact (atP_n (by omega)).mpr (fun _ => jF1 hN hq hqs x3)
  · intro hin z hz
    have hk : (KI t q)[1]? = some f := by rw [hK]; rfl
    have hw := W_all h hq n84 hk
    rw [hs, hK] at hw
    have e1 : a c_Y_trueTo f = nI (241 + q) := congrArg Prod.fst hw
    have e2 : a c_Y_falseTo f = nI (482 + q) := congrArg Prod.snd hw
    refine ⟨fun x1 => ?_, fun x1 => ?_⟩
    · have x2 := (xT1 m_f.1 hin x1).2 g_f
      have x3 := Rk w hg hR h0 hq m_f.1 hin (k := 1) (s := 5 * ID t q + 1) (by omega) (by omega) hz (by rw [ow_38 hr hq hs hK g_e g_f]; exact Or.inr (Or.inl rfl)) x2
      rw [e1]
      exact (atP_n (by omega)).mpr (fun _ => jT1 hN hq (fun c => absurd c hqs) (fun _ => x3))
    · have x2 := (xF1 m_f.1 hin x1).2
      have x3 := Rk w hg hR h0 hq m_f.1 hin (k := 2) (s := 5 * ID t q + 2) (by omega) (by omega) hz (by rw [ow_38 hr hq hs hK g_e g_f]; exact Or.inl rfl) x2
      rw [e2]
      exact (atP_n (by omega)).mpr (fun _ => jF1 hN hq hqs x3)

theorem go_38 (w : WC a b V t K Wf on E) (hg : RGE a b t K Wf root fr to I) (h0 : ∀ z, bt 0 vr z = z) (hB : ∀ p, fr ≤ p → p < to → clB a (sp_z t) root M v C p) (hO : ∀ p, fr ≤ p → p < to → clO a (sp_z t) root M v C p) {q e f : Nat} (hq : q < sp_z t) (hs : SO t q = 38) (hK : KI t q = [e, f]) (g_e : ¬ stS (SO t e)) (g_f : ¬ stS (SO t f)) : ∀ x ∈ own b (sp_z t) (K (ID t q)) (ID t q) Wf [], good a t Wf root fr to M C I vr x := by
  have h := w.1.1
  have hr := w.1.2
  have hN := CU_N h
  have n84 : ¬ SO t q = 84 := by omega
  have hqs : ¬ stS (SO t q) := by rw [hs]; unfold stS; omega
  have lq := ID_lt hq
  have m_e := kid_lt hr hq (show e ∈ KI t q by rw [hK]; simp)
  have m_f := kid_lt hr hq (show f ∈ KI t q by rw [hK]; simp)
  have inn := fun (j k : Nat) (hj : j < sp_z t) (hk : k < 5) => (in_node h hr w.2.2.1.1 hg hj hk).mp
  intro x hx
  rw [ow_38 hr hq hs hK g_e g_f] at hx
  rcases hx with rfl | rfl | rfl | rfl | rfl | hx
  · refine good_n h0 (by omega) (fun z hz hI hP => ?_)
    have hin := inn f 2 m_f.1 (by omega) hI
    have hk : (KI t q)[1]? = some f := by rw [hK]; rfl
    have hw := W_all h hq n84 hk
    rw [hs, hK] at hw
    have e1 : a c_Y_trueTo f = nI (241 + q) := congrArg Prod.fst hw
    have e2 : a c_Y_falseTo f = nI (482 + q) := congrArg Prod.snd hw
    have n9 := not9 (x := a c_Y_trueTo f) (m := 241 + q) (by omega) (e1) (¬ a c_P_around f = root)
    have pa := (KI_mem hq m_f.1).mpr (List.mem_of_getElem? hk)
    have x3 := clO_use h m_f.1 pa (by omega) (by omega) (by omega) (hO f hin.1 hin.2) n9 hz
    have x4 := x3.2 (hP.1.2.2 f m_f.1 rfl g_f).1
    rw [e2] at x4
    exact iF hN hq ⟨((atP_n (by omega)).mp x4), fun c => absurd c (by omega)⟩
  · refine good_n h0 (by omega) (fun z hz hI hP => ?_)
    have hin := inn f 1 m_f.1 (by omega) hI
    have hk : (KI t q)[1]? = some f := by rw [hK]; rfl
    have hw := W_all h hq n84 hk
    rw [hs, hK] at hw
    have e1 : a c_Y_trueTo f = nI (241 + q) := congrArg Prod.fst hw
    have e2 : a c_Y_falseTo f = nI (482 + q) := congrArg Prod.snd hw
    have n9 := not9 (x := a c_Y_trueTo f) (m := 241 + q) (by omega) (e1) (¬ a c_P_around f = root)
    have pa := (KI_mem hq m_f.1).mpr (List.mem_of_getElem? hk)
    have x3 := clO_use h m_f.1 pa (by omega) (by omega) (by omega) (hO f hin.1 hin.2) n9 hz
    have x4 := x3.1 (hP.1.2.1 f m_f.1 rfl g_f).1
    rw [e1] at x4
    exact iT hN hq ⟨((atP_n (by omega)).mp x4), fun c => absurd c (by omega)⟩
  · refine good_n h0 (by omega) (fun z hz hI hP => ?_)
    have hin := inn e 2 m_e.1 (by omega) hI
    have hk : (KI t q)[0]? = some e := by rw [hK]; rfl
    have hw := W_all h hq n84 hk
    rw [hs, hK] at hw
    have e1 : a c_Y_trueTo e = orV (f + 1) (nI (241 + q)) := congrArg Prod.fst hw
    have e2 : a c_Y_falseTo e = nI (482 + q) := congrArg Prod.snd hw
    have n9 := not9 (x := a c_Y_trueTo e) (m := f) (by omega) (by rw [e1, orV_s]) (¬ a c_P_around e = root)
    have pa := (KI_mem hq m_e.1).mpr (List.mem_of_getElem? hk)
    have x3 := clO_use h m_e.1 pa (by omega) (by omega) (by omega) (hO e hin.1 hin.2) n9 hz
    have x4 := x3.2 (hP.1.2.2 e m_e.1 rfl g_e).1
    rw [e2] at x4
    exact iF hN hq ⟨((atP_n (by omega)).mp x4), fun c => absurd c (by omega)⟩
  · refine good_n h0 (by omega) (fun z hz hI hP => ?_)
    have hin := inn e 1 m_e.1 (by omega) hI
    have hk : (KI t q)[0]? = some e := by rw [hK]; rfl
    have hw := W_all h hq n84 hk
    rw [hs, hK] at hw
    have e1 : a c_Y_trueTo e = orV (f + 1) (nI (241 + q)) := congrArg Prod.fst hw
    have e2 : a c_Y_falseTo e = nI (482 + q) := congrArg Prod.snd hw
    have n9 := not9 (x := a c_Y_trueTo e) (m := f) (by omega) (by rw [e1, orV_s]) (¬ a c_P_around e = root)
    have pa := (KI_mem hq m_e.1).mpr (List.mem_of_getElem? hk)
    have x3 := clO_use h m_e.1 pa (by omega) (by omega) (by omega) (hO e hin.1 hin.2) n9 hz
    have x4 := x3.1 (hP.1.2.1 e m_e.1 rfl g_e).1
    rw [e1, orV_s] at x4
    exact iB hN m_f.1 ((atP_n (by omega)).mp x4)
  · refine good_n h0 (by omega) (fun z hz hI hP => ?_)
    have hin := inn q 0 hq (by omega) hI
    have x1 := hP.1.1 q hq rfl
    have x2 := (clS_d h hq (by rw [hs]; unfold bgD; omega)).mp (((hB q hin.1 hin.2) z hz).2.2 x1)
    rw [bg_K h hq (by omega) (by omega) (by omega), if_neg (by omega), hK] at x2
    have x2 : atP C (oI (e + 1)) z := x2
    rw [oI_s] at x2
    exact iB hN m_e.1 ((atP_n (by omega)).mp x2)
  · cases hx

theorem po_124 (w : WC a b V t K Wf on E) (hg : RGE a b t K Wf root fr to I) (hR : clR E Wf on en vr I R) (h0 : ∀ z, bt 0 vr z = z) {q e f : Nat} (hq : q < sp_z t) (hs : SO t q = 124) (hK : KI t q = [e, f]) (g_e : ¬ stS (SO t e)) (g_f : ¬ stS (SO t f)) : (fr ≤ e ∧ e < to → ∀ z, z < 2 → (PsR t Wf root fr to R (241 + e) z → atP (PsR t Wf root fr to R) (a c_Y_trueTo e) z) ∧ (PsR t Wf root fr to R (482 + e) z → atP (PsR t Wf root fr to R) (a c_Y_falseTo e) z)) ∧ (fr ≤ f ∧ f < to → ∀ z, z < 2 → (PsR t Wf root fr to R (241 + f) z → atP (PsR t Wf root fr to R) (a c_Y_trueTo f) z) ∧ (PsR t Wf root fr to R (482 + f) z → atP (PsR t Wf root fr to R) (a c_Y_falseTo f) z)) := by
  have h := w.1.1
  have hr := w.1.2
  have hN := CU_N h
  have n84 : ¬ SO t q = 84 := by omega
  have hqs : ¬ stS (SO t q) := by rw [hs]; unfold stS; omega
  have lq := ID_lt hq
  have m_e := kid_lt hr hq (show e ∈ KI t q by rw [hK]; simp)
  have m_f := kid_lt hr hq (show f ∈ KI t q by rw [hK]; simp)
  refine ⟨?_, ?_⟩
  · intro hin z hz
    have hk : (KI t q)[0]? = some e := by rw [hK]; rfl
    have hw := W_all h hq n84 hk
    rw [hs, hK] at hw
    have e1 : a c_Y_trueTo e = nI (241 + q) := congrArg Prod.fst hw
    have e2 : a c_Y_falseTo e = orV (f + 1) (nI (482 + q)) := congrArg Prod.snd hw
    refine ⟨fun x1 => ?_, fun x1 => ?_⟩
    · have x2 := (xT1 m_e.1 hin x1).2 g_e
      have x3 := Rk w hg hR h0 hq m_e.1 hin (k := 1) (s := 5 * ID t q + 1) (by omega) (by omega) hz (by rw [ow_124 hr hq hs hK g_e g_f]; exact Or.inr (Or.inr (Or.inr (Or.inl rfl)))) x2
      rw [e1]
      exact (atP_n (by omega)).mpr (fun _ => jT1 hN hq (fun c => absurd c hqs) (fun _ => x3))
    · have x2 := (xF1 m_e.1 hin x1).2
      have x3 := Rk w hg hR h0 hq m_e.1 hin (k := 2) (s := 5 * ID t f + 0) (by omega) (by omega) hz (by rw [ow_124 hr hq hs hK g_e g_f]; exact Or.inr (Or.inr (Or.inl rfl))) x2
      rw [e2, orV_s]
      exact (atP_n (by omega)).mpr (fun _ => jB hN m_f.1 x3)
  · intro hin z hz
    have hk : (KI t q)[1]? = some f := by rw [hK]; rfl
    have hw := W_all h hq n84 hk
    rw [hs, hK] at hw
    have e1 : a c_Y_trueTo f = nI (241 + q) := congrArg Prod.fst hw
    have e2 : a c_Y_falseTo f = nI (482 + q) := congrArg Prod.snd hw
    refine ⟨fun x1 => ?_, fun x1 => ?_⟩
    · have x2 := (xT1 m_f.1 hin x1).2 g_f
      have x3 := Rk w hg hR h0 hq m_f.1 hin (k := 1) (s := 5 * ID t q + 1) (by omega) (by omega) hz (by rw [ow_124 hr hq hs hK g_e g_f]; exact Or.inr (Or.inl rfl)) x2
      rw [e1]
      exact (atP_n (by omega)).mpr (fun _ => jT1 hN hq (fun c => absurd c hqs) (fun _ => x3))
    · have x2 := (xF1 m_f.1 hin x1).2
      have x3 := Rk w hg hR h0 hq m_f.1 hin (k := 2) (s := 5 * ID t q + 2) (by omega) (by omega) hz (by rw [ow_124 hr hq hs hK g_e g_f]; exact Or.inl rfl) x2
      rw [e2]
      exact (atP_n (by omega)).mpr (fun _ => jF1 hN hq hqs x3)

theorem go_124 (w : WC a b V t K Wf on E) (hg : RGE a b t K Wf root fr to I) (h0 : ∀ z, bt 0 vr z = z) (hB : ∀ p, fr ≤ p → p < to → clB a (sp_z t) root M v C p) (hO : ∀ p, fr ≤ p → p < to → clO a (sp_z t) root M v C p) {q e f : Nat} (hq : q < sp_z t) (hs : SO t q = 124) (hK : KI t q = [e, f]) (g_e : ¬ stS (SO t e)) (g_f : ¬ stS (SO t f)) : ∀ x ∈ own b (sp_z t) (K (ID t q)) (ID t q) Wf [], good a t Wf root fr to M C I vr x := by
  have h := w.1.1
  have hr := w.1.2
  have hN := CU_N h
  have n84 : ¬ SO t q = 84 := by omega
  have hqs : ¬ stS (SO t q) := by rw [hs]; unfold stS; omega
  have lq := ID_lt hq
  have m_e := kid_lt hr hq (show e ∈ KI t q by rw [hK]; simp)
  have m_f := kid_lt hr hq (show f ∈ KI t q by rw [hK]; simp)
  have inn := fun (j k : Nat) (hj : j < sp_z t) (hk : k < 5) => (in_node h hr w.2.2.1.1 hg hj hk).mp
  intro x hx
  rw [ow_124 hr hq hs hK g_e g_f] at hx
  rcases hx with rfl | rfl | rfl | rfl | rfl | hx
  · refine good_n h0 (by omega) (fun z hz hI hP => ?_)
    have hin := inn f 2 m_f.1 (by omega) hI
    have hk : (KI t q)[1]? = some f := by rw [hK]; rfl
    have hw := W_all h hq n84 hk
    rw [hs, hK] at hw
    have e1 : a c_Y_trueTo f = nI (241 + q) := congrArg Prod.fst hw
    have e2 : a c_Y_falseTo f = nI (482 + q) := congrArg Prod.snd hw
    have n9 := not9 (x := a c_Y_trueTo f) (m := 241 + q) (by omega) (e1) (¬ a c_P_around f = root)
    have pa := (KI_mem hq m_f.1).mpr (List.mem_of_getElem? hk)
    have x3 := clO_use h m_f.1 pa (by omega) (by omega) (by omega) (hO f hin.1 hin.2) n9 hz
    have x4 := x3.2 (hP.1.2.2 f m_f.1 rfl g_f).1
    rw [e2] at x4
    exact iF hN hq ⟨((atP_n (by omega)).mp x4), fun c => absurd c (by omega)⟩
  · refine good_n h0 (by omega) (fun z hz hI hP => ?_)
    have hin := inn f 1 m_f.1 (by omega) hI
    have hk : (KI t q)[1]? = some f := by rw [hK]; rfl
    have hw := W_all h hq n84 hk
    rw [hs, hK] at hw
    have e1 : a c_Y_trueTo f = nI (241 + q) := congrArg Prod.fst hw
    have e2 : a c_Y_falseTo f = nI (482 + q) := congrArg Prod.snd hw
    have n9 := not9 (x := a c_Y_trueTo f) (m := 241 + q) (by omega) (e1) (¬ a c_P_around f = root)
    have pa := (KI_mem hq m_f.1).mpr (List.mem_of_getElem? hk)
    have x3 := clO_use h m_f.1 pa (by omega) (by omega) (by omega) (hO f hin.1 hin.2) n9 hz
    have x4 := x3.1 (hP.1.2.1 f m_f.1 rfl g_f).1
    rw [e1] at x4
    exact iT hN hq ⟨((atP_n (by omega)).mp x4), fun c => absurd c (by omega)⟩
  · refine good_n h0 (by omega) (fun z hz hI hP => ?_)
    have hin := inn e 2 m_e.1 (by omega) hI
    have hk : (KI t q)[0]? = some e := by rw [hK]; rfl
    have hw := W_all h hq n84 hk
    rw [hs, hK] at hw
    have e1 : a c_Y_trueTo e = nI (241 + q) := congrArg Prod.fst hw
    have e2 : a c_Y_falseTo e = orV (f + 1) (nI (482 + q)) := congrArg Prod.snd hw
    have n9 := not9 (x := a c_Y_trueTo e) (m := 241 + q) (by omega) (e1) (¬ a c_P_around e = root)
    have pa := (KI_mem hq m_e.1).mpr (List.mem_of_getElem? hk)
    have x3 := clO_use h m_e.1 pa (by omega) (by omega) (by omega) (hO e hin.1 hin.2) n9 hz
    have x4 := x3.2 (hP.1.2.2 e m_e.1 rfl g_e).1
    rw [e2, orV_s] at x4
    exact iB hN m_f.1 ((atP_n (by omega)).mp x4)
  · refine good_n h0 (by omega) (fun z hz hI hP => ?_)
    have hin := inn e 1 m_e.1 (by omega) hI
    have hk : (KI t q)[0]? = some e := by rw [hK]; rfl
    have hw := W_all h hq n84 hk
    rw [hs, hK] at hw
    have e1 : a c_Y_trueTo e = nI (241 + q) := congrArg Prod.fst hw
    have e2 : a c_Y_falseTo e = orV (f + 1) (nI (482 + q)) := congrArg Prod.snd hw
    have n9 := not9 (x := a c_Y_trueTo e) (m := 241 + q) (by omega) (e1) (¬ a c_P_around e = root)
    have pa := (KI_mem hq m_e.1).mpr (List.mem_of_getElem? hk)
    have x3 := clO_use h m_e.1 pa (by omega) (by omega) (by omega) (hO e hin.1 hin.2) n9 hz
    have x4 := x3.1 (hP.1.2.1 e m_e.1 rfl g_e).1
    rw [e1] at x4
    exact iT hN hq ⟨((atP_n (by omega)).mp x4), fun c => absurd c (by omega)⟩
  · refine good_n h0 (by omega) (fun z hz hI hP => ?_)
    have hin := inn q 0 hq (by omega) hI
    have x1 := hP.1.1 q hq rfl
    have x2 := (clS_d h hq (by rw [hs]; unfold bgD; omega)).mp (((hB q hin.1 hin.2) z hz).2.2 x1)
    rw [bg_K h hq (by omega) (by omega) (by omega), if_neg (by omega), hK] at x2
    have x2 : atP C (oI (e + 1)) z := x2
    rw [oI_s] at x2
    exact iB hN m_e.1 ((atP_n (by omega)).mp x2)
  · cases hx

theorem po_63 (w : WC a b V t K Wf on E) (hg : RGE a b t K Wf root fr to I) (hR : clR E Wf on en vr I R) (h0 : ∀ z, bt 0 vr z = z) {q e f g : Nat} (hq : q < sp_z t) (hs : SO t q = 63) (hK : KI t q = [e, f, g]) (g_e : ¬ stS (SO t e)) (g_f : ¬ stS (SO t f)) (g_g : ¬ stS (SO t g)) : (fr ≤ e ∧ e < to → ∀ z, z < 2 → (PsR t Wf root fr to R (241 + e) z → atP (PsR t Wf root fr to R) (a c_Y_trueTo e) z) ∧ (PsR t Wf root fr to R (482 + e) z → atP (PsR t Wf root fr to R) (a c_Y_falseTo e) z)) ∧ (fr ≤ f ∧ f < to → ∀ z, z < 2 → (PsR t Wf root fr to R (241 + f) z → atP (PsR t Wf root fr to R) (a c_Y_trueTo f) z) ∧ (PsR t Wf root fr to R (482 + f) z → atP (PsR t Wf root fr to R) (a c_Y_falseTo f) z)) ∧ (fr ≤ g ∧ g < to → ∀ z, z < 2 → (PsR t Wf root fr to R (241 + g) z → atP (PsR t Wf root fr to R) (a c_Y_trueTo g) z) ∧ (PsR t Wf root fr to R (482 + g) z → atP (PsR t Wf root fr to R) (a c_Y_falseTo g) z)) := by
  have h := w.1.1
  have hr := w.1.2
  have hN := CU_N h
  have n84 : ¬ SO t q = 84 := by omega
  have hqs : ¬ stS (SO t q) := by rw [hs]; unfold stS; omega
  have lq := ID_lt hq
  have m_e := kid_lt hr hq (show e ∈ KI t q by rw [hK]; simp)
  have m_f := kid_lt hr hq (show f ∈ KI t q by rw [hK]; simp)
  have m_g := kid_lt hr hq (show g ∈ KI t q by rw [hK]; simp)
  refine ⟨?_, ?_, ?_⟩
  · intro hin z hz
    have hk : (KI t q)[0]? = some e := by rw [hK]; rfl
    have hw := W_all h hq n84 hk
    rw [hs, hK] at hw
    have e1 : a c_Y_trueTo e = oI (f + 1) := congrArg Prod.fst hw
    have e2 : a c_Y_falseTo e = oI (g + 1) := congrArg Prod.snd hw
    refine ⟨fun x1 => ?_, fun x1 => ?_⟩
    · have x2 := (xT1 m_e.1 hin x1).2 g_e
      have x3 := Rk w hg hR h0 hq m_e.1 hin (k := 1) (s := 5 * ID t f + 0) (by omega) (by omega) hz (by rw [ow_63 hr hq hs hK g_e g_f g_g]; exact Or.inr (Or.inr (Or.inr (Or.inr (Or.inr (Or.inl rfl)))))) x2
      rw [e1, oI_s]
      exact (atP_n (by omega)).mpr (fun _ => jB hN m_f.1 x3)
    · have x2 := (xF1 m_e.1 hin x1).2
      have x3 := Rk w hg hR h0 hq m_e.1 hin (k := 2) (s := 5 * ID t g + 0) (by omega) (by omega) hz (by rw [ow_63 hr hq hs hK g_e g_f g_g]; exact Or.inr (Or.inr (Or.inr (Or.inr (Or.inl rfl))))) x2
      rw [e2, oI_s]
      exact (atP_n (by omega)).mpr (fun _ => jB hN m_g.1 x3)
  · intro hin z hz
    have hk : (KI t q)[1]? = some f := by rw [hK]; rfl
    have hw := W_all h hq n84 hk
    rw [hs, hK] at hw
    have e1 : a c_Y_trueTo f = nI (241 + q) := congrArg Prod.fst hw
    have e2 : a c_Y_falseTo f = nI (482 + q) := congrArg Prod.snd hw
    refine ⟨fun x1 => ?_, fun x1 => ?_⟩
    · have x2 := (xT1 m_f.1 hin x1).2 g_f
      have x3 := Rk w hg hR h0 hq m_f.1 hin (k := 1) (s := 5 * ID t q + 1) (by omega) (by omega) hz (by rw [ow_63 hr hq hs hK g_e g_f g_g]; exact Or.inr (Or.inr (Or.inr (Or.inl rfl)))) x2
      rw [e1]
      exact (atP_n (by omega)).mpr (fun _ => jT1 hN hq (fun c => absurd c hqs) (fun _ => x3))
    · have x2 := (xF1 m_f.1 hin x1).2
      have x3 := Rk w hg hR h0 hq m_f.1 hin (k := 2) (s := 5 * ID t q + 2) (by omega) (by omega) hz (by rw [ow_63 hr hq hs hK g_e g_f g_g]; exact Or.inr (Or.inr (Or.inl rfl))) x2
      rw [e2]
      exact (atP_n (by omega)).mpr (fun _ => jF1 hN hq hqs x3)
  · intro hin z hz
    have hk : (KI t q)[2]? = some g := by rw [hK]; rfl
    have hw := W_all h hq n84 hk
    rw [hs, hK] at hw
    have e1 : a c_Y_trueTo g = nI (241 + q) := congrArg Prod.fst hw
    have e2 : a c_Y_falseTo g = nI (482 + q) := congrArg Prod.snd hw
    refine ⟨fun x1 => ?_, fun x1 => ?_⟩
    · have x2 := (xT1 m_g.1 hin x1).2 g_g
      have x3 := Rk w hg hR h0 hq m_g.1 hin (k := 1) (s := 5 * ID t q + 1) (by omega) (by omega) hz (by rw [ow_63 hr hq hs hK g_e g_f g_g]; exact Or.inr (Or.inl rfl)) x2
      rw [e1]
      exact (atP_n (by omega)).mpr (fun _ => jT1 hN hq (fun c => absurd c hqs) (fun _ => x3))
    · have x2 := (xF1 m_g.1 hin x1).2
      have x3 := Rk w hg hR h0 hq m_g.1 hin (k := 2) (s := 5 * ID t q + 2) (by omega) (by omega) hz (by rw [ow_63 hr hq hs hK g_e g_f g_g]; exact Or.inl rfl) x2
      rw [e2]
      exact (atP_n (by omega)).mpr (fun _ => jF1 hN hq hqs x3)

theorem go_63 (w : WC a b V t K Wf on E) (hg : RGE a b t K Wf root fr to I) (h0 : ∀ z, bt 0 vr z = z) (hB : ∀ p, fr ≤ p → p < to → clB a (sp_z t) root M v C p) (hO : ∀ p, fr ≤ p → p < to → clO a (sp_z t) root M v C p) {q e f g : Nat} (hq : q < sp_z t) (hs : SO t q = 63) (hK : KI t q = [e, f, g]) (g_e : ¬ stS (SO t e)) (g_f : ¬ stS (SO t f)) (g_g : ¬ stS (SO t g)) : ∀ x ∈ own b (sp_z t) (K (ID t q)) (ID t q) Wf [], good a t Wf root fr to M C I vr x := by
  have h := w.1.1
  have hr := w.1.2
  have hN := CU_N h
  have n84 : ¬ SO t q = 84 := by omega
  have hqs : ¬ stS (SO t q) := by rw [hs]; unfold stS; omega
  have lq := ID_lt hq
  have m_e := kid_lt hr hq (show e ∈ KI t q by rw [hK]; simp)
  have m_f := kid_lt hr hq (show f ∈ KI t q by rw [hK]; simp)
  have m_g := kid_lt hr hq (show g ∈ KI t q by rw [hK]; simp)
  have inn := fun (j k : Nat) (hj : j < sp_z t) (hk : k < 5) => (in_node h hr w.2.2.1.1 hg hj hk).mp
  intro x hx
  rw [ow_63 hr hq hs hK g_e g_f g_g] at hx
  rcases hx with rfl | rfl | rfl | rfl | rfl | rfl | rfl | hx
  · refine good_n h0 (by omega) (fun z hz hI hP => ?_)
    have hin := inn g 2 m_g.1 (by omega) hI
    have hk : (KI t q)[2]? = some g := by rw [hK]; rfl
    have hw := W_all h hq n84 hk
    rw [hs, hK] at hw
    have e1 : a c_Y_trueTo g = nI (241 + q) := congrArg Prod.fst hw
    have e2 : a c_Y_falseTo g = nI (482 + q) := congrArg Prod.snd hw
    have n9 := not9 (x := a c_Y_trueTo g) (m := 241 + q) (by omega) (e1) (¬ a c_P_around g = root)
    have pa := (KI_mem hq m_g.1).mpr (List.mem_of_getElem? hk)
    have x3 := clO_use h m_g.1 pa (by omega) (by omega) (by omega) (hO g hin.1 hin.2) n9 hz
    have x4 := x3.2 (hP.1.2.2 g m_g.1 rfl g_g).1
    rw [e2] at x4
    exact iF hN hq ⟨((atP_n (by omega)).mp x4), fun c => absurd c (by omega)⟩
  · refine good_n h0 (by omega) (fun z hz hI hP => ?_)
    have hin := inn g 1 m_g.1 (by omega) hI
    have hk : (KI t q)[2]? = some g := by rw [hK]; rfl
    have hw := W_all h hq n84 hk
    rw [hs, hK] at hw
    have e1 : a c_Y_trueTo g = nI (241 + q) := congrArg Prod.fst hw
    have e2 : a c_Y_falseTo g = nI (482 + q) := congrArg Prod.snd hw
    have n9 := not9 (x := a c_Y_trueTo g) (m := 241 + q) (by omega) (e1) (¬ a c_P_around g = root)
    have pa := (KI_mem hq m_g.1).mpr (List.mem_of_getElem? hk)
    have x3 := clO_use h m_g.1 pa (by omega) (by omega) (by omega) (hO g hin.1 hin.2) n9 hz
    have x4 := x3.1 (hP.1.2.1 g m_g.1 rfl g_g).1
    rw [e1] at x4
    exact iT hN hq ⟨((atP_n (by omega)).mp x4), fun c => absurd c (by omega)⟩
  · refine good_n h0 (by omega) (fun z hz hI hP => ?_)
    have hin := inn f 2 m_f.1 (by omega) hI
    have hk : (KI t q)[1]? = some f := by rw [hK]; rfl
    have hw := W_all h hq n84 hk
    rw [hs, hK] at hw
    have e1 : a c_Y_trueTo f = nI (241 + q) := congrArg Prod.fst hw
    have e2 : a c_Y_falseTo f = nI (482 + q) := congrArg Prod.snd hw
    have n9 := not9 (x := a c_Y_trueTo f) (m := 241 + q) (by omega) (e1) (¬ a c_P_around f = root)
    have pa := (KI_mem hq m_f.1).mpr (List.mem_of_getElem? hk)
    have x3 := clO_use h m_f.1 pa (by omega) (by omega) (by omega) (hO f hin.1 hin.2) n9 hz
    have x4 := x3.2 (hP.1.2.2 f m_f.1 rfl g_f).1
    rw [e2] at x4
    exact iF hN hq ⟨((atP_n (by omega)).mp x4), fun c => absurd c (by omega)⟩
  · refine good_n h0 (by omega) (fun z hz hI hP => ?_)
    have hin := inn f 1 m_f.1 (by omega) hI
    have hk : (KI t q)[1]? = some f := by rw [hK]; rfl
    have hw := W_all h hq n84 hk
    rw [hs, hK] at hw
    have e1 : a c_Y_trueTo f = nI (241 + q) := congrArg Prod.fst hw
    have e2 : a c_Y_falseTo f = nI (482 + q) := congrArg Prod.snd hw
    have n9 := not9 (x := a c_Y_trueTo f) (m := 241 + q) (by omega) (e1) (¬ a c_P_around f = root)
    have pa := (KI_mem hq m_f.1).mpr (List.mem_of_getElem? hk)
    have x3 := clO_use h m_f.1 pa (by omega) (by omega) (by omega) (hO f hin.1 hin.2) n9 hz
    have x4 := x3.1 (hP.1.2.1 f m_f.1 rfl g_f).1
    rw [e1] at x4
    exact iT hN hq ⟨((atP_n (by omega)).mp x4), fun c => absurd c (by omega)⟩
  · refine good_n h0 (by omega) (fun z hz hI hP => ?_)
    have hin := inn e 2 m_e.1 (by omega) hI
    have hk : (KI t q)[0]? = some e := by rw [hK]; rfl
    have hw := W_all h hq n84 hk
    rw [hs, hK] at hw
    have e1 : a c_Y_trueTo e = oI (f + 1) := congrArg Prod.fst hw
    have e2 : a c_Y_falseTo e = oI (g + 1) := congrArg Prod.snd hw
    have n9 := not9 (x := a c_Y_trueTo e) (m := f) (by omega) (by rw [e1, oI_s]) (¬ a c_P_around e = root)
    have pa := (KI_mem hq m_e.1).mpr (List.mem_of_getElem? hk)
    have x3 := clO_use h m_e.1 pa (by omega) (by omega) (by omega) (hO e hin.1 hin.2) n9 hz
    have x4 := x3.2 (hP.1.2.2 e m_e.1 rfl g_e).1
    rw [e2, oI_s] at x4
    exact iB hN m_g.1 ((atP_n (by omega)).mp x4)
  · refine good_n h0 (by omega) (fun z hz hI hP => ?_)
    have hin := inn e 1 m_e.1 (by omega) hI
    have hk : (KI t q)[0]? = some e := by rw [hK]; rfl
    have hw := W_all h hq n84 hk
    rw [hs, hK] at hw
    have e1 : a c_Y_trueTo e = oI (f + 1) := congrArg Prod.fst hw
    have e2 : a c_Y_falseTo e = oI (g + 1) := congrArg Prod.snd hw
    have n9 := not9 (x := a c_Y_trueTo e) (m := f) (by omega) (by rw [e1, oI_s]) (¬ a c_P_around e = root)
    have pa := (KI_mem hq m_e.1).mpr (List.mem_of_getElem? hk)
    have x3 := clO_use h m_e.1 pa (by omega) (by omega) (by omega) (hO e hin.1 hin.2) n9 hz
    have x4 := x3.1 (hP.1.2.1 e m_e.1 rfl g_e).1
    rw [e1, oI_s] at x4
    exact iB hN m_f.1 ((atP_n (by omega)).mp x4)
  · refine good_n h0 (by omega) (fun z hz hI hP => ?_)
    have hin := inn q 0 hq (by omega) hI
    have x1 := hP.1.1 q hq rfl
    have x2 := (clS_d h hq (by rw [hs]; unfold bgD; omega)).mp (((hB q hin.1 hin.2) z hz).2.2 x1)
    rw [bg_K h hq (by omega) (by omega) (by omega), if_neg (by omega), hK] at x2
    have x2 : atP C (oI (e + 1)) z := x2
    rw [oI_s] at x2
    exact iB hN m_e.1 ((atP_n (by omega)).mp x2)
  · cases hx

end KP
