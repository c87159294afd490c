/-! the constructor of the reference -/
abbrev ky_M : MethodName := ⟨"AssignFlowModel", "<init>", "()V"⟩
abbrev kf_M : List Value := [.null, .int 0, .int 0, .null, .null, .null, .null, .null, .null, .null, .null, .null, .null, .null, .null, .null, .null, .null, .int 0, .int 0, .null, .null, .null, .null, .null, .int 0, .int 0, .int 0, .int 0, .null, .null, .int 0, .null, .int 0, .int 0, .int 0, .int 0, .null, .null, .null, .int 0, .int 0, .null, .null, .null, .null, .null, .null, .null, .null, .int 0, .int 0, .null, .null, .null, .int 0, .null, .null, .null, .null, .int 0, .int 0]
theorem knr_M : ∀ k, Value.ref k ∈ kf_M → False := fun k h => by simp [kf_M] at h
theorem kob_M : Cond.methodLink "AssignFlowModel" 1 objectInit ∈ lwG := lwG_in (by decide +kernel) rfl
abbrev kE_M : List ctE := [((0, .int (-1)), (61, 139))]
theorem koe_M : ctOU 0 rk_C lwG "AssignFlowModel" rq_F0 62 (rq_ty 0) 373 kE_M := ⟨⟨⟨by decide +kernel, Or.inl ⟨-1, -1, rfl, by decide +kernel, by decide +kernel⟩, by decide +kernel⟩, ⟨by decide, lwG_in (by decide +kernel) rfl⟩, fun _ => ⟨rfl, rfl⟩⟩, trivial⟩
abbrev kg_M : List Value := pv_set (ctF kf_M 1 rk_L1) 56 (.ref 39)
abbrev kh_M : pv_S := ctA rk_L1 ++ [.inl (1, ctZ 1 46800)]
def km_m : Nat → Int32 := fun k => bif Nat.beq k 61 then -1 else 0
def km_a : Nat → Nat → Int32 := fun _ _ => 0
theorem kn_1 : ctN rk_L1 = 41326 := by decide +kernel
theorem kn_2 : ctN rk_L2 = 11420 := by decide +kernel
set_option maxRecDepth 100000 in
theorem kl_M : (kh_M : pv_S).length = 39 := by decide +kernel
set_option maxRecDepth 100000 in
theorem ke_M : (Sum.inr (0, ctG (ctF kg_M 40 rk_L2) kE_M) :: (kh_M ++ ctA rk_L2) : pv_S) = rs km_m km_a := by rfl
theorem km_c : km_m r_piled = 0 ∧ km_m r_faultPlace = -1 ∧ km_m r_collected = 0 := ⟨rfl, rfl, rfl⟩
theorem km_ed : edK km_a := ⟨fun _ _ => 0, fun t b _ _ => ⟨rfl, Nat.le_of_ble_eq_true rfl⟩⟩
theorem km_by : ∀ i, (km_a r_row i).toInt8.toInt32 = km_a r_row i := fun _ => (show (0 : Int32).toInt8.toInt32 = 0 by decide +kernel)
theorem km_vo : vOK km_a := ⟨fun i _ => ⟨0, by omega, rfl⟩, fun v _ => ⟨0, by omega, rfl⟩⟩
theorem kg_len : kg_M.length = 62 := by decide +kernel
theorem kg_rf : ∀ k, Value.ref k ∈ kg_M → k < 40 := fun k hk => set_ref (j := 39) (ctF kf_M 1 rk_L1) 56 hk (ctF_ref rk_L1 kf_M 1 (fun k h => (knr_M k h).elim)) (by omega)

set_option maxHeartbeats 4000000 in
set_option maxRecDepth 100000 in
theorem km_M (l : Launch) (D : va_G) (cA : Nat → Nat) (h0 sz : Nat) : Met l ky_M (pv_ws lwG ky_M rk_C 1 none) { frames := 8, cells := 42, slots := 99546, locals := 400 } (va_Pc [.ref h0] (fun U => U.heap.size = sz ∧ va_P D rq_cl [(h0, .inr (0, kf_M))] U.heap ∧ va_K D rq_cl (pv_tys cA) U)) (va_Qv (fun ad : Nat → Nat => ad 0 = h0) (fun ad t => ∃ Sr, RStS 0 0 .nil [] (-1) (r_tx km_a) Sr ∧ va_P D rq_cl (pv_w cA ad 0 Sr) t.heap ∧ va_D (va_A [(h0, .inr (0, kf_M))] sz) (pv_w cA ad 0 Sr)) (va_A [(h0, .inr (0, kf_M))] sz)) 42 99546 (va_A [(h0, .inr (0, kf_M))] sz) := by
  refine Met.ofW (cc := rk_C) (maxL := 1) (ret := none) (by decide +kernel) rfl ?_
  intro p e s m args below meth c s₁ B hml hv
  obtain ⟨rfl, hsz, hP, hK⟩ := hv
  have hx := B.exec
  have hb := B.bytes
  have hr := B.returns
  have hts : ∀ w ∈ lwG, w.before _ s = true := fun w hw => atoms_spec (ws := pv_ws lwG ky_M rk_C 1 none) B.pre w (List.mem_cons_of_mem _ hw)
  have hown : s.vm.findClass "AssignFlowModel" = some m.cls := findClass_of_methodNamed B.named
  have hlocks := B.notSynchronized
  have hin : meth.name = "<init>" := (name_of_methodNamed B.named B.method).1
  subst hsz
  have hA0 : va_A [(h0, Sum.inr (0, kf_M))] s.heap.size h0 := Or.inl ⟨0, _, rfl⟩
  have hA : ∀ q, s.heap.size ≤ q → va_A [(h0, Sum.inr (0, kf_M))] s.heap.size q := fun q h => Or.inr h
  generalize va_A [(h0, Sum.inr (0, kf_M))] s.heap.size = A at hA0 hA ⊢
  have hP : va_P D rq_cl (pv_w cA (fun _ => h0) 0 [.inr (0, kf_M)]) s.heap := hP
  have hD : va_D A (pv_w cA (fun _ => h0) 0 [.inr (0, kf_M)]) := ct_one hA0
  have hS : va_S A s.heap s.heap [] := va_S.rf
  have hl := lv_entry [.ref h0] (n := 1) (Nat.le_of_ble_eq_true rfl)
  rw [lg_entry_eq]
  generalize (lg_sl [.ref h0] ++ List.replicate (1 - (lg_sl [.ref h0]).length) Slot.unset).toArray = ls at hl ⊢
  have hl0 : lv_has ls 1 [(0, .ref h0)] := hl
  refine lv_aload_n hx hb (show decode rk_C 0 = .ok (.aload_n 0, 1) by decide +kernel) rfl (lv_at hl0 0 rfl) ?_
  refine W.objInit hx hb hown (hts _ kob_M) (hts _ obj_im) (hts _ obj_code) rfl (by rw [hml]; exact hl.1) rfl (show decode rk_C 1 = .ok (.invokespecial 1, 3) by decide +kernel) (Nat.le_of_ble_eq_true rfl) (Nat.le_of_ble_eq_true rfl) ?_
  refine W.eq (g2 := F0 m 4 ls []) rfl ?_
  refine ct_run (a1 := 0) hx hb hown hts hK rq_okG hA hin hl0 rfl rk_L1 4 0 0 (fun _ => h0) kf_M [] s.heap [] rfl (ctOK_G _ _ rk_okL1) rfl (fun x h => absurd h List.not_mem_nil) (fun k h => (knr_M k h).elim) (Nat.le_of_ble_eq_true rfl) (by rw [kn_1]; exact Nat.le_of_ble_eq_true rfl) hP hD hS (fun ad H1 locs1 z0 hP1 hD1 hS1 => ?_)
  rw [rk_pcL1, kn_1]
  have hP1 : va_P D rq_cl (pv_w cA ad 0 (.inr (0, ctF kf_M 1 rk_L1) :: ctA rk_L1)) H1 := hP1
  have hD1 : va_D A (pv_w cA ad 0 (.inr (0, ctF kf_M 1 rk_L1) :: ctA rk_L1)) := hD1
  have hlS : (Sum.inr (0, ctF kf_M 1 rk_L1) :: ctA rk_L1 : pv_S).length = 39 := by show (ctA rk_L1).length + 1 = 39; rw [ctA_len]; rfl
  have hrin : rfIn (Sum.inr (0, ctF kf_M 1 rk_L1) :: ctA rk_L1 : pv_S).length (.inr (0, ctF kf_M 1 rk_L1) :: ctA rk_L1) := by
    rw [hlS]
    intro x hx ci fs ex k hk
    rcases List.mem_cons.mp hx with rfl | hx
    · cases ex
      exact ctF_ref rk_L1 kf_M 1 (fun k h => (knr_M k h).elim) k hk
    · obtain ⟨a, rfl⟩ := ctA_arr rk_L1 x hx
      cases ex
  refine ct_step (k := 2) (n := 46800) (atype := .byte) (ty := .byte) (N' := 46800) (a0 := ctZ 1 46800) (i := 127) (a1 := 0) (a2 := 56) (N := 62) (C := "AssignFlowModel") (T := rq_F0) hx hb hown hts hK rq_okG hA (by rw [z0]; exact hl0) hP1 hD1 hS1 hrin (by rw [hlS]; omega) (show decode rk_C 338 = .ok (.aload_n 0, 1) by decide +kernel) (fun st k => lv_ldc (index := 126) hx hb hown (hts _ (lwG_in (by decide +kernel) rfl)) (show decode rk_C 339 = .ok (.ldc 126, 2) by decide +kernel) k) (lwG_in (by decide +kernel) rfl) rfl 1 rfl (fun U k => id) (ctZ_cell (at1 := .byte) (Or.inr (Or.inl ⟨rfl, rfl⟩))) (by decide +kernel) (by decide +kernel) (by decide) (Nat.le_of_ble_eq_true rfl) (Nat.le_of_ble_eq_true rfl) (show decode rk_C 341 = .ok (.newarray .byte, 2) by decide +kernel) rfl (by decide) (lwG_in (by decide +kernel) rfl) (by first | exact Or.inl rfl | exact Or.inr ⟨rfl, hin, rfl⟩) rfl (by rw [ctF_len]; decide) (fun q => rfl) (fun q => rfl) (show decode rk_C 343 = .ok (.putfield 127, 3) by decide +kernel) (fun q H2 locs2 hP2 hD2 hS2 e0 => ?_)
  rw [hlS] at hP2 hD2 e0
  generalize ad1 ad 39 q = ad2 at hP2 hD2 e0
  have hP2 : va_P D rq_cl (pv_w cA ad2 0 (.inr (0, kg_M) :: kh_M)) H2 := hP2
  have hD2 : va_D A (pv_w cA ad2 0 (.inr (0, kg_M) :: kh_M)) := hD2
  have z2 : ad2 0 = h0 := e0.trans z0
  refine ct_run (a1 := 0) hx hb hown hts hK rq_okG hA hin hl0 rfl rk_L2 346 _ _ ad2 kg_M kh_M H2 locs2 z2 (ctOK_G _ _ rk_okL2) kg_len (fun x h => ?_) (fun k h => by rw [kl_M]; exact kg_rf k h) (Nat.le_of_ble_eq_true rfl) (by rw [kn_2]; exact Nat.le_of_ble_eq_true rfl) hP2 hD2 hS2 (fun ad3 H3 locs3 z3 hP3 hD3 hS3 => ?_)
  · rcases List.mem_append.mp h with h | h
    · exact ctA_arr rk_L1 x h
    · exact ⟨_, List.mem_singleton.mp h⟩
  rw [kl_M] at hP3 hD3
  rw [rk_pcL2, kn_2]
  refine ct_puts (na := 0) (a1 := 0) hx hb hown hts hK rq_okG hin (by rw [z3]; exact hl0) (fun k h1 h2 => absurd h1 (by omega)) rfl kE_M 373 (ctF kg_M 40 rk_L2) H3 locs3 koe_M (by rw [ctF_len]; exact kg_len) hP3 hD3 hS3 (fun H4 locs4 hP4 hD4 hS4 => ?_)
  rw [ke_M] at hP4 hD4
  have hl4 : lv_has ls 1 [(0, .ref (ad3 0))] := by rw [z3]; exact hl0
  refine W.eq (g2 := F0 m 378 ls []) rfl ?_
  refine W.widen (k := 42) (n := 99546) (Nat.le_of_ble_eq_true rfl) (Nat.le_of_ble_eq_true rfl) ?_
  refine lv_aload_n hx hb (show decode rk_C 378 = .ok (.aload_n 0, 1) by decide +kernel) rfl (lv_at hl4 0 rfl) ?_
  refine mc_call (d := 0) (As := []) (rest := []) (b := 0) (j := rq_m_R_clear) (i := 143) (ci := 0) rq_ok rq_TsG hx hb hml hown hts (fun w h => absurd h List.not_mem_nil) hK hP4 hD4 hS4 ⟨Nat.le_of_ble_eq_true rfl, Nat.le_of_ble_eq_true rfl⟩ ⟨Nat.le_refl _, Nat.le_refl _⟩ hl.1 rfl rfl (Or.inl (lwG_in (by decide +kernel) rfl)) rfl (Nat.le_of_ble_eq_true rfl) (show decode rk_C 379 = .ok (.invokevirtual 143, 3) by decide +kernel) (r_init1 0 km_c ⟨km_ed, km_vo⟩ km_by rfl) (fun o5 S5 hp5 hn5 H5 locs5 hP5 hS5 hz5 hk5 => ?_)
  obtain ⟨rfl, m5, a5, rfl, hI5⟩ := hp5
  have hD5 := pv_D_len hD4 hn5
  refine W.eq (g2 := F0 m 382 ls []) rfl ?_
  refine lv_aload_n hx hb (show decode rk_C 382 = .ok (.aload_n 0, 1) by decide +kernel) rfl (lv_at hl4 0 rfl) ?_
  refine mc_call (d := 5) (As := []) (rest := []) (b := 0) (j := rq_m_R_build) (i := 146) (ci := 0) rq_ok rq_TsG hx hb hml hown hts (fun w h => absurd h List.not_mem_nil) hK hP5 hD5 hS5 ⟨Nat.le_of_ble_eq_true rfl, Nat.le_of_ble_eq_true rfl⟩ ⟨Nat.le_refl _, Nat.le_refl _⟩ hl.1 rfl rfl (Or.inl (lwG_in (by decide +kernel) rfl)) rfl (Nat.le_of_ble_eq_true rfl) (show decode rk_C 383 = .ok (.invokevirtual 146, 3) by decide +kernel) (r_init2 0 hI5) (fun o6 S6 hp6 hn6 H6 locs6 hP6 hS6 hz6 hk6 => ?_)
  obtain ⟨rfl, hI6⟩ := hp6
  have hD6 := pv_D_len hD5 hn6
  have he6 : ∃ fs, S6[0]? = some (.inr (0, fs)) := by
    obtain ⟨m0, a0, b, Wf, on, E, m', a', rfl, -⟩ := id hI6
    exact ⟨_, rfl⟩
  obtain ⟨fs6, he6⟩ := he6
  refine W.eq (g2 := F0 m 386 ls []) rfl ?_
  refine lv_aload_n hx hb (show decode rk_C 386 = .ok (.aload_n 0, 1) by decide +kernel) rfl (lv_at hl4 0 rfl) ?_
  refine mc_call (d := 3) (As := []) (rest := []) (b := 0) (j := rq_m_R_solve) (i := 149) (ci := 0) rq_ok rq_TsG hx hb hml hown hts (fun w h => absurd h List.not_mem_nil) hK hP6 hD6 hS6 ⟨Nat.le_of_ble_eq_true rfl, Nat.le_of_ble_eq_true rfl⟩ ⟨Nat.le_refl _, Nat.le_refl _⟩ hl.1 rfl rfl (Or.inl (lwG_in (by decide +kernel) rfl)) he6 (Nat.le_of_ble_eq_true rfl) (show decode rk_C 387 = .ok (.invokevirtual 149, 3) by decide +kernel) (r_init3 0 hI6) (fun o7 S7 hp7 hn7 H7 locs7 hP7 hS7 hz7 hk7 => ?_)
  obtain ⟨rfl, hI7⟩ := hp7
  have hD7 := pv_D_len hD6 hn7
  refine W.eq (g2 := F0 m 390 ls []) rfl ?_
  exact W.vret hx hb hr (fun t ht _ => ⟨⟨ad3, rfl, z3, S7, hI7, by rw [ht]; exact hP7, hD7⟩, hS7.F ht⟩) hS7.2.2 (show decode rk_C 390 = .ok (.return_, 1) by decide +kernel)
