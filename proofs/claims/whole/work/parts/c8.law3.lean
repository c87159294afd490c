/-! the law, from its entry -/
theorem kn_all {s : State} (cl : List vw_C) (h : ∀ (k : Nat) (q : vw_C), cl[k]? = some q → ∃ (cC : ClassId) (iS : Nat → Nat), u_Kn s q.1 q.2.1 q.2.2 cC iS) : ∃ D : va_G, ∀ (k : Nat) (q : vw_C), cl[k]? = some q → u_Kn s q.1 q.2.1 q.2.2 (D.1 k) (D.2 k) := by
  have g : ∀ k : Nat, ∃ d : ClassId × (Nat → Nat), ∀ q : vw_C, cl[k]? = some q → u_Kn s q.1 q.2.1 q.2.2 d.1 d.2 := by
    intro k
    cases hk : cl[k]? with
    | none => exact ⟨(0, fun _ => 0), fun q hq => by cases hq⟩
    | some q =>
      obtain ⟨cC, iS, hu⟩ := h k q hk
      exact ⟨(cC, iS), fun q' hq' => by cases hq'; exact hu⟩
  exact ⟨(fun k => (Classical.choose (g k)).1, fun k => (Classical.choose (g k)).2), fun k q hq => Classical.choose_spec (g k) q hq⟩
theorem kn_arr {s : State} {args : Array Value} {ty : FieldType} (h : (Cond.arrayClass ty).before args s = true) : ∃ k : ClassId, ArrOfT s k ty ∧ s.vm.findClass ("[" ++ ty.toString) = some k := by
  obtain ⟨k, kA, comp, h1, h2, h3⟩ := Cond.arrayClass_spec h
  exact ⟨k, fun n z => ⟨fun k h => (by cases h), kA, h2, comp, h3⟩, h1⟩
theorem kin_cq : ∀ (k : Nat) (q : vw_C), cq_cl[k]? = some q → Cond.instantiable q.1 q.2.2 ∈ lw_tbl := by
  intro k q hq
  match k, hq with
  | 0, hq => cases hq; decide +kernel
  | 1, hq => cases hq; decide +kernel
  | 2, hq => cases hq; decide +kernel
  | 3, hq => cases hq; decide +kernel
  | 4, hq => cases hq; decide +kernel
  | 5, hq => cases hq; decide +kernel
  | 6, hq => cases hq; decide +kernel
  | k + 7, hq => cases hq
theorem kin_rq : ∀ (k : Nat) (q : vw_C), rq_cl[k]? = some q → Cond.instantiable q.1 q.2.2 ∈ lw_tbl := by
  intro k q hq
  match k, hq with
  | 0, hq => cases hq; decide +kernel
  | k + 1, hq => cases hq
theorem kcd_A : Cond.code ky_A kc_A 1 none ∈ lwG := lwG_in (cq_tb1 (List.mem_of_getElem? (i := 16) rfl)) rfl
theorem kcd_M : Cond.code ky_M rk_C 1 none ∈ lwG := lwG_in (cq_tb3 (List.mem_of_getElem? (i := 229) rfl)) rfl
theorem kdf_A : ∀ j, j < 9 → defaultValue (cq_ty 0 j) = vp_V kf_A j := by
  intro j hj
  rcases (show j = 0 ∨ j = 1 ∨ j = 2 ∨ j = 3 ∨ j = 4 ∨ j = 5 ∨ j = 6 ∨ j = 7 ∨ j = 8 by omega) with rfl | rfl | rfl | rfl | rfl | rfl | rfl | rfl | rfl <;> rfl
theorem kdf_M : ∀ j, j < 62 → defaultValue (rq_ty 0 j) = vp_V kf_M j := by
  intro j hj
  exact match j, hj with
  | 0, _ => rfl
  | 1, _ => rfl
  | 2, _ => rfl
  | 3, _ => rfl
  | 4, _ => rfl
  | 5, _ => rfl
  | 6, _ => rfl
  | 7, _ => rfl
  | 8, _ => rfl
  | 9, _ => rfl
  | 10, _ => rfl
  | 11, _ => rfl
  | 12, _ => rfl
  | 13, _ => rfl
  | 14, _ => rfl
  | 15, _ => rfl
  | 16, _ => rfl
  | 17, _ => rfl
  | 18, _ => rfl
  | 19, _ => rfl
  | 20, _ => rfl
  | 21, _ => rfl
  | 22, _ => rfl
  | 23, _ => rfl
  | 24, _ => rfl
  | 25, _ => rfl
  | 26, _ => rfl
  | 27, _ => rfl
  | 28, _ => rfl
  | 29, _ => rfl
  | 30, _ => rfl
  | 31, _ => rfl
  | 32, _ => rfl
  | 33, _ => rfl
  | 34, _ => rfl
  | 35, _ => rfl
  | 36, _ => rfl
  | 37, _ => rfl
  | 38, _ => rfl
  | 39, _ => rfl
  | 40, _ => rfl
  | 41, _ => rfl
  | 42, _ => rfl
  | 43, _ => rfl
  | 44, _ => rfl
  | 45, _ => rfl
  | 46, _ => rfl
  | 47, _ => rfl
  | 48, _ => rfl
  | 49, _ => rfl
  | 50, _ => rfl
  | 51, _ => rfl
  | 52, _ => rfl
  | 53, _ => rfl
  | 54, _ => rfl
  | 55, _ => rfl
  | 56, _ => rfl
  | 57, _ => rfl
  | 58, _ => rfl
  | 59, _ => rfl
  | 60, _ => rfl
  | 61, _ => rfl
  | j + 62, h => absurd h (by omega)
set_option maxHeartbeats 8000000 in
set_option maxRecDepth 100000 in
theorem whole_start {p : Program} {e : Env} {s : State} {m : MethodId} {below : List Frame} {meth : Method} {c : Code} (l : Launch) {b L : Nat} {xs : Nat → Int32} (hL : L ≤ 2048) (C0 : lw_At p s m meth c b L xs) : W p l e room_1 s m #[Value.ref b] below meth c s.heap [] 0 0 (lw_Z below #[Value.ref b] s) (entryFrame m ([Value.ref b] : List Value).toArray 4) := by
  obtain ⟨hx, hb, hr, hml, hown, hts, hX, hbl, hlocks, hgv⟩ := id C0
  have hown : s.vm.findClass "AssignFlowLaw" = some m.cls := hown
  obtain ⟨D1, hKc1⟩ := kn_all (s := s) cq_cl (fun k q hq => u_known hts (fun w hw => cq_Ts_in w ((cq_okC k q.1 q.2.1 q.2.2 hq).1 w hw)) (hts _ (kin_cq k q hq)))
  obtain ⟨D2, hKc2⟩ := kn_all (s := s) rq_cl (fun k q hq => u_known hts (fun w hw => rq_Ts_in w ((rq_okC k q.1 q.2.1 q.2.2 hq).1 w hw)) (hts _ (kin_rq k q hq)))
  obtain ⟨k0, ha0, hb0⟩ := kn_arr (hts (.arrayClass .int) (by decide +kernel))
  obtain ⟨k1, ha1, hb1⟩ := kn_arr (hts (.arrayClass .byte) (by decide +kernel))
  obtain ⟨k2, ha2, hb2⟩ := kn_arr (hts (.arrayClass .boolean) (by decide +kernel))
  obtain ⟨k3, ha3, hb3⟩ := kn_arr (hts (.arrayClass .long) (by decide +kernel))
  obtain ⟨cA, hcA⟩ : ∃ cA : Nat → Nat, cA 0 = k0 ∧ cA 1 = k1 ∧ cA 2 = k2 ∧ cA 3 = k3 := ⟨fun k => [k0, k1, k2, k3].getD k 0, rfl, rfl, rfl, rfl⟩
  have hty : ∀ (k : Nat) (q : ClassId × FieldType), (pv_tys cA)[k]? = some q → ArrOfT s q.1 q.2 ∧ va_RA s q.1 q.2 := by
    intro k q hq
    unfold pv_tys at hq
    rw [hcA.1, hcA.2.1, hcA.2.2.1, hcA.2.2.2] at hq
    match k, hq with
    | 0, hq => cases hq; exact ⟨ha0, hb0⟩
    | 1, hq => cases hq; exact ⟨ha1, hb1⟩
    | 2, hq => cases hq; exact ⟨ha2, hb2⟩
    | 3, hq => cases hq; exact ⟨ha3, hb3⟩
    | k + 4, hq => cases hq
  have hK1 : va_K D1 cq_cl (pv_tys cA) s := ⟨hKc1, hty⟩
  have hK2 : va_K D2 rq_cl (pv_tys cA) s := ⟨hKc2, hty⟩
  have hnw : ∀ w ∈ cq_NW ++ kw_N, va_Nw w s := fun w h => va_Nw.of (isN_on (kw_isN w h)) (hts w ((List.mem_append.mp h).elim (cq_inN w) (kw_Nin w)))
  have hS : va_S (fun q : Nat => s.heap.size ≤ q) s.heap s.heap [] := va_S.rf
  have hA : ∀ q : Nat, s.heap.size ≤ q → (fun q : Nat => s.heap.size ≤ q) q := fun _ h => h
  have hP : va_P D1 cq_cl [] s.heap := fun k q h => by simp at h
  have hD : va_D (fun q : Nat => s.heap.size ≤ q) [] := ⟨fun i j p q h => by simp at h, fun k q h => by simp at h⟩
  have hl := lv_entry ([.ref b]) (n := 4) (Nat.le_of_ble_eq_true rfl)
  rw [lg_entry_eq]
  generalize (lg_sl ([.ref b]) ++ List.replicate (4 - (lg_sl ([.ref b])).length) Slot.unset).toArray = ls at hl ⊢
  have hl : lv_has ls 4 [(0, .ref b)] := hl
  refine va_new (ci := 0) (fs := kf_A) (C := "AssignFlow") (T := cq_F0) (N := 9) hx hb hts (fun w hw => cq_Ts_in w ((cq_okC 0 "AssignFlow" cq_F0 9 rfl).1 w hw)) (cq_ty 0) (cq_okC 0 "AssignFlow" cq_F0 9 rfl).2.1 hown (hts (.classLink "AssignFlowLaw" 7 "AssignFlow") (by decide +kernel)) (hts (.instantiable "AssignFlow" 9) (by decide +kernel)) (hts (.initialized "AssignFlow") (by decide +kernel)) hK1 hP hD hS hA rfl kdf_A (Nat.le_of_ble_eq_true rfl) (Nat.le_of_ble_eq_true rfl) (show decode code 0 = .ok (.new 7, 3) by decide +kernel) (fun q1 H1 hP1 hD1 hS1 => ?_)
  refine lv_dup hx hb (show decode code 3 = .ok (.dup, 1) by decide +kernel) rfl ?_
  have hP1 : va_P D1 cq_cl [(q1, .inr (0, kf_A))] H1 := hP1
  have hFc1 : ∀ q, va_A [(q1, .inr (0, kf_A))] H1.size q → s.heap.size ≤ q := by
    intro q h
    rcases h with ⟨i, e, hi⟩ | h
    · exact hD1.2 i (q, e) hi
    · exact Nat.le_trans hS1.1 h
  refine va_callv (A1 := va_A [(q1, .inr (0, kf_A))] H1.size) (va_runI (As := []) (rest := [.ref q1]) ⟨hx, hb, hml, hown, hts⟩ (km_A l D1 cA q1 H1.size) ⟨callB_of 0 hts (gd_sub lwG_tbl lwG_good kcd_A) rfl rfl rfl (hts (.initialized "AssignFlow") (by decide +kernel)) (hts (.methodLink "AssignFlowLaw" 9 ky_A) (by decide +kernel)) (by decide +kernel) ⟨Nat.le_of_ble_eq_true rfl, Nat.le_of_ble_eq_true rfl⟩, rfl, hts (.instanceMethod ky_A) (by decide +kernel)⟩ ⟨fun a U g mk h => ?_, fun U hU hW => ⟨rfl, ⟨by rw [hU], by rw [hU]; exact hP1, va_K.moved hW.alike hK1⟩, pv_warm kw_isN hW hnw⟩⟩ rfl rfl hl.1 rfl (lv_room (Nat.le_of_ble_eq_true rfl)) (show decode code 4 = .ok (.invokespecial 9, 3) by decide +kernel) ⟨Nat.le_of_ble_eq_true rfl, Nat.le_of_ble_eq_true rfl⟩) hS1 (fun q _ h => hFc1 q h) hFc1 (fun a1 t H2 locs2 ht hvm hp1 hB1 hz2 hk2 hS2 => ?_)
  · obtain ⟨z0, ⟨z1, z2, z3⟩, z4⟩ := h
    exact ⟨z0, ⟨z1, z2, va_K.moved (u := U) (U := U.calling g mk a) (Vm.Alike.refl U.vm) z3⟩, fun w hw => va_Nw.same (u := U) (U := U.calling g mk a) (isN_on (kw_isN w hw)) rfl (z4 w hw)⟩
  obtain ⟨Sc, hC, hP2, hD2⟩ := hB1
  rw [ht] at hP2
  have hD2 : va_D (fun q : Nat => s.heap.size ≤ q) (pv_w cA a1 0 Sc) := hD2.weaken (fun k q _ h => hFc1 q.1 h)
  have hp1 : a1 0 = q1 := hp1
  refine lv_astore_n (lv' := [(1, .ref q1), (0, .ref b)]) hx hb (show decode code 7 = .ok (.astore_n 1, 1) by decide +kernel) rfl hl (by decide) rfl (fun ls hl => ?_)
  refine va_forget (fun q hq => hS2.2.2 q hq) ?_
  -- the reference: all that is new lies behind what is there
  have hPr : va_P D2 rq_cl [] H2 := fun k q h => by simp at h
  have hDr : va_D (fun q : Nat => H2.size ≤ q) [] := ⟨fun i j p q h => by simp at h, fun k q h => by simp at h⟩
  have hSr : va_S (fun q : Nat => H2.size ≤ q) H2 H2 [] := va_S.rf
  have hAr : ∀ q : Nat, H2.size ≤ q → (fun q : Nat => H2.size ≤ q) q := fun _ h => h
  refine W.widen (k := 100) (n := 10000) (Nat.le_of_ble_eq_true rfl) (Nat.le_of_ble_eq_true rfl) ?_
  refine va_new (ci := 0) (fs := kf_M) (C := "AssignFlowModel") (T := rq_F0) (N := 62) hx hb hts (fun w hw => rq_Ts_in w ((rq_okC 0 "AssignFlowModel" rq_F0 62 rfl).1 w hw)) (rq_ty 0) (rq_okC 0 "AssignFlowModel" rq_F0 62 rfl).2.1 hown (hts (.classLink "AssignFlowLaw" 10 "AssignFlowModel") (by decide +kernel)) (hts (.instantiable "AssignFlowModel" 62) (by decide +kernel)) (hts (.initialized "AssignFlowModel") (by decide +kernel)) hK2 hPr hDr hSr hAr rfl kdf_M (Nat.le_of_ble_eq_true rfl) (Nat.le_of_ble_eq_true rfl) (show decode code 8 = .ok (.new 10, 3) by decide +kernel) (fun q2 H3 hP3 hD3 hS3 => ?_)
  refine lv_dup hx hb (show decode code 11 = .ok (.dup, 1) by decide +kernel) rfl ?_
  have hP3 : va_P D2 rq_cl [(q2, .inr (0, kf_M))] H3 := hP3
  have hFc3 : ∀ q, va_A [(q2, .inr (0, kf_M))] H3.size q → H2.size ≤ q := by
    intro q h
    rcases h with ⟨i, e, hi⟩ | h
    · exact hD3.2 i (q, e) hi
    · exact Nat.le_trans hS3.1 h
  refine va_callv (A0 := fun q : Nat => H2.size ≤ q) (A1 := va_A [(q2, .inr (0, kf_M))] H3.size) (va_runI (As := []) (rest := [.ref q2]) ⟨hx, hb, hml, hown, hts⟩ (km_M l D2 cA q2 H3.size) ⟨callB_of 0 hts (gd_sub lwG_tbl lwG_good kcd_M) rfl rfl rfl (hts (.initialized "AssignFlowModel") (by decide +kernel)) (hts (.methodLink "AssignFlowLaw" 12 ky_M) (by decide +kernel)) (by decide +kernel) ⟨Nat.le_of_ble_eq_true rfl, Nat.le_of_ble_eq_true rfl⟩, rfl, hts (.instanceMethod ky_M) (by decide +kernel)⟩ ⟨fun a U g mk h => ?_, fun U hU hW => ⟨rfl, by rw [hU], by rw [hU]; exact hP3, va_K.moved hW.alike hK2⟩⟩ rfl rfl hl.1 rfl (lv_room (Nat.le_of_ble_eq_true rfl)) (show decode code 12 = .ok (.invokespecial 12, 3) by decide +kernel) ⟨Nat.le_of_ble_eq_true rfl, Nat.le_of_ble_eq_true rfl⟩) hS3 (fun q _ h => hFc3 q h) hFc3 (fun a2 t4 H4 locs4 ht4 hvm4 hp4 hB4 hz4 hk4 hS4 => ?_)
  · obtain ⟨z0, z1, z2, z3⟩ := h
    exact ⟨z0, z1, z2, va_K.moved (u := U) (U := U.calling g mk a) (Vm.Alike.refl U.vm) z3⟩
  obtain ⟨Sr, hR, hP4, hD4⟩ := hB4
  rw [ht4] at hP4
  have hD4 : va_D (fun q : Nat => H2.size ≤ q) (pv_w cA a2 0 Sr) := hD4.weaken (fun k q _ h => hFc3 q.1 h)
  have hp4 : a2 0 = q2 := hp4
  refine lv_astore_n (lv' := [(2, .ref q2), (1, .ref q1), (0, .ref b)]) hx hb (show decode code 15 = .ok (.astore_n 2, 1) by decide +kernel) rfl hl (by decide) rfl (fun ls hl => ?_)
  refine lv_iconst (v := 0) hx hb (show decode code 16 = .ok (.iconst 0, 1) by decide +kernel) (by decide) ?_
  refine lv_istore_n (lv' := [(3, .int 0), (2, .ref q2), (1, .ref q1), (0, .ref b)]) hx hb (show decode code 17 = .ok (.istore_n 3, 1) by decide +kernel) rfl hl (by decide) rfl (fun ls hl => ?_)
  refine W.widen (k := 600000) (n := 7302250) (Nat.le_of_ble_eq_true rfl) (Nat.le_of_ble_eq_true rfl) ?_
  have hs2 : s.heap.size ≤ H2.size := hS2.1
  have hP1' : va_P D1 cq_cl (pv_w cA a1 0 Sc) H4 := hP2.kept (fun k x hk => hS4.2.1 x.1 (hP2 k x hk).lt (Nat.not_le.mpr (hP2 k x hk).lt))
  have hap : ∀ i, i < Sc.length → ∀ j, j < Sr.length → a1 i ≠ a2 j := by
    intro i hi j hj h
    have h1 := (hP2 i _ (pv_w_0 cA a1 (List.getElem?_eq_getElem hi))).lt
    have h2 := hD4.2 j _ (pv_w_0 cA a2 (List.getElem?_eq_getElem hj))
    have h1 : a1 i < H2.size := h1
    have h2 : H2.size ≤ a2 j := h2
    omega
  have hS5 : va_S (fun q : Nat => s.heap.size ≤ q) s.heap H4 locs4 := ⟨Nat.le_trans hs2 hS4.1, fun q h1 h2 => (hS4.2.1 q (Nat.lt_of_lt_of_le h1 hs2) (Nat.not_le.mpr (Nat.lt_of_lt_of_le h1 hs2))).trans (hS2.2.1 q h1 h2), fun q hq => Nat.le_trans hs2 (hS4.2.2 q hq)⟩
  refine lw_loop hL C0 hK1 hK2 (L + 1) 0 (Nat.zero_le L) (by omega) H4 locs4 Sc Sr ls ?_ ⟨⟨⟨hP1', hD2⟩, hP4, hD4.weaken (fun k q _ h => Nat.le_trans hs2 h)⟩, hap, hS5, 0, 0, .nil, [], -1, fun _ => 0, hC, ?_⟩
  · rw [hp1, hp4, nI_0]
    exact lv_sub hl [3, 2, 1, 0] rfl
  · have e : r_tx km_a = fun _ => 0 := by
      funext i
      show (0 : Int32) &&& 255 = 0
      decide +kernel
    rw [← e]
    exact hR
set_option maxHeartbeats 4000000 in
theorem lw_walk (l : Launch) (b : Addr) (xs : List Int32) : MetFree l x (headSpec (Jvm.Cond.code x code maxLocals ret :: tables_1) room_1) (lw_P b xs) (fun _ _ _ _ _ => True) lw_Q := by
  refine MetFree.of_bodyS (code := code) (maxLocals := maxLocals) (ret := ret) (by decide) ?_ ?_
  · intro args s m h hn
    obtain ⟨meth, c, h1, h2, h3, h4, h5, h6, -, -⟩ := Cond.code_spec hn (atoms_spec (ws := Jvm.Cond.code x code maxLocals ret :: tables_1) h _ List.mem_cons_self)
    exact ⟨meth, c, h1, h2, h3, h4, h5, h6⟩
  · intro p e s m args below meth c s₁ B hml0 hP _
    obtain ⟨rfl, hx, hbd, hgv⟩ := hP
    obtain ⟨scr, harrAt, hlist, hof, hsmall⟩ := hx
    obtain ⟨hcb, hkn, -, -⟩ := State.arrayAt?_spec harrAt
    have hown : s.vm.findClass R_law = some m.cls := findClass_of_methodNamed B.named
    have hts0 : ∀ c ∈ (Jvm.Cond.code x code maxLocals ret :: tables_1), c.before #[Value.ref b] s = true := atoms_spec (ws := Jvm.Cond.code x code maxLocals ret :: tables_1) B.pre
    have hts : ∀ w ∈ lw_tbl, w.before #[Value.ref b] s = true := k2_hts_sels lw_privs (fun w hw => hts0 w (List.mem_cons_of_mem _ hw)) lw_privs_ok
    have hml : c.maxLocals = 4 := B.maxLocals_eq (hts0 _ List.mem_cons_self)
    have X₀ : Stand p l e room_1 s m #[Value.ref b] below meth c s₁ [] 0 0 := Stand.of_body B
    have hh0 : s₁.heap = s.heap := by rw [B.state]; rfl
    have hsz : scr.slots.size = xs.length := by rw [← Array.length_toList, hlist, List.length_map]
    have hval : ∀ j : Nat, j < xs.length → scr.slots[j]? = some (.int (xs.getD j 0)) := fun j hj => by
      rw [← Array.getElem?_toList, hlist]
      simp [hj]
    have hbl : b < s.heap.size := (Array.getElem?_eq_some_iff.mp hcb).1
    have hX : va_X b xs.length (fun j => xs.getD j 0) s s.heap := ⟨scr, hcb, hof, hkn, hsz, hval⟩
    have K : W p l e room_1 s m #[Value.ref b] below meth c s₁.heap [] 0 0 (lw_Z below #[Value.ref b] s) (entryFrame m ([Value.ref b] : List Value).toArray 4) := by
      rw [hh0]
      exact whole_start l hbd ⟨B.exec, B.bytes, B.returns, hml, hown, hts, hX, hbl, B.notSynchronized, hgv⟩
    obtain ⟨t, a1, o, b1, b2, b3⟩ := K s₁ rfl X₀
    exact ⟨t, o, a1, b1, b2, b3⟩
theorem lw_pre_spec {args : Array Value} {s : State} (h : (Jvm.Cond.and given_1 narrow_1).before args s = true) (hr : rest_1_c.before args s = true) : ∃ (b : Addr) (xs : List Int32), lw_P b xs args s := by
  have hs := flat_of_before _ h
  have hq := flat_of_before _ hr
  have hc : (Cond.count 1).before args s = true := hs _ (by decide +kernel)
  have harr : (Cond.arrayOf (.arg 0) .int).before args s = true := hs _ (by decide +kernel)
  have hle : (Cond.le (.length (.arg 0)) (.int 2048)).before args s = true := hs _ (by decide +kernel)
  have hlen : (Cond.isInt (.length (.arg 0))).before args s = true := hq _ (by decide +kernel)
  have hall : (Cond.all (.arg 0) (.isInt (.elem (.arg 0) (.index 0)))).before args s = true := hq _ (by decide +kernel)
  obtain ⟨b, xs, hb, hx⟩ := State.ints_of_pre rfl harr hlen hall
  have hsm : xs.length < 2 ^ 31 := hx.choose_spec.2.2.2
  have hev : (Term.length (.arg 0)).eval args s none [] s = some (.int xs.length.toInt32) := hx.length_eval hb
  have hv := Cond.le_ints hev (show (Term.int 2048).eval args s none [] s = some (.int 2048) from rfl)
  have hd : xs.length.toInt32 ≤ 2048 := by
    simpa [Cond.before, Cond.holds, hv] using hle
  have hN : xs.length ≤ 2048 := (Int32.ofNat_le_ofNat hsm (by decide)).mp (show Int32.ofNat xs.length ≤ Int32.ofNat 2048 from hd)
  exact ⟨b, xs, Cond.one_arg hc (show args[0]? = some (.ref b) from hb), hx, hN, h⟩
theorem lw_comes (l : Launch) : Comes l x (Jvm.Cond.code x code maxLocals ret :: tables_1) room_1 (fun tb e args s => Calls_1 tb e args s ∧ rest_1 tb e args s ∧ Pre_1 tb e args s)
    (fun _ _ args s o t => lw_Q args s o t) := by
  intro p e ha hc hk s m args below hf hfit hheap happ hpre
  obtain ⟨b, xs, hP⟩ := lw_pre_spec hpre.2.2 hpre.2.1
  obtain ⟨k, o, h1, h2, h3, hQ⟩ := lw_walk l b xs p e ha hc hk s m args below hf ((Spec.applies_iff_loose hf).mp happ).1 hP trivial
  exact ⟨k, o, h1, h2, h3, hQ⟩
theorem lw_frame {s t : State} {o : Outcome} {args : Array Value} (h : Framed s o t [] 600000 7302250) :
    Framed s o t (fieldLocs frame_1_writes args s ++ arrayLocs frame_1_arrays args s ++ staticLocs frame_1_statics s) 600000 7302250 := h
theorem lw_limb (L : Cond) (hL : ∀ (args : Array Value) (s t : State), L.after args s (.returned (some (.int 1))) t = true) :
    ArmFor flags0 classFile x code maxLocals ret World_1 tables_1 room_1 Calls_1 rest_1 Pre_1
      (fun tb e a s o t => postC L tb e a s o t ∧ Framed s o t (fieldLocs frame_1_writes a s ++ arrayLocs frame_1_arrays a s ++ staticLocs frame_1_statics s) 600000 7302250) := by
  intro l _ _ _ p e ha hc hk s m args below hf hfit hheap happ hpre
  obtain ⟨k, o, h1, h2, h3, rfl, hF⟩ := lw_comes l p e ha hc hk s m args below hf hfit hheap happ hpre
  exact ⟨k, _, h1, h2, h3, hL args s _, lw_frame hF⟩
theorem i_vc : Claimed_1_1 ∧ Claimed_1_2 := ⟨lw_limb limb_1_1 (fun args s t => by simp [limb_1_1, Cond.after, Cond.holds, Cond.value]), lw_limb limb_1_2 (fun args s t => Cond.after_iff.mpr (by
  first | (rw [show limb_1_2 = Cond.eq .result (.int 1) from rfl, Cond.eq_ints (x := 1) (y := 1) rfl rfl]; simp; done) | (simp [limb_1_2, Cond.value, Term.eval]; done)))⟩
