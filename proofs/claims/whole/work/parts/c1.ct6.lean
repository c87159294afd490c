/-! the constructors of the six classes within -/
abbrev kc_A : ByteArray := prog_1_method_1_code
abbrev ky_A : MethodName := ⟨"AssignFlow", "<init>", "()V"⟩
abbrev kd_A0 : ctD := ((3, 240, 240), (.int, 0), (0, 9))
theorem ks_A0 : ctS kc_A lwG "AssignFlow" cq_F0 9 (cq_ty 0) 4 kd_A0 := ⟨⟨by decide +kernel, Or.inr ⟨rfl, by decide +kernel, by decide +kernel⟩, by decide +kernel, by decide +kernel⟩, ⟨⟨by decide +kernel, by decide +kernel⟩, lwG_in (by decide +kernel) rfl, Or.inl ⟨rfl, rfl⟩⟩, ⟨by decide, lwG_in (by decide +kernel) rfl⟩, fun q => ⟨rfl, rfl⟩⟩
abbrev kL_A : List ctD := [kd_A0]
theorem kok_A : ctOK kc_A lwG "AssignFlow" cq_F0 9 (cq_ty 0) 4 kL_A := ⟨ks_A0, trivial⟩
abbrev ke_A0 : ctE := ((0, .int (0)), (1, 13))
theorem kp_A0 : ctU 0 kc_A lwG "AssignFlow" cq_F0 9 (cq_ty 0) 13 ke_A0 := ⟨⟨by decide +kernel, Or.inl ⟨0, 0, rfl, by decide +kernel, by decide +kernel⟩, by decide +kernel⟩, ⟨by decide, lwG_in (by decide +kernel) rfl⟩, fun _ => ⟨rfl, rfl⟩⟩
abbrev ke_A1 : ctE := ((0, .int (-1)), (2, 17))
theorem kp_A1 : ctU 0 kc_A lwG "AssignFlow" cq_F0 9 (cq_ty 0) 18 ke_A1 := ⟨⟨by decide +kernel, Or.inl ⟨-1, -1, rfl, by decide +kernel, by decide +kernel⟩, by decide +kernel⟩, ⟨by decide, lwG_in (by decide +kernel) rfl⟩, fun _ => ⟨rfl, rfl⟩⟩
abbrev kE_A : List ctE := [ke_A0, ke_A1]
theorem koe_A : ctOU 0 kc_A lwG "AssignFlow" cq_F0 9 (cq_ty 0) (ctPc 4 kL_A) kE_A := ⟨kp_A0, ⟨kp_A1, trivial⟩⟩
abbrev kf_A : List Value := [.null, .int 0, .int 0, .null, .null, .null, .null, .null, .null]
theorem kob_A : Cond.methodLink "AssignFlow" 3 objectInit ∈ lwG := lwG_in (by decide +kernel) rfl
theorem knr_A : ∀ k, Value.ref k ∈ kf_A → False := fun k h => by simp [kf_A] at h
abbrev kc_J : ByteArray := prog_2_method_1_code
abbrev ky_J : MethodName := ⟨"AssignFlow$Judge", "<init>", "(LAssignFlow$Places;LAssignFlow$Variables;LAssignFlow$Walks;)V"⟩
abbrev kd_J0 : ctD := ((3, 241, 241), (.int, 0), (3, 9))
theorem ks_J0 : ctS kc_J lwG "AssignFlow$Judge" cq_F1 5 (cq_ty 1) 4 kd_J0 := ⟨⟨by decide +kernel, Or.inr ⟨rfl, by decide +kernel, by decide +kernel⟩, by decide +kernel, by decide +kernel⟩, ⟨⟨by decide +kernel, by decide +kernel⟩, lwG_in (by decide +kernel) rfl, Or.inl ⟨rfl, rfl⟩⟩, ⟨by decide, lwG_in (by decide +kernel) rfl⟩, fun q => ⟨rfl, rfl⟩⟩
abbrev kL_J : List ctD := [kd_J0]
theorem kok_J : ctOK kc_J lwG "AssignFlow$Judge" cq_F1 5 (cq_ty 1) 4 kL_J := ⟨ks_J0, trivial⟩
abbrev ke_J0 : ctE := ((0, .int (0)), (4, 15))
theorem kp_J0 : ctU 3 kc_J lwG "AssignFlow$Judge" cq_F1 5 (cq_ty 1) 13 ke_J0 := ⟨⟨by decide +kernel, Or.inl ⟨0, 0, rfl, by decide +kernel, by decide +kernel⟩, by decide +kernel⟩, ⟨by decide, lwG_in (by decide +kernel) rfl⟩, fun _ => ⟨rfl, rfl⟩⟩
abbrev ke_J1 : ctE := ((1, .ref 51), (0, 19))
theorem kp_J1 : ctU 3 kc_J lwG "AssignFlow$Judge" cq_F1 5 (cq_ty 1) 18 ke_J1 := ⟨⟨by decide +kernel, Or.inr (Or.inr ⟨1, rfl, ⟨by decide, by decide⟩, rfl, by decide +kernel⟩), by decide +kernel⟩, ⟨by decide, lwG_in (by decide +kernel) rfl⟩, fun _ => ⟨rfl, rfl⟩⟩
abbrev ke_J2 : ctE := ((2, .ref 52), (1, 23))
theorem kp_J2 : ctU 3 kc_J lwG "AssignFlow$Judge" cq_F1 5 (cq_ty 1) 23 ke_J2 := ⟨⟨by decide +kernel, Or.inr (Or.inr ⟨2, rfl, ⟨by decide, by decide⟩, rfl, by decide +kernel⟩), by decide +kernel⟩, ⟨by decide, lwG_in (by decide +kernel) rfl⟩, fun _ => ⟨rfl, rfl⟩⟩
abbrev ke_J3 : ctE := ((3, .ref 53), (2, 27))
theorem kp_J3 : ctU 3 kc_J lwG "AssignFlow$Judge" cq_F1 5 (cq_ty 1) 28 ke_J3 := ⟨⟨by decide +kernel, Or.inr (Or.inr ⟨3, rfl, ⟨by decide, by decide⟩, rfl, by decide +kernel⟩), by decide +kernel⟩, ⟨by decide, lwG_in (by decide +kernel) rfl⟩, fun _ => ⟨rfl, rfl⟩⟩
abbrev kE_J : List ctE := [ke_J0, ke_J1, ke_J2, ke_J3]
theorem koe_J : ctOU 3 kc_J lwG "AssignFlow$Judge" cq_F1 5 (cq_ty 1) (ctPc 4 kL_J) kE_J := ⟨kp_J0, ⟨kp_J1, ⟨kp_J2, ⟨kp_J3, trivial⟩⟩⟩⟩
abbrev kf_J : List Value := [.null, .null, .null, .null, .int 0]
theorem kob_J : Cond.methodLink "AssignFlow$Judge" 3 objectInit ∈ lwG := lwG_in (by decide +kernel) rfl
theorem knr_J : ∀ k, Value.ref k ∈ kf_J → False := fun k h => by simp [kf_J] at h
theorem km_J (l : Launch) (D : va_G) (cA : Nat → Nat) (o1 o2 o3 : Nat) (h0 sz : Nat) : Met l ky_J (pv_ws lwG ky_J kc_J 4 none) { frames := 1, cells := 1, slots := 241, locals := 12 } (va_Pc (.ref h0 :: [.ref o1, .ref o2, .ref o3]) (fun U => U.heap.size = sz ∧ va_P D cq_cl [(h0, .inr (1, kf_J))] U.heap ∧ va_K D cq_cl (pv_tys cA) U)) (va_Qv (fun ad : Nat → Nat => ad 0 = h0 ∧ ∀ k, 1 ≤ k → k ≤ 3 → ad (50 + k) = (fun k => if k = 1 then o1 else if k = 2 then o2 else o3) k) (fun ad t => va_P D cq_cl (pv_w cA ad 0 (.inr (1, ctG (ctF kf_J 1 kL_J) kE_J) :: ctA kL_J)) t.heap ∧ va_D (va_A [(h0, .inr (1, kf_J))] sz) (pv_w cA ad 0 (.inr (1, ctG (ctF kf_J 1 kL_J) kE_J) :: ctA kL_J))) (va_A [(h0, .inr (1, kf_J))] sz)) 1 241 (va_A [(h0, .inr (1, kf_J))] sz) := ct_leaf cq_okG (y := ky_J) (a1 := 1) rfl (by decide +kernel) rfl kob_J (by decide +kernel) (by decide +kernel) kok_J koe_J (by decide +kernel) rfl knr_J (by decide) (fun k => if k = 1 then o1 else if k = 2 then o2 else o3) [.ref o1, .ref o2, .ref o3] h0 sz (fun k h1 h2 => by rcases (show k = 1 ∨ k = 2 ∨ k = 3 by omega) with rfl | rfl | rfl <;> rfl) (Nat.le_of_ble_eq_true rfl) rfl (by decide +kernel)
abbrev kc_P : ByteArray := prog_3_method_1_code
abbrev ky_P : MethodName := ⟨"AssignFlow$Places", "<init>", "()V"⟩
abbrev kd_P0 : ctD := ((3, 241, 241), (.int, 0), (0, 9))
theorem ks_P0 : ctS kc_P lwG "AssignFlow$Places" cq_F2 16 (cq_ty 2) 4 kd_P0 := ⟨⟨by decide +kernel, Or.inr ⟨rfl, by decide +kernel, by decide +kernel⟩, by decide +kernel, by decide +kernel⟩, ⟨⟨by decide +kernel, by decide +kernel⟩, lwG_in (by decide +kernel) rfl, Or.inl ⟨rfl, rfl⟩⟩, ⟨by decide, lwG_in (by decide +kernel) rfl⟩, fun q => ⟨rfl, rfl⟩⟩
abbrev kd_P1 : ctD := ((3, 241, 241), (.int, 0), (1, 15))
theorem ks_P1 : ctS kc_P lwG "AssignFlow$Places" cq_F2 16 (cq_ty 2) 13 kd_P1 := ⟨⟨by decide +kernel, Or.inr ⟨rfl, by decide +kernel, by decide +kernel⟩, by decide +kernel, by decide +kernel⟩, ⟨⟨by decide +kernel, by decide +kernel⟩, lwG_in (by decide +kernel) rfl, Or.inl ⟨rfl, rfl⟩⟩, ⟨by decide, lwG_in (by decide +kernel) rfl⟩, fun q => ⟨rfl, rfl⟩⟩
abbrev kd_P2 : ctD := ((3, 241, 241), (.int, 0), (2, 18))
theorem ks_P2 : ctS kc_P lwG "AssignFlow$Places" cq_F2 16 (cq_ty 2) 22 kd_P2 := ⟨⟨by decide +kernel, Or.inr ⟨rfl, by decide +kernel, by decide +kernel⟩, by decide +kernel, by decide +kernel⟩, ⟨⟨by decide +kernel, by decide +kernel⟩, lwG_in (by decide +kernel) rfl, Or.inl ⟨rfl, rfl⟩⟩, ⟨by decide, lwG_in (by decide +kernel) rfl⟩, fun q => ⟨rfl, rfl⟩⟩
abbrev kd_P3 : ctD := ((3, 241, 241), (.int, 0), (3, 21))
theorem ks_P3 : ctS kc_P lwG "AssignFlow$Places" cq_F2 16 (cq_ty 2) 31 kd_P3 := ⟨⟨by decide +kernel, Or.inr ⟨rfl, by decide +kernel, by decide +kernel⟩, by decide +kernel, by decide +kernel⟩, ⟨⟨by decide +kernel, by decide +kernel⟩, lwG_in (by decide +kernel) rfl, Or.inl ⟨rfl, rfl⟩⟩, ⟨by decide, lwG_in (by decide +kernel) rfl⟩, fun q => ⟨rfl, rfl⟩⟩
abbrev kd_P4 : ctD := ((3, 241, 241), (.int, 0), (4, 24))
theorem ks_P4 : ctS kc_P lwG "AssignFlow$Places" cq_F2 16 (cq_ty 2) 40 kd_P4 := ⟨⟨by decide +kernel, Or.inr ⟨rfl, by decide +kernel, by decide +kernel⟩, by decide +kernel, by decide +kernel⟩, ⟨⟨by decide +kernel, by decide +kernel⟩, lwG_in (by decide +kernel) rfl, Or.inl ⟨rfl, rfl⟩⟩, ⟨by decide, lwG_in (by decide +kernel) rfl⟩, fun q => ⟨rfl, rfl⟩⟩
abbrev kd_P5 : ctD := ((3, 241, 241), (.int, 0), (5, 27))
theorem ks_P5 : ctS kc_P lwG "AssignFlow$Places" cq_F2 16 (cq_ty 2) 49 kd_P5 := ⟨⟨by decide +kernel, Or.inr ⟨rfl, by decide +kernel, by decide +kernel⟩, by decide +kernel, by decide +kernel⟩, ⟨⟨by decide +kernel, by decide +kernel⟩, lwG_in (by decide +kernel) rfl, Or.inl ⟨rfl, rfl⟩⟩, ⟨by decide, lwG_in (by decide +kernel) rfl⟩, fun q => ⟨rfl, rfl⟩⟩
abbrev kd_P6 : ctD := ((3, 241, 241), (.int, 0), (6, 30))
theorem ks_P6 : ctS kc_P lwG "AssignFlow$Places" cq_F2 16 (cq_ty 2) 58 kd_P6 := ⟨⟨by decide +kernel, Or.inr ⟨rfl, by decide +kernel, by decide +kernel⟩, by decide +kernel, by decide +kernel⟩, ⟨⟨by decide +kernel, by decide +kernel⟩, lwG_in (by decide +kernel) rfl, Or.inl ⟨rfl, rfl⟩⟩, ⟨by decide, lwG_in (by decide +kernel) rfl⟩, fun q => ⟨rfl, rfl⟩⟩
abbrev kd_P7 : ctD := ((3, 241, 241), (.int, 0), (7, 33))
theorem ks_P7 : ctS kc_P lwG "AssignFlow$Places" cq_F2 16 (cq_ty 2) 67 kd_P7 := ⟨⟨by decide +kernel, Or.inr ⟨rfl, by decide +kernel, by decide +kernel⟩, by decide +kernel, by decide +kernel⟩, ⟨⟨by decide +kernel, by decide +kernel⟩, lwG_in (by decide +kernel) rfl, Or.inl ⟨rfl, rfl⟩⟩, ⟨by decide, lwG_in (by decide +kernel) rfl⟩, fun q => ⟨rfl, rfl⟩⟩
abbrev kd_P8 : ctD := ((3, 241, 241), (.int, 0), (8, 36))
theorem ks_P8 : ctS kc_P lwG "AssignFlow$Places" cq_F2 16 (cq_ty 2) 76 kd_P8 := ⟨⟨by decide +kernel, Or.inr ⟨rfl, by decide +kernel, by decide +kernel⟩, by decide +kernel, by decide +kernel⟩, ⟨⟨by decide +kernel, by decide +kernel⟩, lwG_in (by decide +kernel) rfl, Or.inl ⟨rfl, rfl⟩⟩, ⟨by decide, lwG_in (by decide +kernel) rfl⟩, fun q => ⟨rfl, rfl⟩⟩
abbrev kd_P9 : ctD := ((3, 241, 241), (.int, 0), (9, 39))
theorem ks_P9 : ctS kc_P lwG "AssignFlow$Places" cq_F2 16 (cq_ty 2) 85 kd_P9 := ⟨⟨by decide +kernel, Or.inr ⟨rfl, by decide +kernel, by decide +kernel⟩, by decide +kernel, by decide +kernel⟩, ⟨⟨by decide +kernel, by decide +kernel⟩, lwG_in (by decide +kernel) rfl, Or.inl ⟨rfl, rfl⟩⟩, ⟨by decide, lwG_in (by decide +kernel) rfl⟩, fun q => ⟨rfl, rfl⟩⟩
abbrev kd_P10 : ctD := ((3, 241, 241), (.int, 0), (10, 42))
theorem ks_P10 : ctS kc_P lwG "AssignFlow$Places" cq_F2 16 (cq_ty 2) 94 kd_P10 := ⟨⟨by decide +kernel, Or.inr ⟨rfl, by decide +kernel, by decide +kernel⟩, by decide +kernel, by decide +kernel⟩, ⟨⟨by decide +kernel, by decide +kernel⟩, lwG_in (by decide +kernel) rfl, Or.inl ⟨rfl, rfl⟩⟩, ⟨by decide, lwG_in (by decide +kernel) rfl⟩, fun q => ⟨rfl, rfl⟩⟩
abbrev kd_P11 : ctD := ((3, 241, 241), (.int, 0), (11, 45))
theorem ks_P11 : ctS kc_P lwG "AssignFlow$Places" cq_F2 16 (cq_ty 2) 103 kd_P11 := ⟨⟨by decide +kernel, Or.inr ⟨rfl, by decide +kernel, by decide +kernel⟩, by decide +kernel, by decide +kernel⟩, ⟨⟨by decide +kernel, by decide +kernel⟩, lwG_in (by decide +kernel) rfl, Or.inl ⟨rfl, rfl⟩⟩, ⟨by decide, lwG_in (by decide +kernel) rfl⟩, fun q => ⟨rfl, rfl⟩⟩
abbrev kd_P12 : ctD := ((3, 241, 241), (.boolean, 2), (12, 48))
theorem ks_P12 : ctS kc_P lwG "AssignFlow$Places" cq_F2 16 (cq_ty 2) 112 kd_P12 := ⟨⟨by decide +kernel, Or.inr ⟨rfl, by decide +kernel, by decide +kernel⟩, by decide +kernel, by decide +kernel⟩, ⟨⟨by decide +kernel, by decide +kernel⟩, lwG_in (by decide +kernel) rfl, Or.inr (Or.inr (Or.inl ⟨rfl, rfl⟩))⟩, ⟨by decide, lwG_in (by decide +kernel) rfl⟩, fun q => ⟨rfl, rfl⟩⟩
abbrev kd_P13 : ctD := ((3, 241, 241), (.boolean, 2), (13, 52))
theorem ks_P13 : ctS kc_P lwG "AssignFlow$Places" cq_F2 16 (cq_ty 2) 121 kd_P13 := ⟨⟨by decide +kernel, Or.inr ⟨rfl, by decide +kernel, by decide +kernel⟩, by decide +kernel, by decide +kernel⟩, ⟨⟨by decide +kernel, by decide +kernel⟩, lwG_in (by decide +kernel) rfl, Or.inr (Or.inr (Or.inl ⟨rfl, rfl⟩))⟩, ⟨by decide, lwG_in (by decide +kernel) rfl⟩, fun q => ⟨rfl, rfl⟩⟩
abbrev kL_P : List ctD := [kd_P0, kd_P1, kd_P2, kd_P3, kd_P4, kd_P5, kd_P6, kd_P7, kd_P8, kd_P9, kd_P10, kd_P11, kd_P12, kd_P13]
theorem kok_P : ctOK kc_P lwG "AssignFlow$Places" cq_F2 16 (cq_ty 2) 4 kL_P := ⟨ks_P0, ⟨ks_P1, ⟨ks_P2, ⟨ks_P3, ⟨ks_P4, ⟨ks_P5, ⟨ks_P6, ⟨ks_P7, ⟨ks_P8, ⟨ks_P9, ⟨ks_P10, ⟨ks_P11, ⟨ks_P12, ⟨ks_P13, trivial⟩⟩⟩⟩⟩⟩⟩⟩⟩⟩⟩⟩⟩⟩
abbrev ke_P0 : ctE := ((0, .int (0)), (14, 55))
theorem kp_P0 : ctU 0 kc_P lwG "AssignFlow$Places" cq_F2 16 (cq_ty 2) 130 ke_P0 := ⟨⟨by decide +kernel, Or.inl ⟨0, 0, rfl, by decide +kernel, by decide +kernel⟩, by decide +kernel⟩, ⟨by decide, lwG_in (by decide +kernel) rfl⟩, fun _ => ⟨rfl, rfl⟩⟩
abbrev ke_P1 : ctE := ((0, .int (0)), (15, 59))
theorem kp_P1 : ctU 0 kc_P lwG "AssignFlow$Places" cq_F2 16 (cq_ty 2) 135 ke_P1 := ⟨⟨by decide +kernel, Or.inl ⟨0, 0, rfl, by decide +kernel, by decide +kernel⟩, by decide +kernel⟩, ⟨by decide, lwG_in (by decide +kernel) rfl⟩, fun _ => ⟨rfl, rfl⟩⟩
abbrev kE_P : List ctE := [ke_P0, ke_P1]
theorem koe_P : ctOU 0 kc_P lwG "AssignFlow$Places" cq_F2 16 (cq_ty 2) (ctPc 4 kL_P) kE_P := ⟨kp_P0, ⟨kp_P1, trivial⟩⟩
abbrev kf_P : List Value := [.null, .null, .null, .null, .null, .null, .null, .null, .null, .null, .null, .null, .null, .null, .int 0, .int 0]
theorem kob_P : Cond.methodLink "AssignFlow$Places" 3 objectInit ∈ lwG := lwG_in (by decide +kernel) rfl
theorem knr_P : ∀ k, Value.ref k ∈ kf_P → False := fun k h => by simp [kf_P] at h
theorem km_P (l : Launch) (D : va_G) (cA : Nat → Nat) (h0 sz : Nat) : Met l ky_P (pv_ws lwG ky_P kc_P 1 none) { frames := 1, cells := 14, slots := 3374, locals := 12 } (va_Pc (.ref h0 :: []) (fun U => U.heap.size = sz ∧ va_P D cq_cl [(h0, .inr (2, kf_P))] U.heap ∧ va_K D cq_cl (pv_tys cA) U)) (va_Qv (fun ad : Nat → Nat => ad 0 = h0 ∧ ∀ k, 1 ≤ k → k ≤ 0 → ad (50 + k) = (fun _ => 0) k) (fun ad t => va_P D cq_cl (pv_w cA ad 0 (.inr (2, ctG (ctF kf_P 1 kL_P) kE_P) :: ctA kL_P)) t.heap ∧ va_D (va_A [(h0, .inr (2, kf_P))] sz) (pv_w cA ad 0 (.inr (2, ctG (ctF kf_P 1 kL_P) kE_P) :: ctA kL_P))) (va_A [(h0, .inr (2, kf_P))] sz)) 14 3374 (va_A [(h0, .inr (2, kf_P))] sz) := ct_leaf cq_okG (y := ky_P) (a1 := 2) rfl (by decide +kernel) rfl kob_P (by decide +kernel) (by decide +kernel) kok_P koe_P (by decide +kernel) rfl knr_P (by decide) (fun _ => 0) [] h0 sz (fun k h1 h2 => absurd h1 (by omega)) (Nat.le_of_ble_eq_true rfl) rfl (by decide +kernel)
abbrev kc_R : ByteArray := prog_4_method_1_code
abbrev ky_R : MethodName := ⟨"AssignFlow$Reader", "<init>", "([ILAssignFlow$Places;LAssignFlow$Variables;)V"⟩
abbrev kd_R0 : ctD := ((2, 20, 20), (.int, 0), (3, 9))
theorem ks_R0 : ctS kc_R lwG "AssignFlow$Reader" cq_F3 10 (cq_ty 3) 4 kd_R0 := ⟨⟨by decide +kernel, Or.inl ⟨rfl, by decide +kernel, by decide +kernel⟩, by decide +kernel, by decide +kernel⟩, ⟨⟨by decide +kernel, by decide +kernel⟩, lwG_in (by decide +kernel) rfl, Or.inl ⟨rfl, rfl⟩⟩, ⟨by decide, lwG_in (by decide +kernel) rfl⟩, fun q => ⟨rfl, rfl⟩⟩
abbrev kd_R1 : ctD := ((2, 20, 20), (.int, 0), (4, 15))
theorem ks_R1 : ctS kc_R lwG "AssignFlow$Reader" cq_F3 10 (cq_ty 3) 12 kd_R1 := ⟨⟨by decide +kernel, Or.inl ⟨rfl, by decide +kernel, by decide +kernel⟩, by decide +kernel, by decide +kernel⟩, ⟨⟨by decide +kernel, by decide +kernel⟩, lwG_in (by decide +kernel) rfl, Or.inl ⟨rfl, rfl⟩⟩, ⟨by decide, lwG_in (by decide +kernel) rfl⟩, fun q => ⟨rfl, rfl⟩⟩
abbrev kd_R2 : ctD := ((2, 20, 20), (.int, 0), (5, 18))
theorem ks_R2 : ctS kc_R lwG "AssignFlow$Reader" cq_F3 10 (cq_ty 3) 20 kd_R2 := ⟨⟨by decide +kernel, Or.inl ⟨rfl, by decide +kernel, by decide +kernel⟩, by decide +kernel, by decide +kernel⟩, ⟨⟨by decide +kernel, by decide +kernel⟩, lwG_in (by decide +kernel) rfl, Or.inl ⟨rfl, rfl⟩⟩, ⟨by decide, lwG_in (by decide +kernel) rfl⟩, fun q => ⟨rfl, rfl⟩⟩
abbrev kL_R : List ctD := [kd_R0, kd_R1, kd_R2]
theorem kok_R : ctOK kc_R lwG "AssignFlow$Reader" cq_F3 10 (cq_ty 3) 4 kL_R := ⟨ks_R0, ⟨ks_R1, ⟨ks_R2, trivial⟩⟩⟩
abbrev ke_R0 : ctE := ((0, .int (0)), (6, 21))
theorem kp_R0 : ctU 3 kc_R lwG "AssignFlow$Reader" cq_F3 10 (cq_ty 3) 28 ke_R0 := ⟨⟨by decide +kernel, Or.inl ⟨0, 0, rfl, by decide +kernel, by decide +kernel⟩, by decide +kernel⟩, ⟨by decide, lwG_in (by decide +kernel) rfl⟩, fun _ => ⟨rfl, rfl⟩⟩
abbrev ke_R1 : ctE := ((0, .int (0)), (7, 25))
theorem kp_R1 : ctU 3 kc_R lwG "AssignFlow$Reader" cq_F3 10 (cq_ty 3) 33 ke_R1 := ⟨⟨by decide +kernel, Or.inl ⟨0, 0, rfl, by decide +kernel, by decide +kernel⟩, by decide +kernel⟩, ⟨by decide, lwG_in (by decide +kernel) rfl⟩, fun _ => ⟨rfl, rfl⟩⟩
abbrev ke_R2 : ctE := ((0, .int (-1)), (8, 28))
theorem kp_R2 : ctU 3 kc_R lwG "AssignFlow$Reader" cq_F3 10 (cq_ty 3) 38 ke_R2 := ⟨⟨by decide +kernel, Or.inl ⟨-1, -1, rfl, by decide +kernel, by decide +kernel⟩, by decide +kernel⟩, ⟨by decide, lwG_in (by decide +kernel) rfl⟩, fun _ => ⟨rfl, rfl⟩⟩
abbrev ke_R3 : ctE := ((0, .int (0)), (9, 31))
theorem kp_R3 : ctU 3 kc_R lwG "AssignFlow$Reader" cq_F3 10 (cq_ty 3) 43 ke_R3 := ⟨⟨by decide +kernel, Or.inl ⟨0, 0, rfl, by decide +kernel, by decide +kernel⟩, by decide +kernel⟩, ⟨by decide, lwG_in (by decide +kernel) rfl⟩, fun _ => ⟨rfl, rfl⟩⟩
abbrev ke_R4 : ctE := ((1, .ref 51), (0, 34))
theorem kp_R4 : ctU 3 kc_R lwG "AssignFlow$Reader" cq_F3 10 (cq_ty 3) 48 ke_R4 := ⟨⟨by decide +kernel, Or.inr (Or.inr ⟨1, rfl, ⟨by decide, by decide⟩, rfl, by decide +kernel⟩), by decide +kernel⟩, ⟨by decide, lwG_in (by decide +kernel) rfl⟩, fun _ => ⟨rfl, rfl⟩⟩
abbrev ke_R5 : ctE := ((2, .ref 52), (1, 37))
theorem kp_R5 : ctU 3 kc_R lwG "AssignFlow$Reader" cq_F3 10 (cq_ty 3) 53 ke_R5 := ⟨⟨by decide +kernel, Or.inr (Or.inr ⟨2, rfl, ⟨by decide, by decide⟩, rfl, by decide +kernel⟩), by decide +kernel⟩, ⟨by decide, lwG_in (by decide +kernel) rfl⟩, fun _ => ⟨rfl, rfl⟩⟩
abbrev ke_R6 : ctE := ((3, .ref 53), (2, 41))
theorem kp_R6 : ctU 3 kc_R lwG "AssignFlow$Reader" cq_F3 10 (cq_ty 3) 58 ke_R6 := ⟨⟨by decide +kernel, Or.inr (Or.inr ⟨3, rfl, ⟨by decide, by decide⟩, rfl, by decide +kernel⟩), by decide +kernel⟩, ⟨by decide, lwG_in (by decide +kernel) rfl⟩, fun _ => ⟨rfl, rfl⟩⟩
abbrev kE_R : List ctE := [ke_R0, ke_R1, ke_R2, ke_R3, ke_R4, ke_R5, ke_R6]
theorem koe_R : ctOU 3 kc_R lwG "AssignFlow$Reader" cq_F3 10 (cq_ty 3) (ctPc 4 kL_R) kE_R := ⟨kp_R0, ⟨kp_R1, ⟨kp_R2, ⟨kp_R3, ⟨kp_R4, ⟨kp_R5, ⟨kp_R6, trivial⟩⟩⟩⟩⟩⟩⟩
abbrev kf_R : List Value := [.null, .null, .null, .null, .null, .null, .int 0, .int 0, .int 0, .int 0]
theorem kob_R : Cond.methodLink "AssignFlow$Reader" 3 objectInit ∈ lwG := lwG_in (by decide +kernel) rfl
theorem knr_R : ∀ k, Value.ref k ∈ kf_R → False := fun k h => by simp [kf_R] at h
theorem km_R (l : Launch) (D : va_G) (cA : Nat → Nat) (o1 o2 o3 : Nat) (h0 sz : Nat) : Met l ky_R (pv_ws lwG ky_R kc_R 4 none) { frames := 1, cells := 3, slots := 60, locals := 12 } (va_Pc (.ref h0 :: [.ref o1, .ref o2, .ref o3]) (fun U => U.heap.size = sz ∧ va_P D cq_cl [(h0, .inr (3, kf_R))] U.heap ∧ va_K D cq_cl (pv_tys cA) U)) (va_Qv (fun ad : Nat → Nat => ad 0 = h0 ∧ ∀ k, 1 ≤ k → k ≤ 3 → ad (50 + k) = (fun k => if k = 1 then o1 else if k = 2 then o2 else o3) k) (fun ad t => va_P D cq_cl (pv_w cA ad 0 (.inr (3, ctG (ctF kf_R 1 kL_R) kE_R) :: ctA kL_R)) t.heap ∧ va_D (va_A [(h0, .inr (3, kf_R))] sz) (pv_w cA ad 0 (.inr (3, ctG (ctF kf_R 1 kL_R) kE_R) :: ctA kL_R))) (va_A [(h0, .inr (3, kf_R))] sz)) 3 60 (va_A [(h0, .inr (3, kf_R))] sz) := ct_leaf cq_okG (y := ky_R) (a1 := 3) rfl (by decide +kernel) rfl kob_R (by decide +kernel) (by decide +kernel) kok_R koe_R (by decide +kernel) rfl knr_R (by decide) (fun k => if k = 1 then o1 else if k = 2 then o2 else o3) [.ref o1, .ref o2, .ref o3] h0 sz (fun k h1 h2 => by rcases (show k = 1 ∨ k = 2 ∨ k = 3 by omega) with rfl | rfl | rfl <;> rfl) (Nat.le_of_ble_eq_true rfl) rfl (by decide +kernel)
abbrev kc_V : ByteArray := prog_6_method_1_code
abbrev ky_V : MethodName := ⟨"AssignFlow$Variables", "<init>", "()V"⟩
abbrev kd_V0 : ctD := ((2, 12, 12), (.int, 0), (0, 9))
theorem ks_V0 : ctS kc_V lwG "AssignFlow$Variables" cq_F4 7 (cq_ty 4) 4 kd_V0 := ⟨⟨by decide +kernel, Or.inl ⟨rfl, by decide +kernel, by decide +kernel⟩, by decide +kernel, by decide +kernel⟩, ⟨⟨by decide +kernel, by decide +kernel⟩, lwG_in (by decide +kernel) rfl, Or.inl ⟨rfl, rfl⟩⟩, ⟨by decide, lwG_in (by decide +kernel) rfl⟩, fun q => ⟨rfl, rfl⟩⟩
abbrev kd_V1 : ctD := ((2, 12, 12), (.boolean, 2), (1, 15))
theorem ks_V1 : ctS kc_V lwG "AssignFlow$Variables" cq_F4 7 (cq_ty 4) 12 kd_V1 := ⟨⟨by decide +kernel, Or.inl ⟨rfl, by decide +kernel, by decide +kernel⟩, by decide +kernel, by decide +kernel⟩, ⟨⟨by decide +kernel, by decide +kernel⟩, lwG_in (by decide +kernel) rfl, Or.inr (Or.inr (Or.inl ⟨rfl, rfl⟩))⟩, ⟨by decide, lwG_in (by decide +kernel) rfl⟩, fun q => ⟨rfl, rfl⟩⟩
abbrev kd_V2 : ctD := ((2, 12, 12), (.int, 0), (2, 19))
theorem ks_V2 : ctS kc_V lwG "AssignFlow$Variables" cq_F4 7 (cq_ty 4) 20 kd_V2 := ⟨⟨by decide +kernel, Or.inl ⟨rfl, by decide +kernel, by decide +kernel⟩, by decide +kernel, by decide +kernel⟩, ⟨⟨by decide +kernel, by decide +kernel⟩, lwG_in (by decide +kernel) rfl, Or.inl ⟨rfl, rfl⟩⟩, ⟨by decide, lwG_in (by decide +kernel) rfl⟩, fun q => ⟨rfl, rfl⟩⟩
abbrev kd_V3 : ctD := ((2, 12, 12), (.boolean, 2), (3, 22))
theorem ks_V3 : ctS kc_V lwG "AssignFlow$Variables" cq_F4 7 (cq_ty 4) 28 kd_V3 := ⟨⟨by decide +kernel, Or.inl ⟨rfl, by decide +kernel, by decide +kernel⟩, by decide +kernel, by decide +kernel⟩, ⟨⟨by decide +kernel, by decide +kernel⟩, lwG_in (by decide +kernel) rfl, Or.inr (Or.inr (Or.inl ⟨rfl, rfl⟩))⟩, ⟨by decide, lwG_in (by decide +kernel) rfl⟩, fun q => ⟨rfl, rfl⟩⟩
abbrev kd_V4 : ctD := ((2, 12, 12), (.int, 0), (4, 25))
theorem ks_V4 : ctS kc_V lwG "AssignFlow$Variables" cq_F4 7 (cq_ty 4) 36 kd_V4 := ⟨⟨by decide +kernel, Or.inl ⟨rfl, by decide +kernel, by decide +kernel⟩, by decide +kernel, by decide +kernel⟩, ⟨⟨by decide +kernel, by decide +kernel⟩, lwG_in (by decide +kernel) rfl, Or.inl ⟨rfl, rfl⟩⟩, ⟨by decide, lwG_in (by decide +kernel) rfl⟩, fun q => ⟨rfl, rfl⟩⟩
abbrev kd_V5 : ctD := ((2, 12, 12), (.int, 0), (5, 28))
theorem ks_V5 : ctS kc_V lwG "AssignFlow$Variables" cq_F4 7 (cq_ty 4) 44 kd_V5 := ⟨⟨by decide +kernel, Or.inl ⟨rfl, by decide +kernel, by decide +kernel⟩, by decide +kernel, by decide +kernel⟩, ⟨⟨by decide +kernel, by decide +kernel⟩, lwG_in (by decide +kernel) rfl, Or.inl ⟨rfl, rfl⟩⟩, ⟨by decide, lwG_in (by decide +kernel) rfl⟩, fun q => ⟨rfl, rfl⟩⟩
abbrev kL_V : List ctD := [kd_V0, kd_V1, kd_V2, kd_V3, kd_V4, kd_V5]
theorem kok_V : ctOK kc_V lwG "AssignFlow$Variables" cq_F4 7 (cq_ty 4) 4 kL_V := ⟨ks_V0, ⟨ks_V1, ⟨ks_V2, ⟨ks_V3, ⟨ks_V4, ⟨ks_V5, trivial⟩⟩⟩⟩⟩⟩
abbrev ke_V0 : ctE := ((0, .int (0)), (6, 31))
theorem kp_V0 : ctU 0 kc_V lwG "AssignFlow$Variables" cq_F4 7 (cq_ty 4) 52 ke_V0 := ⟨⟨by decide +kernel, Or.inl ⟨0, 0, rfl, by decide +kernel, by decide +kernel⟩, by decide +kernel⟩, ⟨by decide, lwG_in (by decide +kernel) rfl⟩, fun _ => ⟨rfl, rfl⟩⟩
abbrev kE_V : List ctE := [ke_V0]
theorem koe_V : ctOU 0 kc_V lwG "AssignFlow$Variables" cq_F4 7 (cq_ty 4) (ctPc 4 kL_V) kE_V := ⟨kp_V0, trivial⟩
abbrev kf_V : List Value := [.null, .null, .null, .null, .null, .null, .int 0]
theorem kob_V : Cond.methodLink "AssignFlow$Variables" 3 objectInit ∈ lwG := lwG_in (by decide +kernel) rfl
theorem knr_V : ∀ k, Value.ref k ∈ kf_V → False := fun k h => by simp [kf_V] at h
theorem km_V (l : Launch) (D : va_G) (cA : Nat → Nat) (h0 sz : Nat) : Met l ky_V (pv_ws lwG ky_V kc_V 1 none) { frames := 1, cells := 6, slots := 72, locals := 12 } (va_Pc (.ref h0 :: []) (fun U => U.heap.size = sz ∧ va_P D cq_cl [(h0, .inr (4, kf_V))] U.heap ∧ va_K D cq_cl (pv_tys cA) U)) (va_Qv (fun ad : Nat → Nat => ad 0 = h0 ∧ ∀ k, 1 ≤ k → k ≤ 0 → ad (50 + k) = (fun _ => 0) k) (fun ad t => va_P D cq_cl (pv_w cA ad 0 (.inr (4, ctG (ctF kf_V 1 kL_V) kE_V) :: ctA kL_V)) t.heap ∧ va_D (va_A [(h0, .inr (4, kf_V))] sz) (pv_w cA ad 0 (.inr (4, ctG (ctF kf_V 1 kL_V) kE_V) :: ctA kL_V))) (va_A [(h0, .inr (4, kf_V))] sz)) 6 72 (va_A [(h0, .inr (4, kf_V))] sz) := ct_leaf cq_okG (y := ky_V) (a1 := 4) rfl (by decide +kernel) rfl kob_V (by decide +kernel) (by decide +kernel) kok_V koe_V (by decide +kernel) rfl knr_V (by decide) (fun _ => 0) [] h0 sz (fun k h1 h2 => absurd h1 (by omega)) (Nat.le_of_ble_eq_true rfl) rfl (by decide +kernel)
abbrev kc_W : ByteArray := prog_7_method_1_code
abbrev ky_W : MethodName := ⟨"AssignFlow$Walks", "<init>", "(LAssignFlow$Places;LAssignFlow$Ways;)V"⟩
abbrev kd_W0 : ctD := ((3, 965, 965), (.long, 3), (2, 11))
theorem ks_W0 : ctS kc_W lwG "AssignFlow$Walks" cq_F5 7 (cq_ty 5) 4 kd_W0 := ⟨⟨by decide +kernel, Or.inr ⟨rfl, by decide +kernel, by decide +kernel⟩, by decide +kernel, by decide +kernel⟩, ⟨⟨by decide +kernel, by decide +kernel⟩, lwG_in (by decide +kernel) rfl, Or.inr (Or.inr (Or.inr ⟨rfl, rfl⟩))⟩, ⟨by decide, lwG_in (by decide +kernel) rfl⟩, fun q => ⟨rfl, rfl⟩⟩
abbrev kd_W1 : ctD := ((3, 241, 241), (.long, 3), (3, 17))
theorem ks_W1 : ctS kc_W lwG "AssignFlow$Walks" cq_F5 7 (cq_ty 5) 13 kd_W1 := ⟨⟨by decide +kernel, Or.inr ⟨rfl, by decide +kernel, by decide +kernel⟩, by decide +kernel, by decide +kernel⟩, ⟨⟨by decide +kernel, by decide +kernel⟩, lwG_in (by decide +kernel) rfl, Or.inr (Or.inr (Or.inr ⟨rfl, rfl⟩))⟩, ⟨by decide, lwG_in (by decide +kernel) rfl⟩, fun q => ⟨rfl, rfl⟩⟩
abbrev kL_W : List ctD := [kd_W0, kd_W1]
theorem kok_W : ctOK kc_W lwG "AssignFlow$Walks" cq_F5 7 (cq_ty 5) 4 kL_W := ⟨ks_W0, ⟨ks_W1, trivial⟩⟩
abbrev ke_W0 : ctE := ((0, .long 0), (4, 22))
theorem kp_W0 : ctU 2 kc_W lwG "AssignFlow$Walks" cq_F5 7 (cq_ty 5) 22 ke_W0 := ⟨⟨by decide +kernel, Or.inr (Or.inl ⟨0, 0, rfl, by decide +kernel, by decide +kernel⟩), by decide +kernel⟩, ⟨by decide, lwG_in (by decide +kernel) rfl⟩, fun _ => ⟨rfl, rfl⟩⟩
abbrev ke_W1 : ctE := ((0, .int (-1)), (5, 26))
theorem kp_W1 : ctU 2 kc_W lwG "AssignFlow$Walks" cq_F5 7 (cq_ty 5) 27 ke_W1 := ⟨⟨by decide +kernel, Or.inl ⟨-1, -1, rfl, by decide +kernel, by decide +kernel⟩, by decide +kernel⟩, ⟨by decide, lwG_in (by decide +kernel) rfl⟩, fun _ => ⟨rfl, rfl⟩⟩
abbrev ke_W2 : ctE := ((0, .int (0)), (6, 30))
theorem kp_W2 : ctU 2 kc_W lwG "AssignFlow$Walks" cq_F5 7 (cq_ty 5) 32 ke_W2 := ⟨⟨by decide +kernel, Or.inl ⟨0, 0, rfl, by decide +kernel, by decide +kernel⟩, by decide +kernel⟩, ⟨by decide, lwG_in (by decide +kernel) rfl⟩, fun _ => ⟨rfl, rfl⟩⟩
abbrev ke_W3 : ctE := ((1, .ref 51), (0, 34))
theorem kp_W3 : ctU 2 kc_W lwG "AssignFlow$Walks" cq_F5 7 (cq_ty 5) 37 ke_W3 := ⟨⟨by decide +kernel, Or.inr (Or.inr ⟨1, rfl, ⟨by decide, by decide⟩, rfl, by decide +kernel⟩), by decide +kernel⟩, ⟨by decide, lwG_in (by decide +kernel) rfl⟩, fun _ => ⟨rfl, rfl⟩⟩
abbrev ke_W4 : ctE := ((2, .ref 52), (1, 38))
theorem kp_W4 : ctU 2 kc_W lwG "AssignFlow$Walks" cq_F5 7 (cq_ty 5) 42 ke_W4 := ⟨⟨by decide +kernel, Or.inr (Or.inr ⟨2, rfl, ⟨by decide, by decide⟩, rfl, by decide +kernel⟩), by decide +kernel⟩, ⟨by decide, lwG_in (by decide +kernel) rfl⟩, fun _ => ⟨rfl, rfl⟩⟩
abbrev kE_W : List ctE := [ke_W0, ke_W1, ke_W2, ke_W3, ke_W4]
theorem koe_W : ctOU 2 kc_W lwG "AssignFlow$Walks" cq_F5 7 (cq_ty 5) (ctPc 4 kL_W) kE_W := ⟨kp_W0, ⟨kp_W1, ⟨kp_W2, ⟨kp_W3, ⟨kp_W4, trivial⟩⟩⟩⟩⟩
abbrev kf_W : List Value := [.null, .null, .null, .null, .long 0, .int 0, .int 0]
theorem kob_W : Cond.methodLink "AssignFlow$Walks" 5 objectInit ∈ lwG := lwG_in (by decide +kernel) rfl
theorem knr_W : ∀ k, Value.ref k ∈ kf_W → False := fun k h => by simp [kf_W] at h
theorem km_W (l : Launch) (D : va_G) (cA : Nat → Nat) (o1 o2 : Nat) (h0 sz : Nat) : Met l ky_W (pv_ws lwG ky_W kc_W 3 none) { frames := 1, cells := 2, slots := 1206, locals := 12 } (va_Pc (.ref h0 :: [.ref o1, .ref o2]) (fun U => U.heap.size = sz ∧ va_P D cq_cl [(h0, .inr (5, kf_W))] U.heap ∧ va_K D cq_cl (pv_tys cA) U)) (va_Qv (fun ad : Nat → Nat => ad 0 = h0 ∧ ∀ k, 1 ≤ k → k ≤ 2 → ad (50 + k) = (fun k => if k = 1 then o1 else o2) k) (fun ad t => va_P D cq_cl (pv_w cA ad 0 (.inr (5, ctG (ctF kf_W 1 kL_W) kE_W) :: ctA kL_W)) t.heap ∧ va_D (va_A [(h0, .inr (5, kf_W))] sz) (pv_w cA ad 0 (.inr (5, ctG (ctF kf_W 1 kL_W) kE_W) :: ctA kL_W))) (va_A [(h0, .inr (5, kf_W))] sz)) 2 1206 (va_A [(h0, .inr (5, kf_W))] sz) := ct_leaf cq_okG (y := ky_W) (a1 := 5) rfl (by decide +kernel) rfl kob_W (by decide +kernel) (by decide +kernel) kok_W koe_W (by decide +kernel) rfl knr_W (by decide) (fun k => if k = 1 then o1 else o2) [.ref o1, .ref o2] h0 sz (fun k h1 h2 => by rcases (show k = 1 ∨ k = 2 by omega) with rfl | rfl <;> rfl) (Nat.le_of_ble_eq_true rfl) rfl (by decide +kernel)
abbrev kc_Y : ByteArray := prog_8_method_1_code
abbrev ky_Y : MethodName := ⟨"AssignFlow$Ways", "<init>", "(LAssignFlow$Places;)V"⟩
abbrev kd_Y0 : ctD := ((3, 241, 241), (.int, 0), (1, 11))
theorem ks_Y0 : ctS kc_Y lwG "AssignFlow$Ways" cq_F6 6 (cq_ty 6) 4 kd_Y0 := ⟨⟨by decide +kernel, Or.inr ⟨rfl, by decide +kernel, by decide +kernel⟩, by decide +kernel, by decide +kernel⟩, ⟨⟨by decide +kernel, by decide +kernel⟩, lwG_in (by decide +kernel) rfl, Or.inl ⟨rfl, rfl⟩⟩, ⟨by decide, lwG_in (by decide +kernel) rfl⟩, fun q => ⟨rfl, rfl⟩⟩
abbrev kd_Y1 : ctD := ((3, 241, 241), (.int, 0), (2, 15))
theorem ks_Y1 : ctS kc_Y lwG "AssignFlow$Ways" cq_F6 6 (cq_ty 6) 13 kd_Y1 := ⟨⟨by decide +kernel, Or.inr ⟨rfl, by decide +kernel, by decide +kernel⟩, by decide +kernel, by decide +kernel⟩, ⟨⟨by decide +kernel, by decide +kernel⟩, lwG_in (by decide +kernel) rfl, Or.inl ⟨rfl, rfl⟩⟩, ⟨by decide, lwG_in (by decide +kernel) rfl⟩, fun q => ⟨rfl, rfl⟩⟩
abbrev kd_Y2 : ctD := ((3, 241, 241), (.int, 0), (3, 18))
theorem ks_Y2 : ctS kc_Y lwG "AssignFlow$Ways" cq_F6 6 (cq_ty 6) 22 kd_Y2 := ⟨⟨by decide +kernel, Or.inr ⟨rfl, by decide +kernel, by decide +kernel⟩, by decide +kernel, by decide +kernel⟩, ⟨⟨by decide +kernel, by decide +kernel⟩, lwG_in (by decide +kernel) rfl, Or.inl ⟨rfl, rfl⟩⟩, ⟨by decide, lwG_in (by decide +kernel) rfl⟩, fun q => ⟨rfl, rfl⟩⟩
abbrev kd_Y3 : ctD := ((3, 241, 241), (.int, 0), (4, 21))
theorem ks_Y3 : ctS kc_Y lwG "AssignFlow$Ways" cq_F6 6 (cq_ty 6) 31 kd_Y3 := ⟨⟨by decide +kernel, Or.inr ⟨rfl, by decide +kernel, by decide +kernel⟩, by decide +kernel, by decide +kernel⟩, ⟨⟨by decide +kernel, by decide +kernel⟩, lwG_in (by decide +kernel) rfl, Or.inl ⟨rfl, rfl⟩⟩, ⟨by decide, lwG_in (by decide +kernel) rfl⟩, fun q => ⟨rfl, rfl⟩⟩
abbrev kd_Y4 : ctD := ((3, 241, 241), (.int, 0), (5, 24))
theorem ks_Y4 : ctS kc_Y lwG "AssignFlow$Ways" cq_F6 6 (cq_ty 6) 40 kd_Y4 := ⟨⟨by decide +kernel, Or.inr ⟨rfl, by decide +kernel, by decide +kernel⟩, by decide +kernel, by decide +kernel⟩, ⟨⟨by decide +kernel, by decide +kernel⟩, lwG_in (by decide +kernel) rfl, Or.inl ⟨rfl, rfl⟩⟩, ⟨by decide, lwG_in (by decide +kernel) rfl⟩, fun q => ⟨rfl, rfl⟩⟩
abbrev kL_Y : List ctD := [kd_Y0, kd_Y1, kd_Y2, kd_Y3, kd_Y4]
theorem kok_Y : ctOK kc_Y lwG "AssignFlow$Ways" cq_F6 6 (cq_ty 6) 4 kL_Y := ⟨ks_Y0, ⟨ks_Y1, ⟨ks_Y2, ⟨ks_Y3, ⟨ks_Y4, trivial⟩⟩⟩⟩⟩
abbrev ke_Y0 : ctE := ((1, .ref 51), (0, 27))
theorem kp_Y0 : ctU 1 kc_Y lwG "AssignFlow$Ways" cq_F6 6 (cq_ty 6) 49 ke_Y0 := ⟨⟨by decide +kernel, Or.inr (Or.inr ⟨1, rfl, ⟨by decide, by decide⟩, rfl, by decide +kernel⟩), by decide +kernel⟩, ⟨by decide, lwG_in (by decide +kernel) rfl⟩, fun _ => ⟨rfl, rfl⟩⟩
abbrev kE_Y : List ctE := [ke_Y0]
theorem koe_Y : ctOU 1 kc_Y lwG "AssignFlow$Ways" cq_F6 6 (cq_ty 6) (ctPc 4 kL_Y) kE_Y := ⟨kp_Y0, trivial⟩
abbrev kf_Y : List Value := [.null, .null, .null, .null, .null, .null]
theorem kob_Y : Cond.methodLink "AssignFlow$Ways" 5 objectInit ∈ lwG := lwG_in (by decide +kernel) rfl
theorem knr_Y : ∀ k, Value.ref k ∈ kf_Y → False := fun k h => by simp [kf_Y] at h
theorem km_Y (l : Launch) (D : va_G) (cA : Nat → Nat) (o1 : Nat) (h0 sz : Nat) : Met l ky_Y (pv_ws lwG ky_Y kc_Y 2 none) { frames := 1, cells := 5, slots := 1205, locals := 12 } (va_Pc (.ref h0 :: [.ref o1]) (fun U => U.heap.size = sz ∧ va_P D cq_cl [(h0, .inr (6, kf_Y))] U.heap ∧ va_K D cq_cl (pv_tys cA) U)) (va_Qv (fun ad : Nat → Nat => ad 0 = h0 ∧ ∀ k, 1 ≤ k → k ≤ 1 → ad (50 + k) = (fun _ => o1) k) (fun ad t => va_P D cq_cl (pv_w cA ad 0 (.inr (6, ctG (ctF kf_Y 1 kL_Y) kE_Y) :: ctA kL_Y)) t.heap ∧ va_D (va_A [(h0, .inr (6, kf_Y))] sz) (pv_w cA ad 0 (.inr (6, ctG (ctF kf_Y 1 kL_Y) kE_Y) :: ctA kL_Y))) (va_A [(h0, .inr (6, kf_Y))] sz)) 5 1205 (va_A [(h0, .inr (6, kf_Y))] sz) := ct_leaf cq_okG (y := ky_Y) (a1 := 6) rfl (by decide +kernel) rfl kob_Y (by decide +kernel) (by decide +kernel) kok_Y koe_Y (by decide +kernel) rfl knr_Y (by decide) (fun _ => o1) [.ref o1] h0 sz (fun k h1 h2 => by rcases (show k = 1 by omega) with rfl <;> rfl) (Nat.le_of_ble_eq_true rfl) rfl (by decide +kernel)
