/-! the arrays of the reference -/
abbrev rk_C : ByteArray := prog_10_method_1_code
abbrev rk_d0 : ctD := ((3, 240, 240), (.byte, 1), (0, 7))
theorem rk_s0 : ctS rk_C lw_tbl "AssignFlowModel" rq_F0 62 (rq_ty 0) 4 rk_d0 := ⟨⟨by decide +kernel, Or.inr ⟨rfl, by decide +kernel, by decide +kernel⟩, by decide +kernel, by decide +kernel⟩, ⟨⟨by decide +kernel, by decide +kernel⟩, by decide +kernel, Or.inr (Or.inl ⟨rfl, rfl⟩)⟩, ⟨by decide, by decide +kernel⟩, fun q => ⟨rfl, rfl⟩⟩
abbrev rk_d1 : ctD := ((3, 260, 260), (.int, 0), (3, 13))
theorem rk_s1 : ctS rk_C lw_tbl "AssignFlowModel" rq_F0 62 (rq_ty 0) 13 rk_d1 := ⟨⟨by decide +kernel, Or.inr ⟨rfl, by decide +kernel, by decide +kernel⟩, by decide +kernel, by decide +kernel⟩, ⟨⟨by decide +kernel, by decide +kernel⟩, by decide +kernel, Or.inl ⟨rfl, rfl⟩⟩, ⟨by decide, by decide +kernel⟩, fun q => ⟨rfl, rfl⟩⟩
abbrev rk_d2 : ctD := ((3, 260, 260), (.int, 0), (4, 17))
theorem rk_s2 : ctS rk_C lw_tbl "AssignFlowModel" rq_F0 62 (rq_ty 0) 22 rk_d2 := ⟨⟨by decide +kernel, Or.inr ⟨rfl, by decide +kernel, by decide +kernel⟩, by decide +kernel, by decide +kernel⟩, ⟨⟨by decide +kernel, by decide +kernel⟩, by decide +kernel, Or.inl ⟨rfl, rfl⟩⟩, ⟨by decide, by decide +kernel⟩, fun q => ⟨rfl, rfl⟩⟩
abbrev rk_d3 : ctD := ((3, 260, 260), (.int, 0), (5, 20))
theorem rk_s3 : ctS rk_C lw_tbl "AssignFlowModel" rq_F0 62 (rq_ty 0) 31 rk_d3 := ⟨⟨by decide +kernel, Or.inr ⟨rfl, by decide +kernel, by decide +kernel⟩, by decide +kernel, by decide +kernel⟩, ⟨⟨by decide +kernel, by decide +kernel⟩, by decide +kernel, Or.inl ⟨rfl, rfl⟩⟩, ⟨by decide, by decide +kernel⟩, fun q => ⟨rfl, rfl⟩⟩
abbrev rk_d4 : ctD := ((3, 260, 260), (.int, 0), (6, 23))
theorem rk_s4 : ctS rk_C lw_tbl "AssignFlowModel" rq_F0 62 (rq_ty 0) 40 rk_d4 := ⟨⟨by decide +kernel, Or.inr ⟨rfl, by decide +kernel, by decide +kernel⟩, by decide +kernel, by decide +kernel⟩, ⟨⟨by decide +kernel, by decide +kernel⟩, by decide +kernel, Or.inl ⟨rfl, rfl⟩⟩, ⟨by decide, by decide +kernel⟩, fun q => ⟨rfl, rfl⟩⟩
abbrev rk_d5 : ctD := ((3, 260, 260), (.int, 0), (7, 26))
theorem rk_s5 : ctS rk_C lw_tbl "AssignFlowModel" rq_F0 62 (rq_ty 0) 49 rk_d5 := ⟨⟨by decide +kernel, Or.inr ⟨rfl, by decide +kernel, by decide +kernel⟩, by decide +kernel, by decide +kernel⟩, ⟨⟨by decide +kernel, by decide +kernel⟩, by decide +kernel, Or.inl ⟨rfl, rfl⟩⟩, ⟨by decide, by decide +kernel⟩, fun q => ⟨rfl, rfl⟩⟩
abbrev rk_d6 : ctD := ((3, 260, 260), (.boolean, 2), (8, 29))
theorem rk_s6 : ctS rk_C lw_tbl "AssignFlowModel" rq_F0 62 (rq_ty 0) 58 rk_d6 := ⟨⟨by decide +kernel, Or.inr ⟨rfl, by decide +kernel, by decide +kernel⟩, by decide +kernel, by decide +kernel⟩, ⟨⟨by decide +kernel, by decide +kernel⟩, by decide +kernel, Or.inr (Or.inr (Or.inl ⟨rfl, rfl⟩))⟩, ⟨by decide, by decide +kernel⟩, fun q => ⟨rfl, rfl⟩⟩
abbrev rk_d7 : ctD := ((3, 260, 260), (.int, 0), (9, 33))
theorem rk_s7 : ctS rk_C lw_tbl "AssignFlowModel" rq_F0 62 (rq_ty 0) 67 rk_d7 := ⟨⟨by decide +kernel, Or.inr ⟨rfl, by decide +kernel, by decide +kernel⟩, by decide +kernel, by decide +kernel⟩, ⟨⟨by decide +kernel, by decide +kernel⟩, by decide +kernel, Or.inl ⟨rfl, rfl⟩⟩, ⟨by decide, by decide +kernel⟩, fun q => ⟨rfl, rfl⟩⟩
abbrev rk_d8 : ctD := ((3, 260, 260), (.int, 0), (10, 36))
theorem rk_s8 : ctS rk_C lw_tbl "AssignFlowModel" rq_F0 62 (rq_ty 0) 76 rk_d8 := ⟨⟨by decide +kernel, Or.inr ⟨rfl, by decide +kernel, by decide +kernel⟩, by decide +kernel, by decide +kernel⟩, ⟨⟨by decide +kernel, by decide +kernel⟩, by decide +kernel, Or.inl ⟨rfl, rfl⟩⟩, ⟨by decide, by decide +kernel⟩, fun q => ⟨rfl, rfl⟩⟩
abbrev rk_d9 : ctD := ((3, 260, 260), (.int, 0), (11, 39))
theorem rk_s9 : ctS rk_C lw_tbl "AssignFlowModel" rq_F0 62 (rq_ty 0) 85 rk_d9 := ⟨⟨by decide +kernel, Or.inr ⟨rfl, by decide +kernel, by decide +kernel⟩, by decide +kernel, by decide +kernel⟩, ⟨⟨by decide +kernel, by decide +kernel⟩, by decide +kernel, Or.inl ⟨rfl, rfl⟩⟩, ⟨by decide, by decide +kernel⟩, fun q => ⟨rfl, rfl⟩⟩
abbrev rk_d10 : ctD := ((3, 260, 260), (.int, 0), (12, 42))
theorem rk_s10 : ctS rk_C lw_tbl "AssignFlowModel" rq_F0 62 (rq_ty 0) 94 rk_d10 := ⟨⟨by decide +kernel, Or.inr ⟨rfl, by decide +kernel, by decide +kernel⟩, by decide +kernel, by decide +kernel⟩, ⟨⟨by decide +kernel, by decide +kernel⟩, by decide +kernel, Or.inl ⟨rfl, rfl⟩⟩, ⟨by decide, by decide +kernel⟩, fun q => ⟨rfl, rfl⟩⟩
abbrev rk_d11 : ctD := ((3, 260, 260), (.boolean, 2), (13, 45))
theorem rk_s11 : ctS rk_C lw_tbl "AssignFlowModel" rq_F0 62 (rq_ty 0) 103 rk_d11 := ⟨⟨by decide +kernel, Or.inr ⟨rfl, by decide +kernel, by decide +kernel⟩, by decide +kernel, by decide +kernel⟩, ⟨⟨by decide +kernel, by decide +kernel⟩, by decide +kernel, Or.inr (Or.inr (Or.inl ⟨rfl, rfl⟩))⟩, ⟨by decide, by decide +kernel⟩, fun q => ⟨rfl, rfl⟩⟩
abbrev rk_d12 : ctD := ((3, 260, 260), (.boolean, 2), (14, 48))
theorem rk_s12 : ctS rk_C lw_tbl "AssignFlowModel" rq_F0 62 (rq_ty 0) 112 rk_d12 := ⟨⟨by decide +kernel, Or.inr ⟨rfl, by decide +kernel, by decide +kernel⟩, by decide +kernel, by decide +kernel⟩, ⟨⟨by decide +kernel, by decide +kernel⟩, by decide +kernel, Or.inr (Or.inr (Or.inl ⟨rfl, rfl⟩))⟩, ⟨by decide, by decide +kernel⟩, fun q => ⟨rfl, rfl⟩⟩
abbrev rk_d13 : ctD := ((3, 260, 260), (.boolean, 2), (15, 51))
theorem rk_s13 : ctS rk_C lw_tbl "AssignFlowModel" rq_F0 62 (rq_ty 0) 121 rk_d13 := ⟨⟨by decide +kernel, Or.inr ⟨rfl, by decide +kernel, by decide +kernel⟩, by decide +kernel, by decide +kernel⟩, ⟨⟨by decide +kernel, by decide +kernel⟩, by decide +kernel, Or.inr (Or.inr (Or.inl ⟨rfl, rfl⟩))⟩, ⟨by decide, by decide +kernel⟩, fun q => ⟨rfl, rfl⟩⟩
abbrev rk_d14 : ctD := ((3, 260, 260), (.boolean, 2), (16, 54))
theorem rk_s14 : ctS rk_C lw_tbl "AssignFlowModel" rq_F0 62 (rq_ty 0) 130 rk_d14 := ⟨⟨by decide +kernel, Or.inr ⟨rfl, by decide +kernel, by decide +kernel⟩, by decide +kernel, by decide +kernel⟩, ⟨⟨by decide +kernel, by decide +kernel⟩, by decide +kernel, Or.inr (Or.inr (Or.inl ⟨rfl, rfl⟩))⟩, ⟨by decide, by decide +kernel⟩, fun q => ⟨rfl, rfl⟩⟩
abbrev rk_d15 : ctD := ((3, 260, 260), (.boolean, 2), (17, 57))
theorem rk_s15 : ctS rk_C lw_tbl "AssignFlowModel" rq_F0 62 (rq_ty 0) 139 rk_d15 := ⟨⟨by decide +kernel, Or.inr ⟨rfl, by decide +kernel, by decide +kernel⟩, by decide +kernel, by decide +kernel⟩, ⟨⟨by decide +kernel, by decide +kernel⟩, by decide +kernel, Or.inr (Or.inr (Or.inl ⟨rfl, rfl⟩))⟩, ⟨by decide, by decide +kernel⟩, fun q => ⟨rfl, rfl⟩⟩
abbrev rk_d16 : ctD := ((2, 12, 12), (.int, 0), (20, 60))
theorem rk_s16 : ctS rk_C lw_tbl "AssignFlowModel" rq_F0 62 (rq_ty 0) 148 rk_d16 := ⟨⟨by decide +kernel, Or.inl ⟨rfl, by decide +kernel, by decide +kernel⟩, by decide +kernel, by decide +kernel⟩, ⟨⟨by decide +kernel, by decide +kernel⟩, by decide +kernel, Or.inl ⟨rfl, rfl⟩⟩, ⟨by decide, by decide +kernel⟩, fun q => ⟨rfl, rfl⟩⟩
abbrev rk_d17 : ctD := ((2, 12, 12), (.boolean, 2), (21, 63))
theorem rk_s17 : ctS rk_C lw_tbl "AssignFlowModel" rq_F0 62 (rq_ty 0) 156 rk_d17 := ⟨⟨by decide +kernel, Or.inl ⟨rfl, by decide +kernel, by decide +kernel⟩, by decide +kernel, by decide +kernel⟩, ⟨⟨by decide +kernel, by decide +kernel⟩, by decide +kernel, Or.inr (Or.inr (Or.inl ⟨rfl, rfl⟩))⟩, ⟨by decide, by decide +kernel⟩, fun q => ⟨rfl, rfl⟩⟩
abbrev rk_d18 : ctD := ((2, 12, 12), (.int, 0), (22, 66))
theorem rk_s18 : ctS rk_C lw_tbl "AssignFlowModel" rq_F0 62 (rq_ty 0) 164 rk_d18 := ⟨⟨by decide +kernel, Or.inl ⟨rfl, by decide +kernel, by decide +kernel⟩, by decide +kernel, by decide +kernel⟩, ⟨⟨by decide +kernel, by decide +kernel⟩, by decide +kernel, Or.inl ⟨rfl, rfl⟩⟩, ⟨by decide, by decide +kernel⟩, fun q => ⟨rfl, rfl⟩⟩
abbrev rk_d19 : ctD := ((2, 26, 26), (.int, 0), (23, 69))
theorem rk_s19 : ctS rk_C lw_tbl "AssignFlowModel" rq_F0 62 (rq_ty 0) 172 rk_d19 := ⟨⟨by decide +kernel, Or.inl ⟨rfl, by decide +kernel, by decide +kernel⟩, by decide +kernel, by decide +kernel⟩, ⟨⟨by decide +kernel, by decide +kernel⟩, by decide +kernel, Or.inl ⟨rfl, rfl⟩⟩, ⟨by decide, by decide +kernel⟩, fun q => ⟨rfl, rfl⟩⟩
abbrev rk_d20 : ctD := ((2, 12, 12), (.int, 0), (24, 72))
theorem rk_s20 : ctS rk_C lw_tbl "AssignFlowModel" rq_F0 62 (rq_ty 0) 180 rk_d20 := ⟨⟨by decide +kernel, Or.inl ⟨rfl, by decide +kernel, by decide +kernel⟩, by decide +kernel, by decide +kernel⟩, ⟨⟨by decide +kernel, by decide +kernel⟩, by decide +kernel, Or.inl ⟨rfl, rfl⟩⟩, ⟨by decide, by decide +kernel⟩, fun q => ⟨rfl, rfl⟩⟩
abbrev rk_d21 : ctD := ((3, 300, 300), (.int, 0), (29, 75))
theorem rk_s21 : ctS rk_C lw_tbl "AssignFlowModel" rq_F0 62 (rq_ty 0) 188 rk_d21 := ⟨⟨by decide +kernel, Or.inr ⟨rfl, by decide +kernel, by decide +kernel⟩, by decide +kernel, by decide +kernel⟩, ⟨⟨by decide +kernel, by decide +kernel⟩, by decide +kernel, Or.inl ⟨rfl, rfl⟩⟩, ⟨by decide, by decide +kernel⟩, fun q => ⟨rfl, rfl⟩⟩
abbrev rk_d22 : ctD := ((3, 300, 300), (.int, 0), (30, 78))
theorem rk_s22 : ctS rk_C lw_tbl "AssignFlowModel" rq_F0 62 (rq_ty 0) 197 rk_d22 := ⟨⟨by decide +kernel, Or.inr ⟨rfl, by decide +kernel, by decide +kernel⟩, by decide +kernel, by decide +kernel⟩, ⟨⟨by decide +kernel, by decide +kernel⟩, by decide +kernel, Or.inl ⟨rfl, rfl⟩⟩, ⟨by decide, by decide +kernel⟩, fun q => ⟨rfl, rfl⟩⟩
abbrev rk_d23 : ctD := ((3, 300, 300), (.int, 0), (32, 81))
theorem rk_s23 : ctS rk_C lw_tbl "AssignFlowModel" rq_F0 62 (rq_ty 0) 206 rk_d23 := ⟨⟨by decide +kernel, Or.inr ⟨rfl, by decide +kernel, by decide +kernel⟩, by decide +kernel, by decide +kernel⟩, ⟨⟨by decide +kernel, by decide +kernel⟩, by decide +kernel, Or.inl ⟨rfl, rfl⟩⟩, ⟨by decide, by decide +kernel⟩, fun q => ⟨rfl, rfl⟩⟩
abbrev rk_d24 : ctD := ((2, 24, 24), (.int, 0), (37, 84))
theorem rk_s24 : ctS rk_C lw_tbl "AssignFlowModel" rq_F0 62 (rq_ty 0) 215 rk_d24 := ⟨⟨by decide +kernel, Or.inl ⟨rfl, by decide +kernel, by decide +kernel⟩, by decide +kernel, by decide +kernel⟩, ⟨⟨by decide +kernel, by decide +kernel⟩, by decide +kernel, Or.inl ⟨rfl, rfl⟩⟩, ⟨by decide, by decide +kernel⟩, fun q => ⟨rfl, rfl⟩⟩
abbrev rk_d25 : ctD := ((2, 24, 24), (.int, 0), (38, 87))
theorem rk_s25 : ctS rk_C lw_tbl "AssignFlowModel" rq_F0 62 (rq_ty 0) 223 rk_d25 := ⟨⟨by decide +kernel, Or.inl ⟨rfl, by decide +kernel, by decide +kernel⟩, by decide +kernel, by decide +kernel⟩, ⟨⟨by decide +kernel, by decide +kernel⟩, by decide +kernel, Or.inl ⟨rfl, rfl⟩⟩, ⟨by decide, by decide +kernel⟩, fun q => ⟨rfl, rfl⟩⟩
abbrev rk_d26 : ctD := ((2, 24, 24), (.int, 0), (39, 90))
theorem rk_s26 : ctS rk_C lw_tbl "AssignFlowModel" rq_F0 62 (rq_ty 0) 231 rk_d26 := ⟨⟨by decide +kernel, Or.inl ⟨rfl, by decide +kernel, by decide +kernel⟩, by decide +kernel, by decide +kernel⟩, ⟨⟨by decide +kernel, by decide +kernel⟩, by decide +kernel, Or.inl ⟨rfl, rfl⟩⟩, ⟨by decide, by decide +kernel⟩, fun q => ⟨rfl, rfl⟩⟩
abbrev rk_d27 : ctD := ((3, 260, 260), (.boolean, 2), (42, 93))
theorem rk_s27 : ctS rk_C lw_tbl "AssignFlowModel" rq_F0 62 (rq_ty 0) 239 rk_d27 := ⟨⟨by decide +kernel, Or.inr ⟨rfl, by decide +kernel, by decide +kernel⟩, by decide +kernel, by decide +kernel⟩, ⟨⟨by decide +kernel, by decide +kernel⟩, by decide +kernel, Or.inr (Or.inr (Or.inl ⟨rfl, rfl⟩))⟩, ⟨by decide, by decide +kernel⟩, fun q => ⟨rfl, rfl⟩⟩
abbrev rk_d28 : ctD := ((3, 260, 260), (.int, 0), (43, 96))
theorem rk_s28 : ctS rk_C lw_tbl "AssignFlowModel" rq_F0 62 (rq_ty 0) 248 rk_d28 := ⟨⟨by decide +kernel, Or.inr ⟨rfl, by decide +kernel, by decide +kernel⟩, by decide +kernel, by decide +kernel⟩, ⟨⟨by decide +kernel, by decide +kernel⟩, by decide +kernel, Or.inl ⟨rfl, rfl⟩⟩, ⟨by decide, by decide +kernel⟩, fun q => ⟨rfl, rfl⟩⟩
abbrev rk_d29 : ctD := ((3, 260, 260), (.int, 0), (44, 99))
theorem rk_s29 : ctS rk_C lw_tbl "AssignFlowModel" rq_F0 62 (rq_ty 0) 257 rk_d29 := ⟨⟨by decide +kernel, Or.inr ⟨rfl, by decide +kernel, by decide +kernel⟩, by decide +kernel, by decide +kernel⟩, ⟨⟨by decide +kernel, by decide +kernel⟩, by decide +kernel, Or.inl ⟨rfl, rfl⟩⟩, ⟨by decide, by decide +kernel⟩, fun q => ⟨rfl, rfl⟩⟩
abbrev rk_d30 : ctD := ((3, 260, 260), (.int, 0), (45, 102))
theorem rk_s30 : ctS rk_C lw_tbl "AssignFlowModel" rq_F0 62 (rq_ty 0) 266 rk_d30 := ⟨⟨by decide +kernel, Or.inr ⟨rfl, by decide +kernel, by decide +kernel⟩, by decide +kernel, by decide +kernel⟩, ⟨⟨by decide +kernel, by decide +kernel⟩, by decide +kernel, Or.inl ⟨rfl, rfl⟩⟩, ⟨by decide, by decide +kernel⟩, fun q => ⟨rfl, rfl⟩⟩
abbrev rk_d31 : ctD := ((3, 9000, 9000), (.int, 0), (46, 105))
theorem rk_s31 : ctS rk_C lw_tbl "AssignFlowModel" rq_F0 62 (rq_ty 0) 275 rk_d31 := ⟨⟨by decide +kernel, Or.inr ⟨rfl, by decide +kernel, by decide +kernel⟩, by decide +kernel, by decide +kernel⟩, ⟨⟨by decide +kernel, by decide +kernel⟩, by decide +kernel, Or.inl ⟨rfl, rfl⟩⟩, ⟨by decide, by decide +kernel⟩, fun q => ⟨rfl, rfl⟩⟩
abbrev rk_d32 : ctD := ((3, 9000, 9000), (.int, 0), (47, 108))
theorem rk_s32 : ctS rk_C lw_tbl "AssignFlowModel" rq_F0 62 (rq_ty 0) 284 rk_d32 := ⟨⟨by decide +kernel, Or.inr ⟨rfl, by decide +kernel, by decide +kernel⟩, by decide +kernel, by decide +kernel⟩, ⟨⟨by decide +kernel, by decide +kernel⟩, by decide +kernel, Or.inl ⟨rfl, rfl⟩⟩, ⟨by decide, by decide +kernel⟩, fun q => ⟨rfl, rfl⟩⟩
abbrev rk_d33 : ctD := ((3, 9000, 9000), (.int, 0), (48, 111))
theorem rk_s33 : ctS rk_C lw_tbl "AssignFlowModel" rq_F0 62 (rq_ty 0) 293 rk_d33 := ⟨⟨by decide +kernel, Or.inr ⟨rfl, by decide +kernel, by decide +kernel⟩, by decide +kernel, by decide +kernel⟩, ⟨⟨by decide +kernel, by decide +kernel⟩, by decide +kernel, Or.inl ⟨rfl, rfl⟩⟩, ⟨by decide, by decide +kernel⟩, fun q => ⟨rfl, rfl⟩⟩
abbrev rk_d34 : ctD := ((3, 3600, 3600), (.int, 0), (49, 114))
theorem rk_s34 : ctS rk_C lw_tbl "AssignFlowModel" rq_F0 62 (rq_ty 0) 302 rk_d34 := ⟨⟨by decide +kernel, Or.inr ⟨rfl, by decide +kernel, by decide +kernel⟩, by decide +kernel, by decide +kernel⟩, ⟨⟨by decide +kernel, by decide +kernel⟩, by decide +kernel, Or.inl ⟨rfl, rfl⟩⟩, ⟨by decide, by decide +kernel⟩, fun q => ⟨rfl, rfl⟩⟩
abbrev rk_d35 : ctD := ((3, 1500, 1500), (.int, 0), (52, 117))
theorem rk_s35 : ctS rk_C lw_tbl "AssignFlowModel" rq_F0 62 (rq_ty 0) 311 rk_d35 := ⟨⟨by decide +kernel, Or.inr ⟨rfl, by decide +kernel, by decide +kernel⟩, by decide +kernel, by decide +kernel⟩, ⟨⟨by decide +kernel, by decide +kernel⟩, by decide +kernel, Or.inl ⟨rfl, rfl⟩⟩, ⟨by decide, by decide +kernel⟩, fun q => ⟨rfl, rfl⟩⟩
abbrev rk_d36 : ctD := ((3, 1500, 1500), (.int, 0), (53, 120))
theorem rk_s36 : ctS rk_C lw_tbl "AssignFlowModel" rq_F0 62 (rq_ty 0) 320 rk_d36 := ⟨⟨by decide +kernel, Or.inr ⟨rfl, by decide +kernel, by decide +kernel⟩, by decide +kernel, by decide +kernel⟩, ⟨⟨by decide +kernel, by decide +kernel⟩, by decide +kernel, Or.inl ⟨rfl, rfl⟩⟩, ⟨by decide, by decide +kernel⟩, fun q => ⟨rfl, rfl⟩⟩
abbrev rk_d37 : ctD := ((3, 1500, 1500), (.int, 0), (54, 123))
theorem rk_s37 : ctS rk_C lw_tbl "AssignFlowModel" rq_F0 62 (rq_ty 0) 329 rk_d37 := ⟨⟨by decide +kernel, Or.inr ⟨rfl, by decide +kernel, by decide +kernel⟩, by decide +kernel, by decide +kernel⟩, ⟨⟨by decide +kernel, by decide +kernel⟩, by decide +kernel, Or.inl ⟨rfl, rfl⟩⟩, ⟨by decide, by decide +kernel⟩, fun q => ⟨rfl, rfl⟩⟩
abbrev rk_d39 : ctD := ((3, 3600, 3600), (.byte, 1), (57, 130))
theorem rk_s39 : ctS rk_C lw_tbl "AssignFlowModel" rq_F0 62 (rq_ty 0) 346 rk_d39 := ⟨⟨by decide +kernel, Or.inr ⟨rfl, by decide +kernel, by decide +kernel⟩, by decide +kernel, by decide +kernel⟩, ⟨⟨by decide +kernel, by decide +kernel⟩, by decide +kernel, Or.inr (Or.inl ⟨rfl, rfl⟩)⟩, ⟨by decide, by decide +kernel⟩, fun q => ⟨rfl, rfl⟩⟩
abbrev rk_d40 : ctD := ((3, 520, 520), (.byte, 1), (58, 133))
theorem rk_s40 : ctS rk_C lw_tbl "AssignFlowModel" rq_F0 62 (rq_ty 0) 355 rk_d40 := ⟨⟨by decide +kernel, Or.inr ⟨rfl, by decide +kernel, by decide +kernel⟩, by decide +kernel, by decide +kernel⟩, ⟨⟨by decide +kernel, by decide +kernel⟩, by decide +kernel, Or.inr (Or.inl ⟨rfl, rfl⟩)⟩, ⟨by decide, by decide +kernel⟩, fun q => ⟨rfl, rfl⟩⟩
abbrev rk_d41 : ctD := ((3, 7300, 7300), (.int, 0), (59, 136))
theorem rk_s41 : ctS rk_C lw_tbl "AssignFlowModel" rq_F0 62 (rq_ty 0) 364 rk_d41 := ⟨⟨by decide +kernel, Or.inr ⟨rfl, by decide +kernel, by decide +kernel⟩, by decide +kernel, by decide +kernel⟩, ⟨⟨by decide +kernel, by decide +kernel⟩, by decide +kernel, Or.inl ⟨rfl, rfl⟩⟩, ⟨by decide, by decide +kernel⟩, fun q => ⟨rfl, rfl⟩⟩
def rk_L1 : List ctD := [rk_d0, rk_d1, rk_d2, rk_d3, rk_d4, rk_d5, rk_d6, rk_d7, rk_d8, rk_d9, rk_d10, rk_d11, rk_d12, rk_d13, rk_d14, rk_d15, rk_d16, rk_d17, rk_d18, rk_d19, rk_d20, rk_d21, rk_d22, rk_d23, rk_d24, rk_d25, rk_d26, rk_d27, rk_d28, rk_d29, rk_d30, rk_d31, rk_d32, rk_d33, rk_d34, rk_d35, rk_d36, rk_d37]
theorem rk_okL1 : ctOK rk_C lw_tbl "AssignFlowModel" rq_F0 62 (rq_ty 0) 4 rk_L1 := ⟨rk_s0, ⟨rk_s1, ⟨rk_s2, ⟨rk_s3, ⟨rk_s4, ⟨rk_s5, ⟨rk_s6, ⟨rk_s7, ⟨rk_s8, ⟨rk_s9, ⟨rk_s10, ⟨rk_s11, ⟨rk_s12, ⟨rk_s13, ⟨rk_s14, ⟨rk_s15, ⟨rk_s16, ⟨rk_s17, ⟨rk_s18, ⟨rk_s19, ⟨rk_s20, ⟨rk_s21, ⟨rk_s22, ⟨rk_s23, ⟨rk_s24, ⟨rk_s25, ⟨rk_s26, ⟨rk_s27, ⟨rk_s28, ⟨rk_s29, ⟨rk_s30, ⟨rk_s31, ⟨rk_s32, ⟨rk_s33, ⟨rk_s34, ⟨rk_s35, ⟨rk_s36, ⟨rk_s37, trivial⟩⟩⟩⟩⟩⟩⟩⟩⟩⟩⟩⟩⟩⟩⟩⟩⟩⟩⟩⟩⟩⟩⟩⟩⟩⟩⟩⟩⟩⟩⟩⟩⟩⟩⟩⟩⟩⟩
theorem rk_pcL1 : ctPc 4 rk_L1 = 338 := by decide +kernel
def rk_L2 : List ctD := [rk_d39, rk_d40, rk_d41]
theorem rk_okL2 : ctOK rk_C lw_tbl "AssignFlowModel" rq_F0 62 (rq_ty 0) 346 rk_L2 := ⟨rk_s39, ⟨rk_s40, ⟨rk_s41, trivial⟩⟩⟩
theorem rk_pcL2 : ctPc 346 rk_L2 = 373 := by decide +kernel
