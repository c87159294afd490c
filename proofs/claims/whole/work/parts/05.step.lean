section PVT
variable {p : Program} {l : Launch} {e : Env} {R : Room} {s : State} {m : MethodId} {args : Array Value} {below : List Frame} {meth : Method} {c : Code}
variable {cl : List vw_C} {tyf : Nat → Nat → FieldType} {Ts NW : List Cond} {mt : Nat → Option pv_M} {D : va_G} {cA ad : Nat → Nat} {A : Nat → Prop} {H0 : Heap} {n nL : Nat} {own : String} {cc : ByteArray}
theorem pv_len_of {α : Type} {l : List α} {k : Nat} {x : α} (h : pv_at l k = some x) : k < l.length := by
  rw [pv_at_eq] at h
  exact (List.getElem?_eq_some_iff.mp h).1
theorem pv_ast {S : pv_S} {H : Heap} {locs : List Loc} (hw : pv_Wo D cl cA ad A H0 n S H locs) {b : Nat} {x : va_E} {H1 : Heap} {locs1 : List Loc} {y : va_E} (hy : y = pv_e cA ad x) (h1 : va_P D cl ((pv_w cA ad 0 S).set b (ad b, y)) H1) (h3 : va_S A H0 H1 locs1) : pv_Wo D cl cA ad A H0 n (pv_set S b x) H1 locs1 := by
  subst hy
  rw [pv_w_s0] at h1
  exact ⟨by rw [pv_set_len]; exact hw.1, h1, h3⟩

set_option maxHeartbeats 4000000 in
set_option maxRecDepth 100000 in
theorem pv_sound_ex {Qs : State → Prop} {rt : Nat} {call : pv_C} {Q : pv_R} {k : pv_c → Prop} {len a1 a2 pc : Nat} {v : Value} {ls : pv_L} {st : List Value} {S : pv_S} {ins : Instr} (hx : p.tables.exec = Jvm.exec) (hb : c.code = cc) (hml : c.maxLocals = nL) (hown : s.vm.findClass own = some m.cls) (hts : ∀ w ∈ Ts, w.before args s = true) (hnw : ∀ w ∈ NW, va_Nw w s) (hK : va_K D cl (pv_tys cA) s) (hC : pv_okC cl tyf Ts) (hD : ∀ S : pv_S, S.length = n → va_D A (pv_w cA ad 0 S))
    (hdc : decode cc pc = .ok (ins, len)) (hoi : pv_oi cl tyf Ts NW mt own nL pc len a1 a2 v ins) (h : pv_ex rt call Q k (pc + len) a1 a2 v pc ls st S ins)
    {H : Heap} {locs : List Loc} (hw : pv_Wo D cl cA ad A H0 n S H locs) {lsA : Array Slot} (hl : lv_has lsA nL (pv_lc ad ls))
    (hk : ∀ c' : pv_c, k c' → ∀ (H : Heap) (locs : List Loc), pv_Wo D cl cA ad A H0 n c'.2.2.2 H locs → ∀ lsA : Array Slot, lv_has lsA nL (pv_lc ad c'.2.1) → W p l e R s m args below meth c H locs 0 0 Qs (F0 m c'.1 lsA (c'.2.2.1.map (pv_v ad))))
    (hQi : ∀ x : Int32, Q (some (.int x)) S → (rt = 0 ∨ (rt = 1 ∧ (x = 0 ∨ x = 1))) → decode cc pc = .ok (.ireturn, 1) → W p l e R s m args below meth c H locs 0 0 Qs (F0 m pc lsA [.int x]))
    (hQl : ∀ x : Int64, Q (some (.long x)) S → rt = 2 → decode cc pc = .ok (.lreturn, 1) → W p l e R s m args below meth c H locs 0 0 Qs (F0 m pc lsA [.long x]))
    (hQv : Q none S → rt = 3 → decode cc pc = .ok (.return_, 1) → W p l e R s m args below meth c H locs 0 0 Qs (F0 m pc lsA []))
    (hcV : ∀ (i ci b : Nat) (fs As r : List Value) (P : pv_R), pv_oi cl tyf Ts NW mt own nL pc 3 a1 As.length (.ref ci) (.invokevirtual i) → S[b]? = some (.inr (ci, fs)) → pv_wd r ≤ 8 → decode cc pc = .ok (.invokevirtual i, 3) → call a1 (.ref b :: As) S P → (∀ o S', P o S' → ∀ (H1 : Heap) (locs1 : List Loc), pv_Wo D cl cA ad A H0 n S' H1 locs1 → W p l e R s m args below meth c H1 locs1 0 0 Qs (F0 m (pc + 3) lsA ((pv_ol o r).map (pv_v ad)))) → W p l e R s m args below meth c H locs 0 0 Qs (F0 m pc lsA ((As.reverse ++ .ref b :: r).map (pv_v ad))))
    (hcS : ∀ (i : Nat) (As r : List Value) (P : pv_R), pv_oi cl tyf Ts NW mt own nL pc 3 a1 As.length v (.invokestatic i) → pv_wd r ≤ 8 → decode cc pc = .ok (.invokestatic i, 3) → call a1 As S P → (∀ o S', P o S' → ∀ (H1 : Heap) (locs1 : List Loc), pv_Wo D cl cA ad A H0 n S' H1 locs1 → W p l e R s m args below meth c H1 locs1 0 0 Qs (F0 m (pc + 3) lsA ((pv_ol o r).map (pv_v ad)))) → W p l e R s m args below meth c H locs 0 0 Qs (F0 m pc lsA ((As.reverse ++ r).map (pv_v ad)))) :
    W p l e R s m args below meth c H locs 0 0 Qs (F0 m pc lsA (st.map (pv_v ad))) := by
  have hP := hw.2.1
  have hDS := hD S hw.1
  have hS := hw.2.2
  cases ins
  case iconst z =>
    obtain ⟨rfl, rfl⟩ := hoi
    exact lv_iconst hx hb hdc rfl (hk _ h H locs hw lsA hl)
  case bipush z =>
    obtain ⟨rfl, rfl⟩ := hoi
    exact lv_bipush hx hb hdc rfl (hk _ h H locs hw lsA hl)
  case sipush z =>
    obtain ⟨rfl, rfl⟩ := hoi
    exact lv_sipush hx hb hdc rfl (hk _ h H locs hw lsA hl)
  case lconst z =>
    obtain ⟨rfl, rfl⟩ := hoi
    exact lv_lconst hx hb hdc rfl (hk _ h H locs hw lsA hl)
  case ldc i =>
    obtain ⟨⟨x, rfl, hc⟩, rfl⟩ := hoi
    exact lv_ldc hx hb hown (hts _ hc) hdc (hk _ h H locs hw lsA hl)
  case ldc2_w i =>
    obtain ⟨⟨x, rfl, hc⟩, rfl⟩ := hoi
    exact lv_ldc2 hx hb hown (hts _ hc) hdc (hk _ h H locs hw lsA hl)
  case iload i =>
    obtain ⟨rfl, rfl⟩ := hoi
    obtain ⟨x, h1, h2⟩ := pv_gi_inv h
    exact lv_iload hx hb hdc (pv_lc_get hl h1) (hk _ h2 H locs hw lsA hl)
  case iload_n i =>
    obtain ⟨h0, rfl⟩ := hoi
    obtain ⟨x, h1, h2⟩ := pv_gi_inv h
    exact lv_iload_n hx hb hdc h0 (pv_lc_get hl h1) (hk _ h2 H locs hw lsA hl)
  case lload i =>
    obtain ⟨rfl, rfl⟩ := hoi
    obtain ⟨x, h1, h2⟩ := pv_gl_inv h
    exact lv_lload hx hb hdc (pv_lc_get hl h1) (hk _ h2 H locs hw lsA hl)
  case lload_n i =>
    obtain ⟨h0, rfl⟩ := hoi
    obtain ⟨x, h1, h2⟩ := pv_gl_inv h
    exact lv_lload_n hx hb hdc h0 (pv_lc_get hl h1) (hk _ h2 H locs hw lsA hl)
  case aload i =>
    obtain ⟨rfl, rfl⟩ := hoi
    obtain ⟨x, h1, h2⟩ := pv_gr_inv h
    exact lv_aload hx hb hdc (pv_lc_get hl h1) (hk _ h2 H locs hw lsA hl)
  case aload_n i =>
    obtain ⟨h0, rfl⟩ := hoi
    obtain ⟨x, h1, h2⟩ := pv_gr_inv h
    exact lv_aload_n hx hb hdc h0 (pv_lc_get hl h1) (hk _ h2 H locs hw lsA hl)
  case istore i =>
    obtain ⟨⟨rfl, rfl⟩, hn⟩ := hoi
    obtain ⟨x, r, rfl, h2⟩ := pv_1i_inv h
    exact lv_istore hx hb hdc hl hn rfl (fun ls' hl' => hk _ h2 H locs hw ls' (pv_lc_put ad _ (.int x) ls hl'))
  case istore_n i =>
    obtain ⟨⟨h0, rfl⟩, hn⟩ := hoi
    obtain ⟨x, r, rfl, h2⟩ := pv_1i_inv h
    exact lv_istore_n hx hb hdc h0 hl hn rfl (fun ls' hl' => hk _ h2 H locs hw ls' (pv_lc_put ad _ (.int x) ls hl'))
  case lstore i =>
    obtain ⟨⟨rfl, rfl⟩, hn⟩ := hoi
    obtain ⟨x, r, rfl, h2⟩ := pv_1l_inv h
    exact lv_lstore hx hb hdc hl hn rfl (fun ls' hl' => hk _ h2 H locs hw ls' (pv_lc_put2 ad _ (.long x) ls hl'))
  case lstore_n i =>
    obtain ⟨⟨h0, rfl⟩, hn⟩ := hoi
    obtain ⟨x, r, rfl, h2⟩ := pv_1l_inv h
    exact lv_lstore_n hx hb hdc h0 hl hn rfl (fun ls' hl' => hk _ h2 H locs hw ls' (pv_lc_put2 ad _ (.long x) ls hl'))
  case iinc i z =>
    obtain ⟨⟨⟨rfl, rfl⟩, hn⟩, rfl⟩ := hoi
    obtain ⟨x, h1, h2⟩ := pv_gi_inv h
    have hm : (i, Value.int x) ∈ pv_lc ad ls := List.mem_map.mpr ⟨(i, .int x), pv_get_mem h1, rfl⟩
    obtain ⟨kx, hkx⟩ := List.mem_iff_getElem?.mp hm
    exact lv_iinc hx hb hdc hl hkx rfl hn rfl (fun ls' hl' => hk _ h2 H locs hw ls' (pv_lc_put ad _ (.int _) ls hl'))
  case iadd =>
    cases hoi
    obtain ⟨x, y, r, rfl, h2⟩ := pv_2i_inv h
    exact lv_iadd hx hb hdc (hk _ h2 H locs hw lsA hl)
  case isub =>
    cases hoi
    obtain ⟨x, y, r, rfl, h2⟩ := pv_2i_inv h
    exact lv_isub hx hb hdc (hk _ h2 H locs hw lsA hl)
  case imul =>
    cases hoi
    obtain ⟨x, y, r, rfl, h2⟩ := pv_2i_inv h
    exact lv_imul hx hb hdc (hk _ h2 H locs hw lsA hl)
  case iand =>
    cases hoi
    obtain ⟨x, y, r, rfl, h2⟩ := pv_2i_inv h
    exact lv_iand hx hb hdc (hk _ h2 H locs hw lsA hl)
  case ior =>
    cases hoi
    obtain ⟨x, y, r, rfl, h2⟩ := pv_2i_inv h
    exact lv_ior hx hb hdc (hk _ h2 H locs hw lsA hl)
  case ixor =>
    cases hoi
    obtain ⟨x, y, r, rfl, h2⟩ := pv_2i_inv h
    exact lv_ixor hx hb hdc (hk _ h2 H locs hw lsA hl)
  case ishl =>
    cases hoi
    obtain ⟨x, y, r, rfl, h2⟩ := pv_2i_inv h
    exact lv_ishl hx hb hdc (hk _ h2 H locs hw lsA hl)
  case ishr =>
    cases hoi
    obtain ⟨x, y, r, rfl, h2⟩ := pv_2i_inv h
    exact lv_ishr hx hb hdc (hk _ h2 H locs hw lsA hl)
  case idiv =>
    cases hoi
    obtain ⟨x, y, r, rfl, h2, h3⟩ := pv_2i_inv h
    exact lv_idiv hx hb hdc h2 (hk _ h3 H locs hw lsA hl)
  case irem =>
    cases hoi
    obtain ⟨x, y, r, rfl, h2, h3⟩ := pv_2i_inv h
    exact lv_irem hx hb hdc h2 (hk _ h3 H locs hw lsA hl)
  case ladd =>
    cases hoi
    obtain ⟨x, y, r, rfl, h2⟩ := pv_2l_inv h
    exact lv_ladd hx hb hdc (hk _ h2 H locs hw lsA hl)
  case land =>
    cases hoi
    obtain ⟨x, y, r, rfl, h2⟩ := pv_2l_inv h
    exact lv_land hx hb hdc (hk _ h2 H locs hw lsA hl)
  case lor =>
    cases hoi
    obtain ⟨x, y, r, rfl, h2⟩ := pv_2l_inv h
    exact lv_lor hx hb hdc (hk _ h2 H locs hw lsA hl)
  case lxor =>
    cases hoi
    obtain ⟨x, y, r, rfl, h2⟩ := pv_2l_inv h
    exact lv_lxor hx hb hdc (hk _ h2 H locs hw lsA hl)
  case lshl =>
    cases hoi
    obtain ⟨x, y, r, rfl, h2⟩ := pv_li_inv h
    exact lv_lshl hx hb hdc rfl (hk _ h2 H locs hw lsA hl)
  case lshr =>
    cases hoi
    obtain ⟨x, y, r, rfl, h2⟩ := pv_li_inv h
    exact lv_lshr hx hb hdc rfl (hk _ h2 H locs hw lsA hl)
  case lushr =>
    cases hoi
    obtain ⟨x, y, r, rfl, h2⟩ := pv_li_inv h
    exact lv_lushr hx hb hdc rfl (hk _ h2 H locs hw lsA hl)
  case lcmp =>
    cases hoi
    obtain ⟨x, y, r, rfl, h2⟩ := pv_2l_inv h
    exact W.lcmp hx hb hdc (hk _ h2 H locs hw lsA hl)
  case i2l =>
    cases hoi
    obtain ⟨x, r, rfl, h2⟩ := pv_1i_inv h
    exact lv_i2l hx hb hdc rfl (hk _ h2 H locs hw lsA hl)
  case l2i =>
    cases hoi
    obtain ⟨x, r, rfl, h2⟩ := pv_1l_inv h
    exact lv_l2i hx hb hdc rfl (hk _ h2 H locs hw lsA hl)
  case i2b =>
    cases hoi
    obtain ⟨x, r, rfl, h2⟩ := pv_1i_inv h
    exact lv_i2b hx hb hdc rfl (hk _ h2 H locs hw lsA hl)
  case dup =>
    cases hoi
    rcases st with _ | ⟨w, r⟩
    · exact False.elim h
    · obtain ⟨h1, h2⟩ := pv_bif h
      exact lv_dup hx hb hdc (by rw [pv_cat]; exact Nat.eq_of_beq_eq_true h1) (hk _ h2 H locs hw lsA hl)
  case pop =>
    cases hoi
    rcases st with _ | ⟨w, r⟩
    · exact False.elim h
    · obtain ⟨h1, h2⟩ := pv_bif h
      exact lv_pop hx hb hdc (by rw [pv_cat]; exact Nat.eq_of_beq_eq_true h1) (hk _ h2 H locs hw lsA hl)
  case pop2 =>
    cases hoi
    rcases st with _ | ⟨w, r⟩
    · exact False.elim h
    · obtain ⟨h1, h2⟩ := pv_bif h
      exact lv_pop2_2 hx hb hdc (by rw [pv_cat]; exact Nat.eq_of_beq_eq_true h1) (hk _ h2 H locs hw lsA hl)
  case dup2 =>
    cases hoi
    rcases st with _ | ⟨w, _ | ⟨u, r⟩⟩
    · exact False.elim h
    · exact False.elim h
    · obtain ⟨h1, h2⟩ := pv_bif h
      rw [Bool.and_eq_true] at h1
      exact lv_dup2_11 hx hb hdc (by rw [pv_cat]; exact Nat.eq_of_beq_eq_true h1.1) (by rw [pv_cat]; exact Nat.eq_of_beq_eq_true h1.2) (hk _ h2 H locs hw lsA hl)
  case goto off =>
    obtain ⟨ht, rfl⟩ := hoi
    exact lv_goto hx hb hdc ht (hk _ h H locs hw lsA hl)
  case ifCond cd off =>
    obtain ⟨ht, rfl⟩ := hoi
    obtain ⟨x, r, rfl, h2⟩ := pv_1i_inv h
    cases cd
    case eq => exact lv_if_eq hx hb hdc ht (fun q => hk _ (h2.1 q) H locs hw lsA hl) (fun q => hk _ (h2.2 q) H locs hw lsA hl)
    case ne => exact lv_if_ne hx hb hdc ht (fun q => hk _ (h2.2 q) H locs hw lsA hl) (fun q => hk _ (h2.1 q) H locs hw lsA hl)
    case lt => exact lv_if_lt hx hb hdc ht (fun q => hk _ (h2.1 q) H locs hw lsA hl) (fun q => hk _ (h2.2 q) H locs hw lsA hl)
    case ge => exact lv_if_ge hx hb hdc ht (fun q => hk _ (h2.1 q) H locs hw lsA hl) (fun q => hk _ (h2.2 q) H locs hw lsA hl)
    case gt => exact lv_if_gt hx hb hdc ht (fun q => hk _ (h2.1 q) H locs hw lsA hl) (fun q => hk _ (h2.2 q) H locs hw lsA hl)
    case le => exact lv_if_le hx hb hdc ht (fun q => hk _ (h2.1 q) H locs hw lsA hl) (fun q => hk _ (h2.2 q) H locs hw lsA hl)
  case if_icmp cd off =>
    obtain ⟨ht, rfl⟩ := hoi
    obtain ⟨x, y, r, rfl, h2⟩ := pv_2i_inv h
    cases cd
    case eq => exact lv_icmp_eq hx hb hdc ht (fun q => hk _ (h2.1 q) H locs hw lsA hl) (fun q => hk _ (h2.2 q) H locs hw lsA hl)
    case ne => exact lv_icmp_ne hx hb hdc ht (fun q => hk _ (h2.2 q) H locs hw lsA hl) (fun q => hk _ (h2.1 q) H locs hw lsA hl)
    case lt => exact lv_icmp_lt hx hb hdc ht (fun q => hk _ (h2.1 q) H locs hw lsA hl) (fun q => hk _ (h2.2 q) H locs hw lsA hl)
    case ge => exact lv_icmp_ge hx hb hdc ht (fun q => hk _ (h2.1 q) H locs hw lsA hl) (fun q => hk _ (h2.2 q) H locs hw lsA hl)
    case gt => exact lv_icmp_gt hx hb hdc ht (fun q => hk _ (h2.1 q) H locs hw lsA hl) (fun q => hk _ (h2.2 q) H locs hw lsA hl)
    case le => exact lv_icmp_le hx hb hdc ht (fun q => hk _ (h2.1 q) H locs hw lsA hl) (fun q => hk _ (h2.2 q) H locs hw lsA hl)
  case lookupswitch d ps =>
    obtain ⟨⟨hsrt, hd0⟩, hps⟩ := hoi
    obtain ⟨x, r, rfl, h2⟩ := pv_1i_inv h
    obtain ⟨tgt, h3, h4⟩ := pv_swS hd0 _ hps h2
    exact lv_lookup hx hb hdc hsrt rfl h3 (hk _ h4 H locs hw lsA hl)
  case tableswitch d lo hi offs =>
    obtain ⟨⟨hhi, hd0⟩, hps⟩ := hoi
    obtain ⟨x, r, rfl, h2⟩ := pv_1i_inv h
    obtain ⟨tgt, h3, h4⟩ := pv_swS hd0 _ hps h2
    rw [pv_tb_off] at h3
    have hsz : (offs.toList.length : Int) = (offs.size : Int) := by simp
    by_cases hx1 : x.toInt < lo ∨ hi < x.toInt
    · rw [if_pos (by omega)] at h3
      exact lv_tableOut hx hb hdc hx1 h3 (hk _ h4 H locs hw lsA hl)
    · rw [if_neg (by omega)] at h3
      have hlt : (x.toInt - lo).toNat < offs.toList.length := by omega
      have hget : offs[(x.toInt - lo).toNat]? = some (offs.toList.getD (x.toInt - lo - ((0 : Nat) : Int)).toNat d) := by
        rw [show (x.toInt - lo - ((0 : Nat) : Int)).toNat = (x.toInt - lo).toNat by omega, ← Array.getElem?_toList, List.getD_eq_getElem?_getD, List.getElem?_eq_getElem hlt]
        rfl
      exact lv_tableIn hx hb hdc (by omega) (by omega) hget h3 (hk _ h4 H locs hw lsA hl)
  case getfield i =>
    obtain ⟨rfl, hf⟩ := hoi
    obtain ⟨b, r, rfl, h2⟩ := pv_1r_inv h
    obtain ⟨fs, h3, h4⟩ := pv_ob_inv h2
    obtain ⟨w, h5, h6⟩ := pv_so_inv h4
    rw [pv_at_eq] at h5
    exact pv_sound_get hx hb hown hts hnw hK hC hw hf h3 h5 hdc (hk _ h6 H locs hw lsA hl)
  case putfield i =>
    obtain ⟨⟨rfl, hf⟩, hfin, hkd⟩ := hoi
    cases v
    case null =>
      obtain ⟨x, b, r, rfl, h2⟩ := pv_ir_inv h
      obtain ⟨fs, h3, h4⟩ := pv_ob_inv h2
      obtain ⟨w, h5, h6⟩ := pv_so_inv h4
      have ety := pv_kd_i hkd
      exact pv_sound_put hx hb hown hts hnw hK hC hD hw hf hfin h3 (pv_len_of h5) (w := .int x) rfl (by rw [ety]; rfl) (by rw [ety]; rfl) hdc (fun H1 locs1 hw1 => hk _ h6 H1 locs1 hw1 lsA hl)
    case int z =>
      obtain ⟨x, b, r, rfl, h2⟩ := pv_ir_inv h
      obtain ⟨fs, h3, h4⟩ := pv_ob_inv h2
      obtain ⟨w, h5, h7, h6⟩ := pv_so_inv h4
      have ety := pv_kd_z hkd
      exact pv_sound_put hx hb hown hts hnw hK hC hD hw hf hfin h3 (pv_len_of h5) (w := .int x) rfl (by rw [ety]; exact (pv_z01 h7).1) (by rw [ety]; exact (pv_z01 h7).2.1) hdc (fun H1 locs1 hw1 => hk _ h6 H1 locs1 hw1 lsA hl)
    case long z =>
      obtain ⟨x, r', rfl, h2'⟩ := pv_1l_inv h
      obtain ⟨b, r, rfl, h2⟩ := pv_1r_inv h2'
      obtain ⟨fs, h3, h4⟩ := pv_ob_inv h2
      obtain ⟨w, h5, h6⟩ := pv_so_inv h4
      have ety := pv_kd_l hkd
      exact pv_sound_put hx hb hown hts hnw hK hC hD hw hf hfin h3 (pv_len_of h5) (w := .long x) rfl (by rw [ety]; rfl) (by rw [ety]; rfl) hdc (fun H1 locs1 hw1 => hk _ h6 H1 locs1 hw1 lsA hl)
    all_goals exact False.elim h
  case iaload =>
    cases hoi
    obtain ⟨i, b, r, rfl, h2⟩ := pv_ir_inv h
    obtain ⟨t, z, g, h3, h4⟩ := pv_ai_inv h2
    obtain ⟨h5, h6, h7⟩ := pv_bif h4
    have et := Nat.eq_of_beq_eq_true h5
    subst et
    exact va_iald hx hb hK hP b 0 (pv_w_0 cA ad h3) rfl h6 hdc (hk _ h7 H locs hw lsA hl)
  case baload =>
    cases hoi
    obtain ⟨i, b, r, rfl, h2⟩ := pv_ir_inv h
    obtain ⟨t, z, g, h3, h4⟩ := pv_ai_inv h2
    obtain ⟨h5, h6, h7⟩ := pv_bif h4
    rw [Bool.or_eq_true] at h5
    rcases h5 with h5 | h5
    · have et := Nat.eq_of_beq_eq_true h5
      subst et
      exact va_bald hx hb hK hP b 1 (pv_w_0 cA ad h3) rfl h6 hdc (hk _ h7 H locs hw lsA hl)
    · have et := Nat.eq_of_beq_eq_true h5
      subst et
      exact va_zald hx hb hK hP b 2 (pv_w_0 cA ad h3) rfl h6 hdc (hk _ h7 H locs hw lsA hl)
  case laload =>
    cases hoi
    obtain ⟨i, b, r, rfl, h2⟩ := pv_ir_inv h
    obtain ⟨t, z, g, h3, h4⟩ := pv_al_inv h2
    obtain ⟨h5, h6, h7⟩ := pv_bif h4
    have et := Nat.eq_of_beq_eq_true h5
    subst et
    exact va_lald hx hb hK hP b 3 (pv_w_0 cA ad h3) rfl h6 hdc (hk _ h7 H locs hw lsA hl)
  case iastore =>
    cases hoi
    obtain ⟨x, i, b, r, rfl, h2⟩ := pv_iir_inv h
    obtain ⟨t, z, g, h3, h4⟩ := pv_ai_inv h2
    obtain ⟨h5, h6, h7⟩ := pv_bif h4
    have et := Nat.eq_of_beq_eq_true h5
    subst et
    exact va_iast hx hb hK hP hDS hS b 0 (pv_w_0 cA ad h3) rfl h6 hdc (fun H1 locs1 q1 _ q3 => hk _ h7 H1 locs1 (pv_ast hw (x := .inl (0, z, .inl (upd g i.toNatClampNeg x))) rfl q1 q3) lsA hl)
  case bastore =>
    cases hoi
    obtain ⟨x, i, b, r, rfl, h2⟩ := pv_iir_inv h
    obtain ⟨t, z, g, h3, h4⟩ := pv_ai_inv h2
    cases h5 : Nat.beq t 1 with
    | true =>
      rw [h5] at h4
      obtain ⟨h6, h7⟩ := h4
      have et := Nat.eq_of_beq_eq_true h5
      subst et
      refine va_bast hx hb hK hP hDS hS b 1 (pv_w_0 cA ad h3) rfl h6 hdc (fun H1 locs1 q1 _ q3 => ?_)
      rw [vp_nar_byte] at q1
      exact hk _ h7 H1 locs1 (pv_ast hw (x := .inl (1, z, .inl (upd g i.toNatClampNeg x.toInt8.toInt32))) rfl q1 q3) lsA hl
    | false =>
      rw [h5] at h4
      obtain ⟨h8, ⟨h6, h9⟩, h7⟩ := pv_bif h4
      have et := Nat.eq_of_beq_eq_true h8
      subst et
      refine va_zast hx hb hK hP hDS hS b 2 (pv_w_0 cA ad h3) rfl h6 hdc (fun H1 locs1 q1 _ q3 => ?_)
      rw [(pv_z01 h9).2.2] at q1
      exact hk _ h7 H1 locs1 (pv_ast hw (x := .inl (2, z, .inl (upd g i.toNatClampNeg x))) rfl q1 q3) lsA hl
  case lastore =>
    cases hoi
    obtain ⟨x, i, b, r, rfl, h2⟩ := pv_lir_inv h
    obtain ⟨t, z, g, h3, h4⟩ := pv_al_inv h2
    obtain ⟨h5, h6, h7⟩ := pv_bif h4
    have et := Nat.eq_of_beq_eq_true h5
    subst et
    exact va_last hx hb hK hP hDS hS b 3 (pv_w_0 cA ad h3) rfl h6 hdc (fun H1 locs1 q1 _ q3 => hk _ h7 H1 locs1 (pv_ast hw (x := .inl (3, z, .inr (.inl (vp_updL g i.toNatClampNeg x)))) rfl q1 q3) lsA hl)
  case arraylength =>
    cases hoi
    obtain ⟨b, r, rfl, h2⟩ := pv_1r_inv h
    obtain ⟨⟨t, z⟩, hq, h4⟩ := pv_an_inv h2
    obtain ⟨h5, h6⟩ := pv_bif h4
    have ht : t < 4 := Nat.blt_eq.mp h5
    have ht4 : ∀ u : Nat, u < 4 → u = 0 ∨ u = 1 ∨ u = 2 ∨ u = 3 := fun u hu => by omega
    rcases ht4 t ht with rfl | rfl | rfl | rfl
    · exact va_alen hx hb hK hP b 0 (pv_w_0 cA ad hq) rfl rfl hdc (hk _ h6 H locs hw lsA hl)
    · exact va_alen hx hb hK hP b 1 (pv_w_0 cA ad hq) rfl rfl hdc (hk _ h6 H locs hw lsA hl)
    · exact va_alen hx hb hK hP b 2 (pv_w_0 cA ad hq) rfl rfl hdc (hk _ h6 H locs hw lsA hl)
    · exact va_alen hx hb hK hP b 3 (pv_w_0 cA ad hq) rfl rfl hdc (hk _ h6 H locs hw lsA hl)
  case invokevirtual i =>
    have hoi0 := hoi
    obtain ⟨rfl, -⟩ := hoi
    have h : (match pv_pop a2 [] st with | some (As, .ref b :: r) => bif Nat.ble (pv_wd r) 8 then pv_gr (some v) fun ci => pv_ob S b ci fun _ => call a1 (.ref b :: As) S (fun o S' => k (pc + 3, ls, pv_ol o r, S')) else False | _ => False) := h
    split at h
    · rename_i As b r hq
      obtain ⟨L, e1, e2, e3⟩ := pv_pop_eq _ _ _ _ _ hq
      rw [List.append_nil] at e2
      subst e2
      obtain ⟨h1, h2⟩ := pv_bif h
      obtain ⟨ci, h3, h4⟩ := pv_gr_inv h2
      cases h3
      obtain ⟨fs, h5, h6⟩ := pv_ob_inv h4
      subst e3
      subst e1
      exact hcV i ci b fs As r _ hoi0 h5 (Nat.le_of_ble_eq_true h1) hdc h6 (fun o S' hP' H1 locs1 hw1 => hk _ hP' H1 locs1 hw1 lsA hl)
    · exact False.elim h
  case invokestatic i =>
    have hoi0 := hoi
    obtain ⟨rfl, -⟩ := hoi
    have h : (match pv_pop a2 [] st with | some (As, r) => bif Nat.ble (pv_wd r) 8 then call a1 As S (fun o S' => k (pc + 3, ls, pv_ol o r, S')) else False | _ => False) := h
    split at h
    · rename_i As r hq
      obtain ⟨L, e1, e2, e3⟩ := pv_pop_eq _ _ _ _ _ hq
      rw [List.append_nil] at e2
      subst e2
      obtain ⟨h1, h2⟩ := pv_bif h
      subst e3
      subst e1
      exact hcS i As r _ hoi0 (Nat.le_of_ble_eq_true h1) hdc h2 (fun o S' hP' H1 locs1 hw1 => hk _ hP' H1 locs1 hw1 lsA hl)
    · exact False.elim h
  case ireturn =>
    cases hoi
    obtain ⟨x, rfl, h2⟩ := pv_ri_inv h
    cases h5 : Nat.beq rt 0 with
    | true =>
      rw [h5] at h2
      exact hQi x h2 (Or.inl (Nat.eq_of_beq_eq_true h5)) hdc
    | false =>
      rw [h5] at h2
      obtain ⟨h6, h7, h8⟩ := pv_bif h2
      exact hQi x h8 (Or.inr ⟨Nat.eq_of_beq_eq_true h6, h7⟩) hdc
  case lreturn =>
    cases hoi
    obtain ⟨x, rfl, h2⟩ := pv_rl_inv h
    obtain ⟨h6, h7⟩ := pv_bif h2
    exact hQl x h7 (Nat.eq_of_beq_eq_true h6) hdc
  case return_ =>
    cases hoi
    rcases st with _ | ⟨w, r⟩
    · obtain ⟨h6, h7⟩ := pv_bif h
      exact hQv h7 (Nat.eq_of_beq_eq_true h6) hdc
    · exact False.elim h
  all_goals exact False.elim h
end PVT
