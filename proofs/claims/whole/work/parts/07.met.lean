theorem pv_cp_inv {As : List Value} {S : pv_S} {P : pv_R} (h : pv_cp As S P) : ∃ x sp y dp n, As = [.ref x, .int sp, .ref y, .int dp, .int n] ∧ (pv_ai S x fun t n0 f => pv_ai S y fun u n1 g => bif (Nat.beq t 0 && Nat.beq u 0) then ((¬ sp < 0 ∧ ¬ dp < 0 ∧ ¬ n < 0) ∧ sp.toNatClampNeg + n.toNatClampNeg ≤ n0 ∧ dp.toNatClampNeg + n.toNatClampNeg ≤ n1) ∧ P none (pv_set S y (.inl (0, n1, .inl (va_cpy f g sp.toNatClampNeg dp.toNatClampNeg n.toNatClampNeg)))) else False) := by
  unfold pv_cp at h
  split at h
  · exact ⟨_, _, _, _, _, rfl, h⟩
  · exact h.elim
theorem pv_mn_inv {As : List Value} {S : pv_S} {P : pv_R} (h : pv_mn As S P) : ∃ x y, As = [.int x, .int y] ∧ P (some (.int (if y < x then y else x))) S := by
  unfold pv_mn at h
  split at h
  · exact ⟨_, _, rfl, h⟩
  · exact h.elim
section PVM
variable {p : Program} {l : Launch} {e : Env} {R : Room} {s : State} {m : MethodId} {args : Array Value} {below : List Frame} {meth : Method} {c : Code}
variable {cl : List vw_C} {tyf : Nat → Nat → FieldType} {Ts NW : List Cond} {mt : Nat → Option pv_M} {D : va_G} {cA ad : Nat → Nat} {H0 : Heap} {n nL : Nat} {own : String} {cc : ByteArray}
/-- what is known of a method whose contract holds at depth d -/
def pv_Mets (l : Launch) (cl : List vw_C) (Ts NW : List Cond) (mt : Nat → Option pv_M) (D : va_G) (cA ad : Nat → Nat) (n d : Nat) (call : pv_C) : Prop := ∀ (j : Nat) (As : List Value) (S : pv_S) (P : pv_R), S.length = n → call j As S P → ¬ j = 999 ∧ ¬ j = 998 → ∀ y bc maxL ret stat na rt T, mt j = some (y, bc, maxL, ret, stat, na, rt, T) → Met l y (pv_ws Ts y bc maxL ret) (pv_rm d) (pv_Pc D cl cA ad NW As S) (pv_Qc D cl cA ad n P) 0 0 (pv_A ad n)
theorem pv_stV {Qs : State → Prop} {d : Nat} {call : pv_C} (hM : pv_Mets l cl Ts NW mt D cA ad n d call) (hok : pv_ok cl tyf Ts NW mt) (hR : R.frames = d + 1 ∧ R.locals = 40 * (d + 1)) (hx : p.tables.exec = Jvm.exec) (hb : c.code = cc) (hml : c.maxLocals = nL) (hown : s.vm.findClass own = some m.cls) (hts : ∀ w ∈ Ts, w.before args s = true) (hnw : ∀ w ∈ NW, va_Nw w s) (hK : va_K D cl (pv_tys cA) s)
    {a1 pc : Nat} {S : pv_S} {H : Heap} {locs : List Loc} (hw : pv_Wo D cl cA ad (pv_A ad n) H0 n S H locs) {lsA : Array Slot} (hls : lsA.size = nL)
    (i ci b : Nat) (fs As r : List Value) (P : pv_R) (hoi : pv_oi cl tyf Ts NW mt own nL pc 3 a1 As.length (.ref ci) (.invokevirtual i)) (he : S[b]? = some (.inr (ci, fs))) (hwd : pv_wd r ≤ 8) (hdc : decode cc pc = .ok (.invokevirtual i, 3)) (hc : call a1 (.ref b :: As) S P)
    (kk : ∀ o S', P o S' → ∀ (H1 : Heap) (locs1 : List Loc), pv_Wo D cl cA ad (pv_A ad n) H0 n S' H1 locs1 → W p l e R s m args below meth c H1 locs1 0 0 Qs (F0 m (pc + 3) lsA ((pv_ol o r).map (pv_v ad)))) : W p l e R s m args below meth c H locs 0 0 Qs (F0 m pc lsA ((As.reverse ++ .ref b :: r).map (pv_v ad))) := by
  obtain ⟨-, ⟨y, bc, maxL, ret, stat, na, rt, T⟩, hx1, ⟨hst, hna⟩, ⟨ci', T', N, hci, hcl⟩, hml2⟩ := hoi
  cases hci
  obtain ⟨⟨hg, hN⟩, -, ⟨h999, h998⟩, hms⟩ := hok
  have hj : ¬ a1 = 999 ∧ ¬ a1 = 998 := ⟨(fun h => by rw [h, h999] at hx1; cases hx1), (fun h => by rw [h, h998] at hx1; cases hx1)⟩
  obtain ⟨⟨⟨hpl, hcode⟩, hini, hdsc⟩, ⟨-, hinst⟩, ⟨hmx, -⟩, -⟩ := hms _ _ _ _ _ _ _ _ _ hx1
  obtain ⟨hin1, hin2⟩ := hinst hst
  have hMet := hM a1 (.ref b :: As) S P hw.1 hc hj _ _ _ _ _ _ _ _ hx1
  have hG : GoodIn Ts (pv_ws Ts y bc maxL ret) := pv_good hg hcode
  have hstk : ((As.reverse ++ .ref b :: r).map (pv_v ad)) = (As.map (pv_v ad)).reverse ++ .ref (ad b) :: r.map (pv_v ad) := by simp [pv_v]
  have hlen : (As.map (pv_v ad)).length = na := by rw [List.length_map]; exact hna
  have hroom : (pv_rm d).frames + 1 ≤ R.frames ∧ 8 + (maxL + 11) + (pv_rm d).locals ≤ R.locals := by
    rw [hR.1, hR.2]
    refine ⟨Nat.le_refl _, ?_⟩
    show 8 + (maxL + 11) + 40 * d ≤ 40 * (d + 1)
    omega
  have hpv : PreV s H y.cls (ad b) (pv_Pc D cl cA ad NW (.ref b :: As) S) (As.map (pv_v ad)) := by
    refine ⟨pv_blind hN, va_recv hK hw.2.1 (ci := ci) (q0 := b) hcl (pv_w_0 cA ad he), fun U hU hW => ⟨rfl, by rw [hU]; exact hw.2.1, va_K.moved hW.alike hK, pv_warm hN hW hnw⟩⟩
  have hr8 : ((r.map (pv_v ad)).map fun v => v.category).sum ≤ 8 := by rw [pv_wd_map]; exact hwd
  rw [hstk]
  rcases hml2 with hl | ⟨host, hl⟩
  · exact pv_cont (va_runV (As := As.map (pv_v ad)) (rest := r.map (pv_v ad)) ⟨hx, hb, hml, hown, hts⟩ hMet ⟨callB_of na hts hG rfl rfl rfl (hts _ hini) (hts _ hl) hdsc hroom, hts _ hin1, hts _ hin2⟩ hpv rfl hlen hls rfl (lv_room hr8) hdc ⟨Nat.zero_le _, Nat.zero_le _⟩) hw.2.2 kk
  · exact pv_cont (va_runVN (As := As.map (pv_v ad)) (rest := r.map (pv_v ad)) ⟨hx, hb, hml, hown, hts⟩ hMet ⟨va_cnB na hts hG rfl rfl rfl (hnw _ hl) (hts _ hini) hdsc hroom, hts _ hin1, hts _ hin2⟩ hpv rfl hlen hls rfl (lv_room hr8) hdc ⟨Nat.zero_le _, Nat.zero_le _⟩) hw.2.2 kk
theorem pv_stS {Qs : State → Prop} {d : Nat} {call : pv_C} (hM : pv_Mets l cl Ts NW mt D cA ad n d call) (h9 : (∀ As S P, call 999 As S P → pv_cp As S P) ∧ (∀ As S P, call 998 As S P → pv_mn As S P)) (hok : pv_ok cl tyf Ts NW mt) (hD : ∀ S : pv_S, S.length = n → va_D (pv_A ad n) (pv_w cA ad 0 S)) (hR : R.frames = d + 1 ∧ R.locals = 40 * (d + 1)) (hx : p.tables.exec = Jvm.exec) (hb : c.code = cc) (hml : c.maxLocals = nL) (hown : s.vm.findClass own = some m.cls) (hts : ∀ w ∈ Ts, w.before args s = true) (hnw : ∀ w ∈ NW, va_Nw w s) (hK : va_K D cl (pv_tys cA) s)
    {a1 pc : Nat} {v : Value} {S : pv_S} {H : Heap} {locs : List Loc} (hw : pv_Wo D cl cA ad (pv_A ad n) H0 n S H locs) {lsA : Array Slot} (hls : lsA.size = nL)
    (i : Nat) (As r : List Value) (P : pv_R) (hoi : pv_oi cl tyf Ts NW mt own nL pc 3 a1 As.length v (.invokestatic i)) (hwd : pv_wd r ≤ 8) (hdc : decode cc pc = .ok (.invokestatic i, 3)) (hc : call a1 As S P)
    (kk : ∀ o S', P o S' → ∀ (H1 : Heap) (locs1 : List Loc), pv_Wo D cl cA ad (pv_A ad n) H0 n S' H1 locs1 → W p l e R s m args below meth c H1 locs1 0 0 Qs (F0 m (pc + 3) lsA ((pv_ol o r).map (pv_v ad)))) : W p l e R s m args below meth c H locs 0 0 Qs (F0 m pc lsA ((As.reverse ++ r).map (pv_v ad))) := by
  obtain ⟨-, hoi⟩ := hoi
  obtain ⟨⟨hg, hN⟩, -, ⟨h999, h998⟩, hms⟩ := hok
  have hr8 : ((r.map (pv_v ad)).map fun v => v.category).sum ≤ 8 := by rw [pv_wd_map]; exact hwd
  rcases hoi with ⟨rfl, ha5, hl, hcp1, hcp2, hcp3⟩ | ⟨rfl, ha5, hl, hcp1, hcp2, hcp3⟩ | ⟨hj, ⟨y, bc, maxL, ret, stat, na, rt, T⟩, hx1, ⟨hst, hna⟩, hml2⟩
  · have hc := h9.1 As S P hc
    obtain ⟨x, sp, y, dp, z, rfl, hc⟩ := pv_cp_inv hc
    · obtain ⟨t, n0, f, h1, hc⟩ := pv_ai_inv hc
      obtain ⟨u, n1, g, h2, hc⟩ := pv_ai_inv hc
      obtain ⟨h3, ⟨⟨q1, q2, q3⟩, q4, q5⟩, hP⟩ := pv_bif hc
      rw [Bool.and_eq_true] at h3
      have e1 := Nat.eq_of_beq_eq_true h3.1
      have e2 := Nat.eq_of_beq_eq_true h3.2
      subst e1
      subst e2
      have hloc : ((r.map (pv_v ad)).map fun v => v.category).sum + (nativeFrameWords "java/lang/System" "arraycopy" 5 + 11) ≤ R.locals := by
        rw [hR.2]
        have : nativeFrameWords "java/lang/System" "arraycopy" 5 = 7 := by decide +kernel
        omega
      refine va_copyi (ty := .int) hx hb (by rw [hml]; exact hls.symm) hown (hts _ hl) (hts _ hcp1) (hts _ hcp2) (hts _ hcp3) hK hw.2.1 (hD S hw.1) hw.2.2 x y 0 0 (pv_w_0 cA ad h1) (pv_w_0 cA ad h2) rfl rfl rfl q1 q2 q3 q4 q5 (fun _ _ => rfl) (by rw [hR.1]; exact Nat.succ_le_succ (Nat.zero_le _)) hloc hdc (fun H1 locs1 w1 _ w3 => ?_)
      exact kk none _ hP H1 locs1 (pv_ast hw (x := .inl (0, n1, .inl (va_cpy f g sp.toNatClampNeg dp.toNatClampNeg z.toNatClampNeg))) rfl w1 w3)
  · obtain ⟨x, y, rfl, hP⟩ := pv_mn_inv (h9.2 As S P hc)
    have hloc : ((r.map (pv_v ad)).map fun v => v.category).sum + 13 ≤ R.locals := by rw [hR.2]; omega
    exact va_mmin hx hb (by rw [hml]; exact hls.symm) hown (hts _ hl) (hts _ hcp1) (hts _ hcp2) (hts _ hcp3) (by rw [hR.1]; exact Nat.succ_le_succ (Nat.zero_le _)) hloc (Nat.zero_le _) (Nat.zero_le _) hdc (kk _ _ hP H locs hw)
  · obtain ⟨⟨⟨hpl, hcode⟩, hini, hdsc⟩, ⟨hstat, -⟩, ⟨hmx, -⟩, -⟩ := hms _ _ _ _ _ _ _ _ _ hx1
    have hin1 := hstat hst
    have hMet := hM a1 As S P hw.1 hc hj _ _ _ _ _ _ _ _ hx1
    have hG : GoodIn Ts (pv_ws Ts y bc maxL ret) := pv_good hg hcode
    have hstk : ((As.reverse ++ r).map (pv_v ad)) = (As.map (pv_v ad)).reverse ++ r.map (pv_v ad) := by simp
    have hlen : (As.map (pv_v ad)).length = na := by rw [List.length_map]; exact hna
    have hroom : (pv_rm d).frames + 1 ≤ R.frames ∧ 8 + (maxL + 11) + (pv_rm d).locals ≤ R.locals := by
      rw [hR.1, hR.2]
      refine ⟨Nat.le_refl _, ?_⟩
      show 8 + (maxL + 11) + 40 * d ≤ 40 * (d + 1)
      omega
    have hpv : PreS s H (pv_Pc D cl cA ad NW As S) (As.map (pv_v ad)) :=
      ⟨pv_blind hN, fun U hU hW => ⟨rfl, by rw [hU]; exact hw.2.1, va_K.moved hW.alike hK, pv_warm hN hW hnw⟩⟩
    rw [hstk]
    rcases hml2 with hl | ⟨host, hl⟩
    · exact pv_cont (va_runS (As := As.map (pv_v ad)) (rest := r.map (pv_v ad)) ⟨hx, hb, hml, hown, hts⟩ hMet ⟨callB_of na hts hG rfl rfl rfl (hts _ hini) (hts _ hl) hdsc hroom, hts _ hin1⟩ hpv rfl hlen hls rfl (lv_room hr8) hdc ⟨Nat.zero_le _, Nat.zero_le _⟩) hw.2.2 kk
    · exact pv_cont (va_runSN (As := As.map (pv_v ad)) (rest := r.map (pv_v ad)) ⟨hx, hb, hml, hown, hts⟩ hMet ⟨va_cnB na hts hG rfl rfl rfl (hnw _ hl) (hts _ hini) hdsc hroom, hts _ hin1, trivial⟩ hpv rfl hlen hls rfl (lv_room hr8) hdc ⟨Nat.zero_le _, Nat.zero_le _⟩) hw.2.2 kk
/-- the walk of a method's body, from a configuration on -/
theorem pv_walk {d : Nat} {call : pv_C} {ret : Option FieldType} {rt : Nat} {T : Nat → Option pv_I} {P : pv_R}
    (hM : ∀ d', d = d' + 1 → pv_Mets l cl Ts NW mt D cA ad n d' call) (h0 : d = 0 → ∀ j As S P, ¬ call j As S P) (h9 : (∀ As S P, call 999 As S P → pv_cp As S P) ∧ (∀ As S P, call 998 As S P → pv_mn As S P)) (hok : pv_ok cl tyf Ts NW mt) (hD : ∀ S : pv_S, S.length = n → va_D (pv_A ad n) (pv_w cA ad 0 S)) (hR : R.frames = d ∧ R.locals = 40 * d) (hx : p.tables.exec = Jvm.exec) (hb : c.code = cc) (hml : c.maxLocals = nL) (hown : s.vm.findClass own = some m.cls) (hts : ∀ w ∈ Ts, w.before args s = true) (hnw : ∀ w ∈ NW, va_Nw w s) (hK : va_K D cl (pv_tys cA) s) (hr : meth.sig.returnType = ret) (hrt : pv_rt rt ret = true) (hlk : meth.locks = false)
    (hT : ∀ (pc : Nat) (ins : Instr) (len nx a1 a2 : Nat) (v : Value), T pc = some (ins, len, nx, a1, a2, v) → decode cc pc = .ok (ins, len) ∧ nx = pc + len ∧ pv_oi cl tyf Ts NW mt own nL pc len a1 a2 v ins) :
    ∀ (c' : pv_c), pv_go T rt call P c' → ∀ (H : Heap) (locs : List Loc), pv_Wo D cl cA ad (pv_A ad n) s.heap n c'.2.2.2 H locs → ∀ lsA : Array Slot, lv_has lsA nL (pv_lc ad c'.2.1) → W p l e R s m args below meth c H locs 0 0 (MQ below (pv_Qc D cl cA ad n P) args s 0 0 (pv_A ad n)) (F0 m c'.1 lsA (c'.2.2.1.map (pv_v ad))) := by
  intro c0 hgo
  refine hgo (fun c' => ∀ (H : Heap) (locs : List Loc), pv_Wo D cl cA ad (pv_A ad n) s.heap n c'.2.2.2 H locs → ∀ lsA : Array Slot, lv_has lsA nL (pv_lc ad c'.2.1) → W p l e R s m args below meth c H locs 0 0 (MQ below (pv_Qc D cl cA ad n P) args s 0 0 (pv_A ad n)) (F0 m c'.1 lsA (c'.2.2.1.map (pv_v ad)))) ?_
  intro c' h H locs hw lsA hl
  · obtain ⟨pc, ls, st, S⟩ := c'
    have h : (match T pc with | some (ins, _, nx, a1, a2, v) => pv_ex rt call P (fun c' => ∀ (H : Heap) (locs : List Loc), pv_Wo D cl cA ad (pv_A ad n) s.heap n c'.2.2.2 H locs → ∀ lsA : Array Slot, lv_has lsA nL (pv_lc ad c'.2.1) → W p l e R s m args below meth c H locs 0 0 (MQ below (pv_Qc D cl cA ad n P) args s 0 0 (pv_A ad n)) (F0 m c'.1 lsA (c'.2.2.1.map (pv_v ad)))) nx a1 a2 v pc ls st S ins | none => False) := h
    split at h
    · rename_i ins len nx a1 a2 v hq
      obtain ⟨hdc, rfl, hoi⟩ := hT _ _ _ _ _ _ _ hq
      have hret : ∀ o : Option Value, P o S → ∀ t : State, t.heap = H → pv_Qc D cl cA ad n P args s (.returned (o.map (pv_v ad))) t := fun o ho t ht => ⟨⟨o, S, rfl, ho, hw.1, by rw [ht]; exact hw.2.1⟩, hw.2.2.F ht⟩
      refine pv_sound_ex (mt := mt) hx hb hml hown hts hnw hK hok.2.1 hD hdc hoi h hw hl (fun c' hc' H locs hw lsA hl => hc' H locs hw lsA hl) ?_ ?_ ?_ ?_ ?_
      · intro x hQ hrx hd1
        rcases hrx with rfl | ⟨rfl, h01⟩
        · have er : ret = some .int := by
            cases ret with
            | none => cases hrt
            | some ty => cases ty <;> first | rfl | cases hrt
          exact W.iret hx hb (hr.trans er) (fun t ht _ => hret (some (.int x)) hQ t ht) hw.2.2.2.2 hd1 hlk
        · have er : ret = some .boolean := by
            cases ret with
            | none => cases hrt
            | some ty => cases ty <;> first | rfl | cases hrt
          exact W.zret hx hb (hr.trans er) (pv_z01 h01).1 (fun t ht _ => hret (some (.int x)) hQ t ht) hw.2.2.2.2 hd1 hlk
      · intro x hQ hrx hd1
        subst hrx
        have er : ret = some .long := by
          cases ret with
          | none => cases hrt
          | some ty => cases ty <;> first | rfl | cases hrt
        exact W.lret hx hb (hr.trans er) (fun t ht _ => hret (some (.long x)) hQ t ht) hw.2.2.2.2 hd1 hlk
      · intro hQ hrx hd1
        subst hrx
        have er : ret = none := by
          cases ret with
          | none => rfl
          | some ty => cases hrt
        exact W.vret hx hb (hr.trans er) (fun t ht _ => hret none hQ t ht) hw.2.2.2.2 hd1 hlk
      · intro i ci b fs As r P' hoi' he hwd hd1 hc kk
        cases d with
        | zero => exact absurd hc (h0 rfl _ _ _ _)
        | succ d => exact pv_stV (hM d rfl) hok hR hx hb hml hown hts hnw hK hw hl.1 i ci b fs As r P' hoi' he hwd hd1 hc kk
      · intro i As r P' hoi' hwd hd1 hc kk
        cases d with
        | zero => exact absurd hc (h0 rfl _ _ _ _)
        | succ d => exact pv_stS (hM d rfl) h9 hok hD hR hx hb hml hown hts hnw hK hw hl.1 i As r P' hoi' hwd hd1 hc kk
    · exact h.elim
/-- THE PURE MACHINE'S CALLS ARE CONTRACTS -/
theorem pv_sound (hok : pv_ok cl tyf Ts NW mt) (hD : ∀ S : pv_S, S.length = n → va_D (pv_A ad n) (pv_w cA ad 0 S)) : ∀ d, pv_Mets l cl Ts NW mt D cA ad n d (pv_call mt (d + 1)) := by
  intro d
  induction d with
  | zero =>
    intro j As S P hlen hc hj y bc maxL ret stat na rt T hx1
    have hc : (bif Nat.beq j 999 then pv_cp As S P else bif Nat.beq j 998 then pv_mn As S P else match mt j with
      | some (_, _, maxL, _, _, _, rt, T) => pv_wd As ≤ maxL ∧ pv_go T rt (pv_call mt 0) P (0, lv_args 0 As, [], S)
      | none => False) := hc
    have hjb : Nat.beq j 999 = false := by
      cases hb : Nat.beq j 999 with
      | true => exact absurd (Nat.eq_of_beq_eq_true hb) hj.1
      | false => rfl
    have hjc : Nat.beq j 998 = false := by
      cases hb : Nat.beq j 998 with
      | true => exact absurd (Nat.eq_of_beq_eq_true hb) hj.2
      | false => rfl
    rw [hjb, hjc, hx1] at hc
    obtain ⟨hwd, hit⟩ := hc
    obtain ⟨⟨⟨hpl, hcode⟩, hini, hdsc⟩, -, ⟨hmx, hrt⟩, hT⟩ := hok.2.2.2 _ _ _ _ _ _ _ _ _ hx1
    refine Met.ofW (cc := bc) (maxL := maxL) (ret := ret) hpl rfl ?_
    intro p e s m args below meth c s₁ B hml hv
    obtain ⟨rfl, hP, hK, hN⟩ := hv
    have hts : ∀ w ∈ Ts, w.before _ s = true := fun w hw => atoms_spec (ws := pv_ws Ts y bc maxL ret) B.pre w (List.mem_cons_of_mem _ hw)
    have hown : s.vm.findClass y.cls = some m.cls := findClass_of_methodNamed B.named
    have hl := lv_entry (As.map (pv_v ad)) (n := maxL) (by rw [pv_sl_len, pv_wd, pv_wd_map]; exact hwd)
    rw [lg_entry_eq]
    generalize (lg_sl (As.map (pv_v ad)) ++ List.replicate (maxL - (lg_sl (As.map (pv_v ad))).length) Slot.unset).toArray = lsA at hl ⊢
    rw [pv_lc_args] at hl
    exact pv_walk (d := 0) (call := pv_call mt 0) (R := pv_rm 0) (fun d' h => by cases h) (fun _ j As S P h => h) ⟨fun As S P h => h.elim, fun As S P h => h.elim⟩ hok hD ⟨rfl, rfl⟩ B.exec B.bytes hml hown hts hN hK B.returns hrt B.notSynchronized hT _ hit _ _ ⟨hlen, hP, va_S.rf⟩ lsA hl
  | succ d ih =>
    intro j As S P hlen hc hj y bc maxL ret stat na rt T hx1
    have hc : (bif Nat.beq j 999 then pv_cp As S P else bif Nat.beq j 998 then pv_mn As S P else match mt j with
      | some (_, _, maxL, _, _, _, rt, T) => pv_wd As ≤ maxL ∧ pv_go T rt (pv_call mt (d + 1)) P (0, lv_args 0 As, [], S)
      | none => False) := hc
    have hjb : Nat.beq j 999 = false := by
      cases hb : Nat.beq j 999 with
      | true => exact absurd (Nat.eq_of_beq_eq_true hb) hj.1
      | false => rfl
    have hjc : Nat.beq j 998 = false := by
      cases hb : Nat.beq j 998 with
      | true => exact absurd (Nat.eq_of_beq_eq_true hb) hj.2
      | false => rfl
    rw [hjb, hjc, hx1] at hc
    obtain ⟨hwd, hit⟩ := hc
    obtain ⟨⟨⟨hpl, hcode⟩, hini, hdsc⟩, -, ⟨hmx, hrt⟩, hT⟩ := hok.2.2.2 _ _ _ _ _ _ _ _ _ hx1
    refine Met.ofW (cc := bc) (maxL := maxL) (ret := ret) hpl rfl ?_
    intro p e s m args below meth c s₁ B hml hv
    obtain ⟨rfl, hP, hK, hN⟩ := hv
    have hts : ∀ w ∈ Ts, w.before _ s = true := fun w hw => atoms_spec (ws := pv_ws Ts y bc maxL ret) B.pre w (List.mem_cons_of_mem _ hw)
    have hown : s.vm.findClass y.cls = some m.cls := findClass_of_methodNamed B.named
    have hl := lv_entry (As.map (pv_v ad)) (n := maxL) (by rw [pv_sl_len, pv_wd, pv_wd_map]; exact hwd)
    rw [lg_entry_eq]
    generalize (lg_sl (As.map (pv_v ad)) ++ List.replicate (maxL - (lg_sl (As.map (pv_v ad))).length) Slot.unset).toArray = lsA at hl ⊢
    rw [pv_lc_args] at hl
    exact pv_walk (d := d + 1) (call := pv_call mt (d + 1)) (R := pv_rm (d + 1)) (fun d' h => by cases h; exact ih) (fun h => by cases h) ⟨fun As S P h => h, fun As S P h => h⟩ hok hD ⟨rfl, rfl⟩ B.exec B.bytes hml hown hts hN hK B.returns hrt B.notSynchronized hT _ hit _ _ ⟨hlen, hP, va_S.rf⟩ lsA hl
end PVM
