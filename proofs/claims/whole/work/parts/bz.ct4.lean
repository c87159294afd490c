/-! constructors: words, fields that are set, calls of a machine's method from outside -/
def lwG : List Cond := lw_tbl.filter goodWord
theorem lwG_in {w : Cond} (h : w ∈ lw_tbl) (hg : goodWord w = true) : w ∈ lwG := List.mem_filter.mpr ⟨h, hg⟩
theorem lwG_good : ∀ w ∈ lwG, goodWord w = true := fun _ h => (List.mem_filter.mp h).2
theorem lwG_tbl : ∀ w ∈ lwG, w ∈ lw_tbl := fun _ h => (List.mem_filter.mp h).1
theorem rq_TsG : ∀ w ∈ rq_Ts, w ∈ lwG := fun w h => lwG_in (rq_Ts_in w h) (rq_good w h)
theorem cq_TsG : ∀ w ∈ cq_Ts, w ∈ lwG := fun w h => lwG_in (cq_Ts_in w h) (cq_good w h)
theorem rq_okG : pv_okC rq_cl rq_ty lwG := fun ci C T N h => by
  obtain ⟨h1, h2⟩ := rq_okC ci C T N h
  exact ⟨fun w hw => rq_TsG w (h1 w hw), h2⟩
theorem cq_okG : pv_okC cq_cl cq_ty lwG := fun ci C T N h => by
  obtain ⟨h1, h2⟩ := cq_okC ci C T N h
  exact ⟨fun w hw => cq_TsG w (h1 w hw), h2⟩
theorem ctOK_G {cc : ByteArray} {own : String} {T : u_T} {N : Nat} {ty0 : Nat → FieldType} : ∀ (L : List ctD) (pc : Nat), ctOK cc lw_tbl own T N ty0 pc L → ctOK cc lwG own T N ty0 pc L
  | [], _, _ => trivial
  | d :: L, pc, ⟨⟨h1, ⟨h2, h3, h4⟩, ⟨h5, h6⟩, h7⟩, hL⟩ => ⟨⟨h1, ⟨h2, lwG_in h3 rfl, h4⟩, ⟨h5, lwG_in h6 rfl⟩, h7⟩, ctOK_G L _ hL⟩
theorem gd_sub {big Ts : List Cond} {y : MethodName} {cc : ByteArray} {maxL : Nat} {ret : Option FieldType} (hs : ∀ w ∈ Ts, w ∈ big) (hg : ∀ w ∈ Ts, goodWord w = true) (hc : Cond.code y cc maxL ret ∈ Ts) : GoodIn big (pv_ws Ts y cc maxL ret) := fun w hw => by
  rcases List.mem_cons.mp hw with rfl | h
  · exact ⟨hs _ hc, good_of_word (hg _ hc)⟩
  · exact ⟨hs _ h, good_of_word (hg _ h)⟩
theorem ct_D_of {A : Nat → Prop} {cA ad : Nat → Nat} {S : pv_S} (h : va_D A (pv_w cA ad 0 S)) : ∀ S' : pv_S, S'.length = S.length → va_D (pv_A ad S.length) (pv_w cA ad 0 S') := by
  intro S' hl
  refine ⟨fun i j p q hi hj he => ?_, fun k q hk => ?_⟩
  · have li : i < S'.length := by have := (List.getElem?_eq_some_iff.mp hi).1; rw [pv_w_len] at this; exact this
    have lj : j < S'.length := by have := (List.getElem?_eq_some_iff.mp hj).1; rw [pv_w_len] at this; exact this
    have gi : p.1 = ad i := by rw [pv_w_at, List.getElem?_eq_getElem li] at hi; rw [← Option.some.inj hi, Nat.zero_add]
    have gj : q.1 = ad j := by rw [pv_w_at, List.getElem?_eq_getElem lj] at hj; rw [← Option.some.inj hj, Nat.zero_add]
    rw [hl] at li lj
    exact h.1 i j _ _ (pv_w_0 cA ad (List.getElem?_eq_getElem li)) (pv_w_0 cA ad (List.getElem?_eq_getElem lj)) (by show ad i = ad j; rw [← gi, ← gj]; exact he)
  · have lk : k < S'.length := by have := (List.getElem?_eq_some_iff.mp hk).1; rw [pv_w_len] at this; exact this
    have gk : q.1 = ad k := by rw [pv_w_at, List.getElem?_eq_getElem lk] at hk; rw [← Option.some.inj hk, Nat.zero_add]
    exact ⟨k, by rw [← hl]; exact lk, gk.symm⟩
theorem pv_A_of {A : Nat → Prop} {cA ad : Nat → Nat} {S : pv_S} (h : va_D A (pv_w cA ad 0 S)) : ∀ q, pv_A ad S.length q → A q := by
  rintro q ⟨k, hk, rfl⟩
  exact h.2 k _ (pv_w_0 cA ad (List.getElem?_eq_getElem hk))
theorem pv_D_len {A : Nat → Prop} {cA ad : Nat → Nat} {S S' : pv_S} (h : va_D A (pv_w cA ad 0 S)) (hl : S'.length = S.length) : va_D A (pv_w cA ad 0 S') :=
  (ct_D_of h S' hl).weaken (fun _ q _ hq => pv_A_of h q.1 hq)
theorem pv_w_cg {cA ad ad' : Nat → Nat} {n : Nat} (hh : ∀ k, k < n → ad k = ad' k) : ∀ (S : pv_S) (i : Nat), i + S.length ≤ n → rfIn n S → pv_w cA ad i S = pv_w cA ad' i S
  | [], _, _, _ => rfl
  | x :: S, i, h, hr => by
    have hl : (x :: S).length = S.length + 1 := rfl
    have ex : pv_e cA ad x = pv_e cA ad' x := by
      cases x with
      | inl a => rfl
      | inr o =>
        obtain ⟨ci, fs⟩ := o
        show Sum.inr (ci, fs.map (pv_v ad)) = Sum.inr (ci, fs.map (pv_v ad'))
        rw [List.map_congr_left (fun v hv => ?_)]
        cases v with
        | ref k => show Value.ref (ad k) = Value.ref (ad' k); rw [hh k (hr _ List.mem_cons_self ci fs rfl k hv)]
        | _ => rfl
    show (ad i, pv_e cA ad x) :: pv_w cA ad (i + 1) S = (ad' i, pv_e cA ad' x) :: pv_w cA ad' (i + 1) S
    rw [pv_w_cg hh S (i + 1) (by omega) (fun y hy => hr y (List.mem_cons_of_mem _ hy)), ex, hh i (by omega)]
theorem ctF_ref : ∀ (L : List ctD) (fs : List Value) (j : Nat), (∀ k, Value.ref k ∈ fs → k < j) → ∀ k, Value.ref k ∈ ctF fs j L → k < j + L.length
  | [], _, _, h, k, hk => h k hk
  | d :: L, fs, j, h, k, hk => by
    have hj : j < j + 1 := Nat.lt_succ_self j
    have g : k < j + 1 + L.length := ctF_ref L (pv_set fs d.2.2.1 (.ref j)) (j + 1) (fun k hk => set_ref fs _ hk h hj) k hk
    have e : (d :: L).length = L.length + 1 := rfl
    rw [e, ← Nat.add_assoc, Nat.add_right_comm]
    exact g
theorem ctF_len : ∀ (L : List ctD) (fs : List Value) (j : Nat), (ctF fs j L).length = fs.length
  | [], _, _ => rfl
  | d :: L, fs, j => by
    show (ctF (pv_set fs d.2.2.1 (.ref j)) (j + 1) L).length = fs.length
    rw [ctF_len L, pv_set_len]
theorem ctA_arr : ∀ (L : List ctD), ∀ x ∈ ctA L, ∃ a, x = .inl a
  | [], x, h => absurd h List.not_mem_nil
  | d :: L, x, h => by
    rcases List.mem_cons.mp h with rfl | h
    · exact ⟨_, rfl⟩
    · exact ctA_arr L x h
theorem ctA_len : ∀ (L : List ctD), (ctA L).length = L.length
  | [] => rfl
  | d :: L => by show (ctA L).length + 1 = L.length + 1; rw [ctA_len L]
/-- a field that is set: local, value, field, the field's index -/
abbrev ctE : Type := (Nat × Value) × (Nat × Nat)
def ctU (na : Nat) (cc : ByteArray) (Ts : List Cond) (own : String) (T : u_T) (N : Nat) (ty0 : Nat → FieldType) (pc : Nat) (d : ctE) : Prop :=
  (decode cc pc = .ok (.aload_n 0, 1) ∧ ((∃ (n : Int) (v : Int32), d.1.2 = .int v ∧ decode cc (pc + 1) = .ok (.iconst n, 1) ∧ Int32.ofInt n = v) ∨ (∃ (n : Fin 2) (v : Int64), d.1.2 = .long v ∧ decode cc (pc + 1) = .ok (.lconst n, 1) ∧ Int64.ofNat (n : Nat) = v) ∨ (∃ k : Fin 4, (k : Nat) = d.1.1 ∧ (1 ≤ d.1.1 ∧ d.1.1 ≤ na) ∧ d.1.2 = .ref (50 + d.1.1) ∧ decode cc (pc + 1) = .ok (.aload_n k, 1))) ∧ decode cc (pc + 2) = .ok (.putfield d.2.2, 3)) ∧
  ((d.2.1 < N ∧ Cond.fieldLink own d.2.2 own (T d.2.1).2.1 (T d.2.1).2.2.1 ∈ Ts) ∧ ∀ ad : Nat → Nat, narrow (ty0 d.2.1) (pv_v ad d.1.2) = pv_v ad d.1.2 ∧ fits (ty0 d.2.1) (pv_v ad d.1.2) = true)
def ctOU (na : Nat) (cc : ByteArray) (Ts : List Cond) (own : String) (T : u_T) (N : Nat) (ty0 : Nat → FieldType) : Nat → List ctE → Prop
  | _, [] => True
  | pc, d :: L => ctU na cc Ts own T N ty0 pc d ∧ ctOU na cc Ts own T N ty0 (pc + 5) L
def ctG : List Value → List ctE → List Value
  | fs, [] => fs
  | fs, d :: L => ctG (pv_set fs d.2.1 d.1.2) L
def ctPe : Nat → List ctE → Nat
  | pc, [] => pc
  | pc, _ :: L => ctPe (pc + 5) L
section CT4
variable {p : Program} {l : Launch} {e : Env} {R : Room} {s : State} {m : MethodId} {args : Array Value} {below : List Frame} {meth : Method} {c : Code}
variable {cl : List vw_C} {D : va_G} {cA ad : Nat → Nat} {H0 : Heap} {cc : ByteArray} {A : Nat → Prop}
theorem ct_puts {Q : State → Prop} {own : String} {Ts : List Cond} {tyf : Nat → Nat → FieldType} {cells slots : Nat} (hx : p.tables.exec = Jvm.exec) (hb : c.code = cc) (hown : s.vm.findClass own = some m.cls) (hts : ∀ w ∈ Ts, w.before args s = true) (hK : va_K D cl (pv_tys cA) s) (hC : pv_okC cl tyf Ts) (hin : meth.name = "<init>") {nL na : Nat} {ls : Array Slot} (hl0 : lv_has ls nL [(0, .ref (ad 0))]) (hlv : ∀ k, 1 ≤ k → k ≤ na → ls[k]? = some (.val (.ref (ad (50 + k))))) {a1 N : Nat} {T : u_T} (hc : cl[a1]? = some (own, T, N)) {arrs : pv_S} : ∀ (L : List ctE) (pc : Nat) (fs : List Value) (H : Heap) (locs : List Loc), ctOU na cc Ts own T N (tyf a1) pc L → fs.length = N → va_P D cl (pv_w cA ad 0 (.inr (a1, fs) :: arrs)) H → va_D A (pv_w cA ad 0 (.inr (a1, fs) :: arrs)) → va_S A H0 H locs →
    (∀ (H1 : Heap) (locs1 : List Loc), va_P D cl (pv_w cA ad 0 (.inr (a1, ctG fs L) :: arrs)) H1 → va_D A (pv_w cA ad 0 (.inr (a1, ctG fs L) :: arrs)) → va_S A H0 H1 locs1 → W p l e R s m args below meth c H1 locs1 cells slots Q (F0 m (ctPe pc L) ls [])) → W p l e R s m args below meth c H locs cells slots Q (F0 m pc ls [])
  | [], pc, fs, H, locs, _, _, hP, hD, hS, kk => kk H locs hP hD hS
  | d :: L, pc, fs, H, locs, ⟨⟨⟨d0, dp, d2⟩, ⟨hk, hlk⟩, hq⟩, hL⟩, hfl, hP, hD, hS, kk => by
    have hm : (T d.2.1).2.2.2 = false ∨ ((T d.2.1).2.2.2 = true ∧ meth.name = "<init>" ∧ own = own) := by
      cases hT : (T d.2.1).2.2.2
      · exact Or.inl rfl
      · exact Or.inr ⟨rfl, hin, rfl⟩
    have g : W p l e R s m args below meth c H locs cells slots Q (F0 m (pc + 2) ls [pv_v ad d.1.2, .ref (ad 0)]) := by
      refine ct_put (w := d.1.2) (b := 0) (r := []) hx hb hown hts hK hC hP hD hS hc hk hlk hm rfl (by rw [hfl]; exact hk) (hq ad).1 (hq ad).2 d2 (fun H1 locs1 hP1 hD1 hS1 => ?_)
      exact ct_puts hx hb hown hts hK hC hin hl0 hlv hc L (pc + 5) (pv_set fs d.2.1 d.1.2) H1 locs1 hL (by rw [pv_set_len]; exact hfl) hP1 hD1 hS1 kk
    refine lv_aload_n hx hb d0 rfl (lv_at hl0 0 rfl) ?_
    rcases dp with ⟨n, v, e1, e2, e3⟩ | ⟨n, v, e1, e2, e3⟩ | ⟨k, e1, e2, e3, e4⟩
    · rw [e1] at g
      exact lv_iconst hx hb e2 e3 g
    · rw [e1] at g
      exact lv_lconst hx hb e2 e3 g
    · rw [e3] at g
      exact lv_aload_n hx hb e4 e1 (hlv _ e2.1 e2.2) g
/-- a call of a machine's method, from anywhere -/
theorem mc_call {Q : State → Prop} {big Ts NW : List Cond} {tyf : Nat → Nat → FieldType} {mt : Nat → Option pv_M} {own : String} {nL cells slots : Nat} (hok : pv_ok cl tyf Ts NW mt) (hs : ∀ w ∈ Ts, w ∈ big) (hx : p.tables.exec = Jvm.exec) (hb : c.code = cc) (hml : c.maxLocals = nL) (hown : s.vm.findClass own = some m.cls) (hts : ∀ w ∈ big, w.before args s = true) (hnw : ∀ w ∈ NW, va_Nw w s) (hK : va_K D cl (pv_tys cA) s) {S : pv_S} {H : Heap} {locs : List Loc} (hP : va_P D cl (pv_w cA ad 0 S) H) (hD : va_D A (pv_w cA ad 0 S)) (hS : va_S A H0 H locs) {d : Nat} (hR : d + 1 ≤ R.frames ∧ 40 * (d + 1) ≤ R.locals) (hcs : cells ≤ R.cells ∧ slots ≤ R.slots) {ls : Array Slot} (hls : ls.size = nL) {i b pc j ci : Nat} {fs As rest : List Value} {P : pv_R}
    {y : MethodName} {bc : ByteArray} {maxL rt : Nat} {ret : Option FieldType} {T : Nat → Option pv_I} (hj : mt j = some (y, bc, maxL, ret, false, As.length, rt, T)) {T' : u_T} {N : Nat} (hcl : cl[ci]? = some (y.cls, T', N)) (hl : Cond.methodLink own i y ∈ big ∨ ∃ host, va_Nw (.methodLinkNest own i y host) s) (he : S[b]? = some (.inr (ci, fs))) (hwd : (rest.map fun v => v.category).sum ≤ 8) (hdc : decode cc pc = .ok (.invokevirtual i, 3)) (hc : pv_call mt (d + 1) j (.ref b :: As) S P)
    (kk : ∀ o S', P o S' → S'.length = S.length → ∀ (H1 : Heap) (locs1 : List Loc), va_P D cl (pv_w cA ad 0 S') H1 → va_S A H0 H1 locs1 → H.size ≤ H1.size → (∀ q, q < H.size → ¬ pv_A ad S.length q → H1[q]? = H[q]?) → W p l e R s m args below meth c H1 locs1 cells slots Q (F0 m (pc + 3) ls ((o.map (pv_v ad)).toList ++ rest))) :
    W p l e R s m args below meth c H locs cells slots Q (F0 m pc ls ((As.map (pv_v ad)).reverse ++ .ref (ad b) :: rest)) := by
  have hMs := pv_sound (l := l) (D := D) (cA := cA) (ad := ad) (n := S.length) hok (fun S' h => ct_D_of hD S' h) d
  obtain ⟨⟨hg, hN⟩, -, ⟨h999, h998⟩, hms⟩ := hok
  have hj9 : ¬ j = 999 ∧ ¬ j = 998 := ⟨(fun h => by rw [h, h999] at hj; cases hj), (fun h => by rw [h, h998] at hj; cases hj)⟩
  obtain ⟨⟨⟨hpl, hcode⟩, hini, hdsc⟩, ⟨-, hinst⟩, ⟨hmx, -⟩, -⟩ := hms _ _ _ _ _ _ _ _ _ hj
  obtain ⟨hin1, hin2⟩ := hinst rfl
  have hMet := hMs j (.ref b :: As) S P rfl hc hj9 _ _ _ _ _ _ _ _ hj
  have hG : GoodIn big (pv_ws Ts y bc maxL ret) := gd_sub hs hg hcode
  have hlen : (As.map (pv_v ad)).length = As.length := List.length_map ..
  have hroom : (pv_rm d).frames + 1 ≤ R.frames ∧ 8 + (maxL + 11) + (pv_rm d).locals ≤ R.locals := by
    refine ⟨hR.1, ?_⟩
    show 8 + (maxL + 11) + 40 * d ≤ R.locals
    have := hR.2
    omega
  have hpv : PreV s H y.cls (ad b) (pv_Pc D cl cA ad NW (.ref b :: As) S) (As.map (pv_v ad)) := by
    refine ⟨pv_blind hN, va_recv hK hP (ci := ci) (q0 := b) hcl (pv_w_0 cA ad he), fun U hU hW => ⟨rfl, by rw [hU]; exact hP, va_K.moved hW.alike hK, pv_warm hN hW hnw⟩⟩
  have run : va_Run p l e R s m args below meth c H locs cells slots 0 0 (F0 m pc ls ((As.map (pv_v ad)).reverse ++ .ref (ad b) :: rest)) rest (pv_Qc D cl cA ad S.length P (Value.ref (ad b) :: As.map (pv_v ad)).toArray) (pv_A ad S.length) := by
    rcases hl with hl | ⟨host, hl⟩
    · exact va_runV (As := As.map (pv_v ad)) (rest := rest) ⟨hx, hb, hml, hown, hts⟩ hMet ⟨callB_of As.length hts hG rfl rfl rfl (hts _ (hs _ hini)) (hts _ hl) hdsc hroom, hts _ (hs _ hin1), hts _ (hs _ hin2)⟩ hpv rfl hlen hls rfl (lv_room hwd) hdc hcs
    · exact va_runVN (As := As.map (pv_v ad)) (rest := rest) ⟨hx, hb, hml, hown, hts⟩ hMet ⟨va_cnB As.length hts hG rfl rfl rfl hl (hts _ (hs _ hini)) hdsc hroom, hts _ (hs _ hin1), hts _ (hs _ hin2)⟩ hpv rfl hlen hls rfl (lv_room hwd) hdc hcs
  intro Tt hT X
  obtain ⟨v, st₀, t, T1, L, h0, X', hL, e1, e2, ⟨⟨o, S', hv, hp, hn, hPw⟩, hz, hk⟩, st⟩ := run Tt hT X
  cases hv
  rw [h0] at hz hk
  obtain ⟨t2, a1, b1⟩ := kk o S' hp hn T1.heap (locs ++ L) (by rw [e1]; exact hPw) ⟨Nat.le_trans hS.1 (by rw [e1]; exact hz), fun q h1 h2 => by rw [e1, hk q (Nat.lt_of_lt_of_le h1 hS.1) (fun h3 => h2 (pv_A_of hD q h3))]; exact hS.2.1 q h1 h2, fun q hq => by
      rcases List.mem_append.mp hq with h | h
      · exact hS.2.2 q h
      · exact pv_A_of hD _ (hL q h)⟩ (by rw [e1]; exact hz) (fun q h1 h2 => by rw [e1]; exact hk q h1 h2) T1 rfl X'
  exact ⟨t2, st t2 a1, b1⟩
end CT4
