/-! this.f = new X(..), in the constructor of AssignFlow -/
section CT8
variable {p : Program} {l : Launch} {e : Env} {R : Room} {s : State} {m : MethodId} {args : Array Value} {below : List Frame} {meth : Method} {c : Code}
variable {D : va_G} {cA : Nat → Nat} {H0 : Heap} {cc : ByteArray} {A : Nat → Prop}
/-- what a constructor's contract says here -/
def ctM (l : Launch) (D : va_G) (cA : Nat → Nat) (y : MethodName) (bc : ByteArray) (maxL mc ms ci na : Nat) (fs0 As : List Value) (o : Nat → Nat) (SX : pv_S) (q sz : Nat) : Prop :=
  Met l y (pv_ws lwG y bc maxL none) { frames := 1, cells := mc, slots := ms, locals := 12 } (va_Pc (.ref q :: As) (fun U => U.heap.size = sz ∧ va_P D cq_cl [(q, .inr (ci, fs0))] U.heap ∧ va_K D cq_cl (pv_tys cA) U)) (va_Qv (fun ad : Nat → Nat => ad 0 = q ∧ ∀ k, 1 ≤ k → k ≤ na → ad (50 + k) = o k) (fun ad t => va_P D cq_cl (pv_w cA ad 0 SX) t.heap ∧ va_D (va_A [(q, .inr (ci, fs0))] sz) (pv_w cA ad 0 SX)) (va_A [(q, .inr (ci, fs0))] sz)) mc ms (va_A [(q, .inr (ci, fs0))] sz)
theorem ct_nest {Q : State → Prop} {cells slots : Nat} (hx : p.tables.exec = Jvm.exec) (hb : c.code = cc) (hml : c.maxLocals = 1) (hown : s.vm.findClass "AssignFlow" = some m.cls) (hts : ∀ w ∈ lwG, w.before args s = true) (hin : meth.name = "<init>") (hK : va_K D cq_cl (pv_tys cA) s) (hA : ∀ q, H0.size ≤ q → A q) {h0 : Nat} {ls : Array Slot} (hl0 : lv_has ls 1 [(0, .ref h0)]) {fs : List Value} {wr : va_W} {H : Heap} {locs : List Loc} (hP : va_P D cq_cl ((h0, .inr (0, fs)) :: wr) H) (hD : va_D A ((h0, .inr (0, fs)) :: wr)) (hS : va_S A H0 H locs) (hfl : fs.length = 9)
    {pc ix : Nat} {y : MethodName} {bc : ByteArray} {maxL ci N : Nat} {T : u_T} (hc : cq_cl[ci]? = some (y.cls, T, N)) (d0 : decode cc pc = .ok (.aload_n 0, 1)) (d1 : decode cc (pc + 1) = .ok (.new ix, 3)) (d4 : decode cc (pc + 4) = .ok (.dup, 1)) (hcl : Cond.classLink "AssignFlow" ix y.cls ∈ lwG) (hinst : Cond.instantiable y.cls N ∈ lwG) (hini : Cond.initialized y.cls ∈ lwG) {fs0 : List Value} (hfs : ∀ j, j < N → defaultValue (cq_ty ci j) = vp_V fs0 j)
    {na k mc ms : Nat} {As : List Value} {o : Nat → Nat} {SX : pv_S} (hpush : ∀ (q : Nat) (H1 : Heap) (cells slots : Nat), va_P D cq_cl ((h0, .inr (0, fs)) :: wr) H1 → W p l e R s m args below meth c H1 locs cells slots Q (F0 m (pc + 5 + k) ls (As.reverse ++ [.ref q, .ref q, .ref h0])) → W p l e R s m args below meth c H1 locs cells slots Q (F0 m (pc + 5) ls [.ref q, .ref q, .ref h0]))
    (hM : ∀ q sz, ctM l D cA y bc maxL mc ms ci na fs0 As o SX q sz) {jx : Nat} {host : String} (hnl : va_Nw (.methodLinkNest "AssignFlow" jx y host) s) (hcode : Cond.code y bc maxL none ∈ lwG) (hyi : y.name = "<init>") (him : Cond.instanceMethod y ∈ lwG) (hdsc : y.cls ≠ "java/lang/invoke/MethodHandle" ∧ y.cls ≠ "java/lang/invoke/VarHandle" ∧ (parseMethodDescriptor y.desc).map (fun d => d.parameters.length) = some As.length) (d5 : decode cc (pc + 5 + k) = .ok (.invokespecial jx, 3))
    {f kx : Nat} (hf : f < 9) (hlk : Cond.fieldLink "AssignFlow" kx "AssignFlow" (cq_F0 f).2.1 (cq_F0 f).2.2.1 ∈ lwG) (hfin : (cq_F0 f).2.2.2 = true) (hn2 : ∀ q, narrow (cq_ty 0 f) (.ref q) = .ref q) (hfit : ∀ q, fits (cq_ty 0 f) (.ref q) = true) (d8 : decode cc (pc + 5 + k + 3) = .ok (.putfield kx, 3))
    (hR1 : 2 ≤ R.frames ∧ 8 + (maxL + 11) + 12 ≤ R.locals) (hR2 : cells + 1 + mc ≤ R.cells) (hR3 : slots + N + ms ≤ R.slots)
    (kk : ∀ (ad : Nat → Nat) (H1 : Heap) (locs1 : List Loc), (∀ k, 1 ≤ k → k ≤ na → ad (50 + k) = o k) → va_P D cq_cl ((h0, .inr (0, fs.set f (.ref (ad 0)))) :: (wr ++ pv_w cA ad 0 SX)) H1 → va_D A ((h0, .inr (0, fs.set f (.ref (ad 0)))) :: (wr ++ pv_w cA ad 0 SX)) → va_S A H0 H1 locs1 → W p l e R s m args below meth c H1 locs1 (cells + 1 + mc) (slots + N + ms) Q (F0 m (pc + 5 + k + 3 + 3) ls [])) :
    W p l e R s m args below meth c H locs cells slots Q (F0 m pc ls []) := by
  obtain ⟨g1, g2, g3, g4⟩ := cq_okG ci y.cls T N hc
  obtain ⟨c1, c2, c3, c4⟩ := cq_okG 0 "AssignFlow" cq_F0 9 rfl
  refine lv_aload_n hx hb d0 rfl (lv_at hl0 0 rfl) ?_
  refine va_new (ci := ci) (fs := fs0) (C := y.cls) (T := T) (N := N) hx hb hts g1 (cq_ty ci) g2 hown (hts _ hcl) (hts _ hinst) (hts _ hini) hK hP hD hS hA hc hfs (by omega) (by omega) d1 (fun q H1 hP1 hD1 hS1 => ?_)
  refine lv_dup hx hb d4 rfl ?_
  have hPw : va_P D cq_cl ((h0, .inr (0, fs)) :: wr) H1 := fun k x hk => hP1 k x (by rw [List.getElem?_append_left (List.getElem?_eq_some_iff.mp hk).1]; exact hk)
  have hPq : va_P D cq_cl [(q, .inr (ci, fs0))] H1 := by
    intro k x hk
    have h1 : k < 1 := (List.getElem?_eq_some_iff.mp hk).1
    rw [show k = 0 by omega] at hk
    cases hk
    exact hP1 ((h0, Sum.inr (0, fs)) :: wr).length _ (by rw [List.getElem?_append_right (Nat.le_refl _), Nat.sub_self]; rfl)
  have hAq : A q := hD1.2 ((h0, Sum.inr (0, fs)) :: wr).length (q, .inr (ci, fs0)) (by rw [List.getElem?_append_right (Nat.le_refl _), Nat.sub_self]; rfl)
  have hne : ∀ (k : Nat) (x : Nat × va_E), ((h0, Sum.inr (0, fs)) :: wr)[k]? = some x → ¬ va_A [(q, .inr (ci, fs0))] H1.size x.1 := by
    intro k x hk h
    have hkl := (List.getElem?_eq_some_iff.mp hk).1
    rcases h with ⟨i, e, hi⟩ | h
    · have h1 : i < 1 := (List.getElem?_eq_some_iff.mp hi).1
      rw [show i = 0 by omega] at hi
      have hi : (q, Sum.inr (ci, fs0)) = (x.1, e) := Option.some.inj hi
      have := hD1.1 k ((h0, Sum.inr (0, fs)) :: wr).length x (q, .inr (ci, fs0)) (by rw [List.getElem?_append_left hkl]; exact hk) (by rw [List.getElem?_append_right (Nat.le_refl _), Nat.sub_self]; rfl) (by rw [Prod.mk.injEq] at hi; exact hi.1.symm)
      omega
    · have := (hPw k x hk).lt
      omega
  have hFc : ∀ q', va_A [(q, .inr (ci, fs0))] H1.size q' → A q' := by
    intro q' h
    rcases h with ⟨i, e, hi⟩ | h
    · have h1 : i < 1 := (List.getElem?_eq_some_iff.mp hi).1
      rw [show i = 0 by omega] at hi
      have hi : (q, Sum.inr (ci, fs0)) = (q', e) := Option.some.inj hi
      rw [Prod.mk.injEq] at hi
      rw [← hi.1]; exact hAq
    · exact hA q' (Nat.le_trans hS1.1 h)
  refine hpush q H1 _ _ hPw ?_
  have hG : GoodIn lwG (pv_ws lwG y bc maxL none) := gd_sub (fun _ h => h) lwG_good hcode
  refine va_callv (A1 := va_A [(q, .inr (ci, fs0))] H1.size) (va_runIN (As := As) (rest := [.ref q, .ref h0]) ⟨hx, hb, hml, hown, hts⟩ (hM q H1.size) ⟨va_cnB As.length hts hG rfl rfl rfl hnl (hts _ hini) hdsc ⟨hR1.1, hR1.2⟩, hyi, hts _ him⟩ ⟨fun a U g mk h => ?_, fun U hU hW => ⟨rfl, by rw [hU], by rw [hU]; exact hPq, va_K.moved hW.alike hK⟩⟩ rfl rfl hl0.1 rfl (lv_room (Nat.le_of_ble_eq_true rfl)) d5 ⟨by omega, by omega⟩) hS1 (fun q' _ h => hFc q' h) hFc (fun ad t H2 locs2 ht hvm hp hB hz2 hk2 hS2 => ?_)
  · obtain ⟨q0, q1, qP, qK⟩ := h
    exact ⟨q0, q1, qP, va_K.moved (u := U) (U := U.calling g mk a) (Vm.Alike.refl U.vm) qK⟩
  obtain ⟨hP2, hD2⟩ := hB
  rw [ht] at hP2
  have hP3 : va_P D cq_cl (((h0, .inr (0, fs)) :: wr) ++ pv_w cA ad 0 SX) H2 := va_P.app (fun k x hk => (hPw k x hk).kept (hk2 x.1 (hPw k x hk).lt (hne k x hk))) hP2
  have hD3 : va_D A (((h0, .inr (0, fs)) :: wr) ++ pv_w cA ad 0 SX) := va_D.app hD (hD2.weaken (fun k x _ h => hFc x.1 h)) (fun i j x z hx hz hxz => hne i x hx (by rw [hxz]; exact hD2.2 j z hz))
  have hP3 : va_P D cq_cl ((h0, .inr (0, fs)) :: (wr ++ pv_w cA ad 0 SX)) H2 := hP3
  have hD3 : va_D A ((h0, .inr (0, fs)) :: (wr ++ pv_w cA ad 0 SX)) := hD3
  obtain ⟨hp0, hpo⟩ := hp
  rw [← hp0]
  exact va_putF (D := D) (ci := 0) (v := .ref (ad 0)) (ty := cq_ty 0 f) (C := "AssignFlow") (T := cq_F0) (N := 9) hx hb hts c1 (cq_ty 0) c2 c3 hown hK hP3 hD3 hS2 0 rfl rfl f hf (hts _ hlk) (fun x h9 => by rw [c4 f hf] at h9; exact h9) hfin hin (c4 f hf) (c2 f hf) (hn2 _) (hfit _) (by rw [hfl]; exact hf) d8 (fun H3 locs3 hP4 hD4 hS4 => kk ad H3 locs3 hpo hP4 hD4 hS4)
/-- a field of this, on the stack -/
theorem ct_ga {Q : State → Prop} {cells slots : Nat} (hx : p.tables.exec = Jvm.exec) (hb : c.code = cc) (hown : s.vm.findClass "AssignFlow" = some m.cls) (hts : ∀ w ∈ lwG, w.before args s = true) (hK : va_K D cq_cl (pv_tys cA) s) {h0 : Nat} {ls : Array Slot} (hl0 : lv_has ls 1 [(0, .ref h0)]) {fs : List Value} {wr : va_W} {H : Heap} {locs : List Loc} (hP : va_P D cq_cl ((h0, .inr (0, fs)) :: wr) H) {pc ix k : Nat} {v : Value} {rest : List Value} (d0 : decode cc pc = .ok (.aload_n 0, 1)) (d1 : decode cc (pc + 1) = .ok (.getfield ix, 3)) (hk : k < 9) (hlk : Cond.fieldLink "AssignFlow" ix "AssignFlow" (cq_F0 k).2.1 (cq_F0 k).2.2.1 ∈ lwG) (hv : fs[k]? = some v)
    (kk : W p l e R s m args below meth c H locs cells slots Q (F0 m (pc + 4) ls (v :: rest))) : W p l e R s m args below meth c H locs cells slots Q (F0 m pc ls rest) := by
  obtain ⟨c1, c2, c3, c4⟩ := cq_okG 0 "AssignFlow" cq_F0 9 rfl
  refine lv_aload_n hx hb d0 rfl (lv_at hl0 0 rfl) ?_
  exact va_get (ci := 0) (C := "AssignFlow") (T := cq_F0) (N := 9) (ref := "AssignFlow") hx hb hts c1 hown hK hP 0 rfl rfl k hk (hts _ hlk) (fun x h9 => by rw [c4 k hk] at h9; exact h9) hv d1 kk
end CT8
