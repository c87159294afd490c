/-! constructors: a store that grows -/
section CT1
variable {p : Program} {l : Launch} {e : Env} {R : Room} {s : State} {m : MethodId} {args : Array Value} {below : List Frame} {meth : Method} {c : Code}
variable {cl : List vw_C} {D : va_G} {cA ad : Nat → Nat} {H0 : Heap} {cc : ByteArray} {A : Nat → Prop}
/-- the addresses with one more -/
def ad1 (ad : Nat → Nat) (n q : Nat) : Nat → Nat := fun k => if k = n then q else ad k
/-- the references of a store point into it -/
def rfIn (n : Nat) (S : pv_S) : Prop := ∀ x ∈ S, ∀ ci fs, x = .inr (ci, fs) → ∀ k, Value.ref k ∈ fs → k < n
theorem pv_v_ad1 {n q : Nat} {v : Value} (h : ∀ k, v = .ref k → k < n) : pv_v (ad1 ad n q) v = pv_v ad v := by
  cases v with
  | ref k =>
    have hk := h k rfl
    show Value.ref (if k = n then q else ad k) = Value.ref (ad k)
    rw [if_neg (Nat.ne_of_lt hk)]
  | _ => rfl
theorem pv_e_ad1 {n q : Nat} {x : va_E} (h : ∀ ci fs, x = .inr (ci, fs) → ∀ k, Value.ref k ∈ fs → k < n) : pv_e cA (ad1 ad n q) x = pv_e cA ad x := by
  cases x with
  | inl a => rfl
  | inr o =>
    obtain ⟨ci, fs⟩ := o
    show Sum.inr (ci, fs.map (pv_v (ad1 ad n q))) = Sum.inr (ci, fs.map (pv_v ad))
    rw [List.map_congr_left (fun v hv => pv_v_ad1 (fun k e => h ci fs rfl k (e ▸ hv)))]
theorem pv_w_ad1 {n q : Nat} : ∀ (S : pv_S) (i : Nat), i + S.length ≤ n → rfIn n S → pv_w cA (ad1 ad n q) i S = pv_w cA ad i S
  | [], _, _, _ => rfl
  | x :: S, i, h, hr => by
    have hl : (x :: S).length = S.length + 1 := rfl
    show (ad1 ad n q i, pv_e cA (ad1 ad n q) x) :: pv_w cA (ad1 ad n q) (i + 1) S = (ad i, pv_e cA ad x) :: pv_w cA ad (i + 1) S
    rw [pv_w_ad1 S (i + 1) (by omega) (fun y hy => hr y (List.mem_cons_of_mem _ hy)), pv_e_ad1 (hr x List.mem_cons_self)]
    show ((if i = n then q else ad i), _) :: _ = _
    rw [if_neg (by omega)]
theorem pv_w_snoc (x : va_E) : ∀ (S : pv_S) (i : Nat), pv_w cA ad i (S ++ [x]) = pv_w cA ad i S ++ [(ad (i + S.length), pv_e cA ad x)]
  | [], i => rfl
  | y :: S, i => by
    show (ad i, pv_e cA ad y) :: pv_w cA ad (i + 1) (S ++ [x]) = (ad i, pv_e cA ad y) :: (pv_w cA ad (i + 1) S ++ [(ad (i + (S.length + 1)), pv_e cA ad x)])
    rw [pv_w_snoc x S (i + 1), show i + 1 + S.length = i + (S.length + 1) by omega]
/-- a new array -/
theorem ct_newa {cells slots : Nat} {Q : State → Prop} {locs : List Loc} {H : Heap} {S : pv_S} {pc : Nat} {ls : Array Slot} {rest : List Value} (hexec : p.tables.exec = Jvm.exec) (hb : c.code = cc) {atype : ArrayType} (harr : (Cond.arrayClass (newarray.typeOf atype)).before args s = true) {ty : FieldType} (hty : newarray.typeOf atype = ty) (t : Nat) (htt : (pv_tys cA)[t]? = some (cA t, ty)) (hra : ∀ (U : State) (k : ClassId), va_RA U k ty → U.vm.findClass ("[" ++ ty.toString) = some k) (hK : va_K D cl (pv_tys cA) s) (hP : va_P D cl (pv_w cA ad 0 S) H) (hD : va_D A (pv_w cA ad 0 S)) (hS : va_S A H0 H locs) (hA : ∀ q, H0.size ≤ q → A q) (hr : rfIn S.length S)
    {n : Int32} {N' : Nat} {a0 : vp_A} (ha : ∀ k : ClassId, vp_cell k a0 = arrV k N' (fun _ => defaultValue ty)) (hn : ¬ n < 0) (hN : n.toNatClampNeg = N') (hbytes : N' * componentBytes ty ≤ 536870912) (hcells : cells + 1 ≤ R.cells) (hslots : slots + N' ≤ R.slots) (hdg : decode cc pc = .ok (.newarray atype, 2))
    (kk : ∀ (q : Nat) (H1 : Heap), va_P D cl (pv_w cA (ad1 ad S.length q) 0 (S ++ [.inl (t, a0)])) H1 → va_D A (pv_w cA (ad1 ad S.length q) 0 (S ++ [.inl (t, a0)])) → va_S A H0 H1 locs →
      W p l e R s m args below meth c H1 locs (cells + 1) (slots + N') Q (F0 m (pc + 2) ls (.ref (ad1 ad S.length q S.length) :: rest))) : W p l e R s m args below meth c H locs cells slots Q (F0 m pc ls (.int n :: rest)) := by
  refine va_newa hexec hb harr hty hK hP hD hS hA ha hn hN hbytes hcells hslots hdg (fun q k H1 hK1 hP1 hD1 hS1 => ?_)
  have hk : k = cA t := by
    have h1 := hra s k ((hK1.2 4 (k, ty) (by unfold pv_tys; rfl)).2)
    have h2 := hra s (cA t) ((hK.2 t (cA t, ty) htt).2)
    rw [h1] at h2
    exact Option.some.inj h2
  subst hk
  have e : pv_w cA (ad1 ad S.length q) 0 (S ++ [.inl (t, a0)]) = pv_w cA ad 0 S ++ [(q, .inl (cA t, a0))] := by
    rw [pv_w_snoc, pv_w_ad1 S 0 (by omega) hr, Nat.zero_add]
    show _ ++ [((if S.length = S.length then q else _), _)] = _
    rw [if_pos rfl]
    rfl
  have g := kk q H1 (by rw [e]; exact hP1) (by rw [e]; exact hD1) hS1
  rw [show ad1 ad S.length q S.length = q from if_pos rfl] at g
  exact g
/-- a field is set, final or not -/
theorem ct_put {cells slots : Nat} {Q : State → Prop} {locs : List Loc} {H : Heap} {S : pv_S} {own : String} {Ts : List Cond} {tyf : Nat → Nat → FieldType} (hx : p.tables.exec = Jvm.exec) (hb : c.code = cc) (hown : s.vm.findClass own = some m.cls) (hts : ∀ w ∈ Ts, w.before args s = true) (hK : va_K D cl (pv_tys cA) s) (hC : pv_okC cl tyf Ts) (hP : va_P D cl (pv_w cA ad 0 S) H) (hD : va_D A (pv_w cA ad 0 S)) (hS : va_S A H0 H locs) {i a1 a2 pc b N : Nat} {C : String} {T : u_T} (hc : cl[a1]? = some (C, T, N)) (hk : a2 < N) (hl : Cond.fieldLink own i C (T a2).2.1 (T a2).2.2.1 ∈ Ts) (hm : (T a2).2.2.2 = false ∨ ((T a2).2.2.2 = true ∧ meth.name = "<init>" ∧ C = own)) {fs : List Value} (he : S[b]? = some (.inr (a1, fs))) (hlen : a2 < fs.length) {w : Value} (hn : narrow (tyf a1 a2) (pv_v ad w) = pv_v ad w) (hfit : fits (tyf a1 a2) (pv_v ad w) = true) (hd : decode cc pc = .ok (.putfield i, 3)) {lsA : Array Slot} {r : List Value}
    (kk : ∀ (H1 : Heap) (locs1 : List Loc), va_P D cl (pv_w cA ad 0 (pv_set S b (.inr (a1, pv_set fs a2 w)))) H1 → va_D A (pv_w cA ad 0 (pv_set S b (.inr (a1, pv_set fs a2 w)))) → va_S A H0 H1 locs1 → W p l e R s m args below meth c H1 locs1 cells slots Q (F0 m (pc + 3) lsA r)) : W p l e R s m args below meth c H locs cells slots Q (F0 m pc lsA (pv_v ad w :: .ref (ad b) :: r)) := by
  obtain ⟨c1, c2, c3, c4⟩ := hC _ _ _ _ hc
  have hl2 : a2 < (fs.map (pv_v ad)).length := by rw [List.length_map]; exact hlen
  have hset : (pv_w cA ad 0 S).set b (ad b, .inr (a1, (fs.map (pv_v ad)).set a2 (pv_v ad w))) = pv_w cA ad 0 (pv_set S b (.inr (a1, pv_set fs a2 w))) := by
    rw [← pv_w_s0]
    show _ = (pv_w cA ad 0 S).set b (ad b, .inr (a1, (pv_set fs a2 w).map (pv_v ad)))
    rw [pv_set_eq, List.map_set]
  have kk' : ∀ (H1 : Heap) (locs1 : List Loc), va_P D cl ((pv_w cA ad 0 S).set b (ad b, .inr (a1, (fs.map (pv_v ad)).set a2 (pv_v ad w)))) H1 → va_D A ((pv_w cA ad 0 S).set b (ad b, .inr (a1, (fs.map (pv_v ad)).set a2 (pv_v ad w)))) → va_S A H0 H1 locs1 → W p l e R s m args below meth c H1 locs1 cells slots Q (F0 m (pc + 3) lsA r) := by
    intro H1 locs1 h1 h2 h3
    rw [hset] at h1 h2
    exact kk H1 locs1 h1 h2 h3
  have ob : (pv_w cA ad 0 S)[b]? = some (ad b, .inr (a1, fs.map (pv_v ad))) := pv_w_0 cA ad he
  rcases hm with hf | ⟨hf, hi, ho⟩
  · exact va_put (D := D) (ci := a1) (v := pv_v ad w) (ty := tyf a1 a2) (C := C) (T := T) (N := N) hx hb hts c1 (tyf a1) c2 c3 hown hK hP hD hS b ob hc a2 hk (hts _ hl) (fun x h9 => by rw [c4 a2 hk] at h9; exact h9) hf (c2 a2 hk) hn hfit hl2 hd kk'
  · exact va_putF (D := D) (ci := a1) (v := pv_v ad w) (ty := tyf a1 a2) (C := C) (T := T) (N := N) hx hb hts c1 (tyf a1) c2 c3 hown hK hP hD hS b ob hc a2 hk (hts _ hl) (fun x h9 => by rw [c4 a2 hk] at h9; exact h9) hf hi ((c4 a2 hk).trans ho) (c2 a2 hk) hn hfit hl2 hd kk'
/-- this.f = new ty[n], in a constructor -/
theorem ct_step {cells slots : Nat} {Q : State → Prop} {locs : List Loc} {H : Heap} {S : pv_S} {own : String} {Ts : List Cond} {tyf : Nat → Nat → FieldType} (hx : p.tables.exec = Jvm.exec) (hb : c.code = cc) (hown : s.vm.findClass own = some m.cls) (hts : ∀ w ∈ Ts, w.before args s = true) (hK : va_K D cl (pv_tys cA) s) (hC : pv_okC cl tyf Ts) (hA : ∀ q, H0.size ≤ q → A q) {nL : Nat} {ls : Array Slot} (hl0 : lv_has ls nL [(0, .ref (ad 0))]) (hP : va_P D cl (pv_w cA ad 0 S) H) (hD : va_D A (pv_w cA ad 0 S)) (hS : va_S A H0 H locs) (hr : rfIn S.length S) (hpos : 0 < S.length)
    {pc k : Nat} {n : Int32} (d0 : decode cc pc = .ok (.aload_n 0, 1)) (hpush : ∀ st : List Value, W p l e R s m args below meth c H locs cells slots Q (F0 m (pc + 1 + k) ls (.int n :: st)) → W p l e R s m args below meth c H locs cells slots Q (F0 m (pc + 1) ls st))
    {atype : ArrayType} (harr : Cond.arrayClass (newarray.typeOf atype) ∈ Ts) {ty : FieldType} (hty : newarray.typeOf atype = ty) (t : Nat) (htt : (pv_tys cA)[t]? = some (cA t, ty)) (hra : ∀ (U : State) (k : ClassId), va_RA U k ty → U.vm.findClass ("[" ++ ty.toString) = some k)
    {N' : Nat} {a0 : vp_A} (ha : ∀ k : ClassId, vp_cell k a0 = arrV k N' (fun _ => defaultValue ty)) (hn : ¬ n < 0) (hN : n.toNatClampNeg = N') (hbytes : N' * componentBytes ty ≤ 536870912) (hcells : cells + 1 ≤ R.cells) (hslots : slots + N' ≤ R.slots) (d2 : decode cc (pc + 1 + k) = .ok (.newarray atype, 2))
    {i a1 a2 N : Nat} {C : String} {T : u_T} (hc : cl[a1]? = some (C, T, N)) (hk : a2 < N) (hl : Cond.fieldLink own i C (T a2).2.1 (T a2).2.2.1 ∈ Ts) (hm : (T a2).2.2.2 = false ∨ ((T a2).2.2.2 = true ∧ meth.name = "<init>" ∧ C = own)) {fs : List Value} (he : S[0]? = some (.inr (a1, fs))) (hlen : a2 < fs.length) (hn2 : ∀ q, narrow (tyf a1 a2) (.ref q) = .ref q) (hfit : ∀ q, fits (tyf a1 a2) (.ref q) = true) (d3 : decode cc (pc + 1 + k + 2) = .ok (.putfield i, 3))
    (kk : ∀ (q : Nat) (H1 : Heap) (locs1 : List Loc), va_P D cl (pv_w cA (ad1 ad S.length q) 0 (pv_set (S ++ [.inl (t, a0)]) 0 (.inr (a1, pv_set fs a2 (.ref S.length))))) H1 → va_D A (pv_w cA (ad1 ad S.length q) 0 (pv_set (S ++ [.inl (t, a0)]) 0 (.inr (a1, pv_set fs a2 (.ref S.length))))) → va_S A H0 H1 locs1 → ad1 ad S.length q 0 = ad 0 → W p l e R s m args below meth c H1 locs1 (cells + 1) (slots + N') Q (F0 m (pc + 1 + k + 2 + 3) ls [])) : W p l e R s m args below meth c H locs cells slots Q (F0 m pc ls []) := by
  refine lv_aload_n hx hb d0 rfl (lv_at hl0 0 rfl) ?_
  refine hpush _ ?_
  refine ct_newa hx hb (hts _ harr) hty t htt hra hK hP hD hS hA hr ha hn hN hbytes hcells hslots d2 (fun q H1 hP1 hD1 hS1 => ?_)
  have e0 : ad1 ad S.length q 0 = ad 0 := if_neg (by omega)
  have he1 : (S ++ [.inl (t, a0)])[0]? = some (.inr (a1, fs)) := by rw [List.getElem?_append_left hpos]; exact he
  have g := ct_put (w := .ref S.length) (b := 0) (r := []) (lsA := ls) (cells := cells + 1) (slots := slots + N') (Q := Q) hx hb hown hts hK hC hP1 hD1 hS1 hc hk hl hm he1 hlen (hn2 _) (hfit _) d3 (fun H2 locs2 hP2 hD2 hS2 => kk q H2 locs2 hP2 hD2 hS2 e0)
  rw [e0] at g
  exact g
end CT1
