section PVX
variable {p : Program} {l : Launch} {e : Env} {R : Room} {s : State} {m : MethodId} {args : Array Value} {below : List Frame} {meth : Method} {c : Code}
variable {cl : List vw_C} {tyf : Nat → Nat → FieldType} {Ts NW : List Cond} {mt : Nat → Option pv_M} {D : va_G} {cA ad : Nat → Nat} {A : Nat → Prop} {H0 : Heap} {n nL : Nat} {own : String} {cc : ByteArray}
/-- the tables, class by class -/
def pv_okC (cl : List vw_C) (tyf : Nat → Nat → FieldType) (Ts : List Cond) : Prop := ∀ (ci : Nat) (C : String) (T : u_T) (N : Nat), cl[ci]? = some (C, T, N) → (∀ w ∈ u_ws C T N, w ∈ Ts) ∧ (∀ k, k < N → parseFieldDescriptor (T k).2.2.1 = some (tyf ci k)) ∧ (∀ x, x < N → ∀ y, y < N → x ≠ y → (T x).2.1 ≠ (T y).2.1) ∧ (∀ k, k < N → (T k).1 = C)
theorem pv_obj {S : pv_S} {H : Heap} {locs : List Loc} (hw : pv_Wo D cl cA ad A H0 n S H locs) {b ci : Nat} {fs : List Value} (h : S[b]? = some (.inr (ci, fs))) : (pv_w cA ad 0 S)[b]? = some (ad b, .inr (ci, fs.map (pv_v ad))) := pv_w_0 cA ad h
theorem pv_sound_get {Q : State → Prop} (hx : p.tables.exec = Jvm.exec) (hb : c.code = cc) (hown : s.vm.findClass own = some m.cls) (hts : ∀ w ∈ Ts, w.before args s = true) (hnw : ∀ w ∈ NW, va_Nw w s) (hK : va_K D cl (pv_tys cA) s) (hC : pv_okC cl tyf Ts) {S : pv_S} {H : Heap} {locs : List Loc} (hw : pv_Wo D cl cA ad A H0 n S H locs) {i a1 a2 pc b : Nat} (hf : pv_of cl Ts NW own i a1 a2) {fs : List Value} (he : S[b]? = some (.inr (a1, fs))) {w : Value} (hv : fs[a2]? = some w) (hd : decode cc pc = .ok (.getfield i, 3)) {lsA : Array Slot} {r : List Value}
    (kk : W p l e R s m args below meth c H locs 0 0 Q (F0 m (pc + 3) lsA (pv_v ad w :: r))) : W p l e R s m args below meth c H locs 0 0 Q (F0 m pc lsA (.ref (ad b) :: r)) := by
  obtain ⟨C, T, N, hc, hk, hl⟩ := hf
  obtain ⟨c1, c2, c3, c4⟩ := hC _ _ _ _ hc
  have hv' : (fs.map (pv_v ad))[a2]? = some (pv_v ad w) := by rw [List.getElem?_map, hv]; rfl
  rcases hl with hl | ⟨host, hl⟩
  · exact va_get (D := D) (ci := a1) (v := pv_v ad w) (C := C) (T := T) (N := N) hx hb hts c1 hown hK hw.2.1 b (pv_obj hw he) hc a2 hk (hts _ hl) (fun x h9 => by rw [c4 a2 hk] at h9; exact h9) hv' hd kk
  · exact va_getN (D := D) (ci := a1) (v := pv_v ad w) (C := C) (T := T) (N := N) hx hb hts c1 hown hK hw.2.1 b (pv_obj hw he) hc a2 hk (va_Nw.use rfl (hnw _ hl)) (fun x h9 => by rw [c4 a2 hk] at h9; exact h9) hv' hd kk
theorem pv_sound_put {Q : State → Prop} (hx : p.tables.exec = Jvm.exec) (hb : c.code = cc) (hown : s.vm.findClass own = some m.cls) (hts : ∀ w ∈ Ts, w.before args s = true) (hnw : ∀ w ∈ NW, va_Nw w s) (hK : va_K D cl (pv_tys cA) s) (hC : pv_okC cl tyf Ts) (hD : ∀ S : pv_S, S.length = n → va_D A (pv_w cA ad 0 S)) {S : pv_S} {H : Heap} {locs : List Loc} (hw : pv_Wo D cl cA ad A H0 n S H locs) {i a1 a2 pc b : Nat} (hf : pv_of cl Ts NW own i a1 a2) (hfin : ∀ C T N, cl[a1]? = some (C, T, N) → (T a2).2.2.2 = false) {fs : List Value} (he : S[b]? = some (.inr (a1, fs))) (hlen : a2 < fs.length) {w : Value} (hvw : pv_v ad w = w) (hn : narrow (tyf a1 a2) w = w) (hfit : fits (tyf a1 a2) w = true) (hd : decode cc pc = .ok (.putfield i, 3)) {lsA : Array Slot} {r : List Value}
    (kk : ∀ (H1 : Heap) (locs1 : List Loc), pv_Wo D cl cA ad A H0 n (pv_set S b (.inr (a1, pv_set fs a2 w))) H1 locs1 → W p l e R s m args below meth c H1 locs1 0 0 Q (F0 m (pc + 3) lsA r)) : W p l e R s m args below meth c H locs 0 0 Q (F0 m pc lsA (w :: .ref (ad b) :: r)) := by
  obtain ⟨C, T, N, hc, hk, hl⟩ := hf
  obtain ⟨c1, c2, c3, c4⟩ := hC _ _ _ _ hc
  have hl2 : a2 < (fs.map (pv_v ad)).length := by rw [List.length_map]; exact hlen
  have hset : (pv_w cA ad 0 S).set b (ad b, .inr (a1, (fs.map (pv_v ad)).set a2 w)) = pv_w cA ad 0 (pv_set S b (.inr (a1, pv_set fs a2 w))) := by
    rw [← pv_w_s0]
    show _ = (pv_w cA ad 0 S).set b (ad b, .inr (a1, (pv_set fs a2 w).map (pv_v ad)))
    rw [pv_set_eq, List.map_set, hvw]
  have kk' : ∀ (H1 : Heap) (locs1 : List Loc), va_P D cl ((pv_w cA ad 0 S).set b (ad b, .inr (a1, (fs.map (pv_v ad)).set a2 w))) H1 → va_D A ((pv_w cA ad 0 S).set b (ad b, .inr (a1, (fs.map (pv_v ad)).set a2 w))) → va_S A H0 H1 locs1 → W p l e R s m args below meth c H1 locs1 0 0 Q (F0 m (pc + 3) lsA r) := by
    intro H1 locs1 h1 _ h3
    rw [hset] at h1
    exact kk H1 locs1 ⟨by rw [pv_set_len]; exact hw.1, h1, h3⟩
  rcases hl with hl | ⟨host, hl⟩
  · exact va_put (D := D) (ci := a1) (v := w) (ty := tyf a1 a2) (C := C) (T := T) (N := N) hx hb hts c1 (tyf a1) c2 c3 hown hK hw.2.1 (hD S hw.1) hw.2.2 b (pv_obj hw he) hc a2 hk (hts _ hl) (fun x h9 => by rw [c4 a2 hk] at h9; exact h9) (hfin _ _ _ hc) (c2 a2 hk) hn hfit hl2 hd kk'
  · exact va_putN (D := D) (ci := a1) (v := w) (ty := tyf a1 a2) (C := C) (T := T) (N := N) hx hb hts c1 (tyf a1) c2 c3 hown hK hw.2.1 (hD S hw.1) hw.2.2 b (pv_obj hw he) hc a2 hk (va_Nw.use rfl (hnw _ hl)) (fun x h9 => by rw [c4 a2 hk] at h9; exact h9) (hfin _ _ _ hc) (c2 a2 hk) hn hfit hl2 hd kk'
theorem pv_kd_i {ty : FieldType} (h : pv_kd ty .null = true) : ty = .int := by cases ty <;> first | rfl | cases h
theorem pv_kd_z {ty : FieldType} {x : Int32} (h : pv_kd ty (.int x) = true) : ty = .boolean := by cases ty <;> first | rfl | cases h
theorem pv_kd_l {ty : FieldType} {x : Int64} (h : pv_kd ty (.long x) = true) : ty = .long := by cases ty <;> first | rfl | cases h
theorem pv_z01 {x : Int32} (h : x = 0 ∨ x = 1) : narrow .boolean (.int x) = .int x ∧ fits .boolean (.int x) = true ∧ vp_nar .boolean x = x := by
  rcases h with rfl | rfl <;> decide +kernel
end PVX
