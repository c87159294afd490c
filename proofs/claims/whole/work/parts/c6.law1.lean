/-! the law's loop -/
theorem isN_on {w : Cond} (h : pv_isN w = true) : w.onTables = true := by
  cases w <;> first | rfl | cases h
/-- both systems in the heap, side by side -/
def lwI (s : State) (D1 D2 : va_G) (cA a1 a2 : Nat → Nat) (H : Heap) (locs : List Loc) (Sc Sr : pv_S) : Prop :=
  ((va_P D1 cq_cl (pv_w cA a1 0 Sc) H ∧ va_D (fun q : Nat => s.heap.size ≤ q) (pv_w cA a1 0 Sc)) ∧ (va_P D2 rq_cl (pv_w cA a2 0 Sr) H ∧ va_D (fun q : Nat => s.heap.size ≤ q) (pv_w cA a2 0 Sr))) ∧ (∀ i, i < Sc.length → ∀ j, j < Sr.length → a1 i ≠ a2 j) ∧ va_S (fun q : Nat => s.heap.size ≤ q) s.heap H locs ∧ ∃ n V t sc fp tx, CSt n V t sc fp tx Sc ∧ RStS n V t sc fp tx Sr
theorem pv_w_ad {cA ad : Nat → Nat} {S : pv_S} {k : Nat} {x : Nat × va_E} (h : (pv_w cA ad 0 S)[k]? = some x) : k < S.length ∧ x.1 = ad k := by
  have lk : k < S.length := by have := (List.getElem?_eq_some_iff.mp h).1; rw [pv_w_len] at this; exact this
  refine ⟨lk, ?_⟩
  rw [pv_w_at, List.getElem?_eq_getElem lk] at h
  rw [← Option.some.inj h, Nat.zero_add]
section LW
variable {p : Program} {l : Launch} {e : Env} {s : State} {m : MethodId} {below : List Frame} {meth : Method} {c : Code} {b L : Nat} {xs : Nat → Int32} {Q : State → Prop}
/-- script[i + k] on the stack -/
theorem lw_ld {H : Heap} {locs : List Loc} {cells slots : Nat} (C0 : lw_At p s m meth c b L xs) (hL : L ≤ 2048) {i k x1 x2 : Nat} {ls : Array Slot} (hl : lv_has ls 4 [(0, .ref b), (1, .ref x1), (2, .ref x2), (3, .int (nI i))]) (hS : va_S (fun q : Nat => s.heap.size ≤ q) s.heap H locs) (hik : i + k < L) {pc : Nat} {kz : Int} (hkz : Int32.ofInt kz = nI k) (d0 : decode code pc = .ok (.aload_n 0, 1)) (d1 : decode code (pc + 1) = .ok (.iload_n 3, 1)) (d2 : decode code (pc + 2) = .ok (.iconst kz, 1)) (d3 : decode code (pc + 3) = .ok (.iadd, 1)) (d4 : decode code (pc + 4) = .ok (.iaload, 1)) {rest : List Value}
    (kk : W p l e room_1 s m #[Value.ref b] below meth c H locs cells slots Q (F0 m (pc + 5) ls (.int (xs (i + k)) :: rest))) : W p l e room_1 s m #[Value.ref b] below meth c H locs cells slots Q (F0 m pc ls rest) := by
  obtain ⟨hx, hb, hr, hml, hown, hts, hX, hbl, hlocks, hgv⟩ := C0
  refine lv_aload_n hx hb d0 rfl (lv_at hl 0 rfl) ?_
  refine lv_iload_n hx hb d1 rfl (lv_at hl 3 rfl) ?_
  refine lv_iconst hx hb d2 hkz ?_
  refine lv_iadd hx hb d3 ?_
  rw [nI_add]
  refine va_sld hx hb hX hbl (Nat.not_le.mpr hbl) hS (vp_in_nI hik (by omega)) d4 ?_
  rw [nI_clamp (by omega)]
  exact kk
/-- one case of the law: both are asked, and the answers are equal -/
theorem lw_case (C0 : lw_At p s m meth c b L xs) {D1 D2 : va_G} {cA a1 a2 : Nat → Nat} (hK1 : va_K D1 cq_cl (pv_tys cA) s) (hK2 : va_K D2 rq_cl (pv_tys cA) s) {H : Heap} {locs : List Loc} {Sc Sr : pv_S} {i : Nat} {ls : Array Slot} (hl : lv_has ls 4 [(0, .ref b), (1, .ref (a1 0)), (2, .ref (a2 0)), (3, .int (nI i))]) (hI : lwI s D1 D2 cA a1 a2 H locs Sc Sr)
    {pA k i1 i2 qc qr : Nat} {Lv : List Value} (hLv : ∀ ad, Lv.map (pv_v ad) = Lv) (same : Same (0 + 300) qc qr Lv Sc Sr)
    {y1 : MethodName} {bc1 : ByteArray} {mx1 rt1 : Nat} {rr1 : Option FieldType} {T1 : Nat → Option pv_I} (hj1 : cq_mt qc = some (y1, bc1, mx1, rr1, false, Lv.length, rt1, T1)) (hy1 : cq_cl[0]? = some (y1.cls, cq_F0, 9)) {y2 : MethodName} {bc2 : ByteArray} {mx2 rt2 : Nat} {rr2 : Option FieldType} {T2 : Nat → Option pv_I} (hj2 : rq_mt qr = some (y2, bc2, mx2, rr2, false, Lv.length, rt2, T2)) (hy2 : rq_cl[0]? = some (y2.cls, rq_F0, 62))
    (hl1 : Cond.methodLink "AssignFlowLaw" i1 y1 ∈ lw_tbl) (hl2 : Cond.methodLink "AssignFlowLaw" i2 y2 ∈ lw_tbl)
    (dA : decode code pA = .ok (.aload_n 1, 1)) (dB : decode code (pA + 1 + k + 3) = .ok (.aload_n 2, 1)) (e1 : decode code (pA + 1 + k) = .ok (.invokevirtual i1, 3)) (e2 : decode code (pA + 1 + k + 3 + 1 + k) = .ok (.invokevirtual i2, 3)) {off : Int} (e3 : decode code (pA + 1 + k + 3 + 1 + k + 3) = .ok (.if_icmp .eq off, 3)) (ht : ((pA + 1 + k + 3 + 1 + k + 3 : Nat) : Int) + off = ((351 : Nat) : Int))
    (push1 : ∀ (H : Heap) (locs : List Loc) (st : List Value), va_S (fun q : Nat => s.heap.size ≤ q) s.heap H locs → W p l e room_1 s m #[Value.ref b] below meth c H locs 600000 7302250 Q (F0 m (pA + 1 + k) ls (Lv.reverse ++ st)) → W p l e room_1 s m #[Value.ref b] below meth c H locs 600000 7302250 Q (F0 m (pA + 1) ls st))
    (push2 : ∀ (H : Heap) (locs : List Loc) (st : List Value), va_S (fun q : Nat => s.heap.size ≤ q) s.heap H locs → W p l e room_1 s m #[Value.ref b] below meth c H locs 600000 7302250 Q (F0 m (pA + 1 + k + 3 + 1 + k) ls (Lv.reverse ++ st)) → W p l e room_1 s m #[Value.ref b] below meth c H locs 600000 7302250 Q (F0 m (pA + 1 + k + 3 + 1) ls st))
    (kk : ∀ (H : Heap) (locs : List Loc) (Sc Sr : pv_S), lwI s D1 D2 cA a1 a2 H locs Sc Sr → W p l e room_1 s m #[Value.ref b] below meth c H locs 600000 7302250 Q (F0 m 351 ls [])) : W p l e room_1 s m #[Value.ref b] below meth c H locs 600000 7302250 Q (F0 m pA ls []) := by
  obtain ⟨hx, hb, hr, hml, hown, hts, hX, hbl, hlocks, hgv⟩ := C0
  have hown : s.vm.findClass "AssignFlowLaw" = some m.cls := hown
  obtain ⟨⟨⟨hP1, hD1⟩, hP2, hD2⟩, hap, hS, n, V, t, sc, fp, tx, hc, hr0⟩ := hI
  obtain ⟨r, n', V', t', sc', fp', tx', call1, call2⟩ := same
  have he1 : ∃ fs, Sc[0]? = some (.inr (0, fs)) := by
    obtain ⟨m, a, l, w, a3, rfl, -⟩ := hc
    exact ⟨_, rfl⟩
  have he2 : ∃ fs, Sr[0]? = some (.inr (0, fs)) := by
    obtain ⟨m, a, rfl, -⟩ := hr0
    exact ⟨_, rfl⟩
  obtain ⟨fs1, he1⟩ := he1
  obtain ⟨fs2, he2⟩ := he2
  have hnw1 : ∀ w ∈ cq_NW, va_Nw w s := fun w h => va_Nw.of (isN_on (cq_isN w h)) (hts w (cq_inN w h))
  have hnw2 : ∀ w ∈ rq_NW, va_Nw w s := fun w h => va_Nw.of (isN_on (rq_isN w h)) (hts w (rq_inN w h))
  refine lv_aload_n hx hb dA rfl (lv_at hl 1 rfl) ?_
  refine push1 H locs _ hS ?_
  have g1 := mc_call (p := p) (l := l) (e := e) (R := room_1) (args := #[Value.ref b]) (below := below) (meth := meth) (cells := 600000) (slots := 7302250) (Q := Q) (d := 299) (As := Lv) (rest := []) (b := 0) (j := qc) (i := i1) (ci := 0) (ls := ls) cq_ok cq_Ts_in hx hb hml hown hts hnw1 hK1 hP1 hD1 hS ⟨Nat.le_of_ble_eq_true rfl, Nat.le_of_ble_eq_true rfl⟩ ⟨Nat.le_of_ble_eq_true rfl, Nat.le_of_ble_eq_true rfl⟩ hl.1 hj1 hy1 (Or.inl hl1) he1 (Nat.le_of_ble_eq_true rfl) e1 call1
  rw [hLv] at g1
  refine g1 (fun o1 S1 hp1 hn1 H1 locs1 hP1' hS1 hz1 hk1 => ?_)
  obtain ⟨rfl, hc1⟩ := hp1
  have hD1' := pv_D_len hD1 hn1
  have hP2' : va_P D2 rq_cl (pv_w cA a2 0 Sr) H1 := hP2.kept (fun k x hk => by
    obtain ⟨lk, ek⟩ := pv_w_ad hk
    refine hk1 x.1 (hP2 k x hk).lt ?_
    rintro ⟨j, hj, ej⟩
    exact hap j hj k lk (ej.trans ek))
  refine W.eq (g2 := F0 m (pA + 1 + k + 3) ls [.int r]) rfl ?_
  refine lv_aload_n hx hb dB rfl (lv_at hl 2 rfl) ?_
  refine push2 H1 locs1 _ hS1 ?_
  have g2 := mc_call (p := p) (l := l) (e := e) (R := room_1) (args := #[Value.ref b]) (below := below) (meth := meth) (cells := 600000) (slots := 7302250) (Q := Q) (d := 299) (As := Lv) (rest := [.int r]) (b := 0) (j := qr) (i := i2) (ci := 0) (ls := ls) rq_ok rq_Ts_in hx hb hml hown hts hnw2 hK2 hP2' hD2 hS1 ⟨Nat.le_of_ble_eq_true rfl, Nat.le_of_ble_eq_true rfl⟩ ⟨Nat.le_of_ble_eq_true rfl, Nat.le_of_ble_eq_true rfl⟩ hl.1 hj2 hy2 (Or.inl hl2) he2 (Nat.le_of_ble_eq_true rfl) e2 call2
  rw [hLv] at g2
  refine g2 (fun o2 S2 hp2 hn2 H2 locs2 hP2'' hS2 hz2 hk2 => ?_)
  obtain ⟨rfl, hr1⟩ := hp2
  have hD2' := pv_D_len hD2 hn2
  have hP1'' : va_P D1 cq_cl (pv_w cA a1 0 S1) H2 := hP1'.kept (fun k x hk => by
    obtain ⟨lk, ek⟩ := pv_w_ad hk
    refine hk2 x.1 (hP1' k x hk).lt ?_
    rintro ⟨j, hj, ej⟩
    rw [hn1] at lk
    exact hap k lk j hj (ek.symm.trans ej.symm))
  refine W.eq (g2 := F0 m (pA + 1 + k + 3 + 1 + k + 3) ls [.int r, .int r]) rfl ?_
  refine lv_icmp_eq (tgt := 351) hx hb e3 ht (fun _ => ?_) (fun h => absurd rfl h)
  exact kk H2 locs2 S1 S2 ⟨⟨⟨hP1'', hD1'⟩, hP2'', hD2'⟩, fun i hi j hj => hap i (by rw [← hn1]; exact hi) j (by rw [← hn2]; exact hj), hS2, n', V', t', sc', fp', tx', hc1, hr1⟩
end LW
