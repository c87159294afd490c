/-! a constructor that makes arrays and sets fields, as a contract -/
theorem obj_im : Cond.instanceMethod objectInit ∈ lwG := lwG_in (by decide +kernel) rfl
theorem obj_code : Cond.code objectInit ⟨#[0xb1]⟩ 1 none ∈ lwG := lwG_in (rq_tb1 (List.mem_of_getElem? (i := 19) rfl)) rfl
theorem ct_one {A : Nat → Prop} {x : Nat × va_E} (h : A x.1) : va_D A [x] := by
  refine ⟨fun i j p q hi hj _ => ?_, fun k q hk => ?_⟩
  · have h1 : i < 1 := (List.getElem?_eq_some_iff.mp hi).1
    have h2 : j < 1 := (List.getElem?_eq_some_iff.mp hj).1
    omega
  · have h1 : k < 1 := (List.getElem?_eq_some_iff.mp hk).1
    rw [show k = 0 by omega] at hk
    cases hk
    exact h
theorem ct_noref {fs0 : List Value} (hfr : ∀ k, Value.ref k ∈ fs0 → False) (ad : Nat → Nat) : fs0.map (pv_v ad) = fs0 := by
  have h : fs0.map (pv_v ad) = fs0.map id := List.map_congr_left (fun v hv => by
    cases v with
    | ref k => exact (hfr k hv).elim
    | _ => rfl)
  rw [h, List.map_id]
/-- the outer references stand at 50 and on -/
def adO (ad o : Nat → Nat) : Nat → Nat := fun k => if k < 50 then ad k else o (k - 50)
theorem ct_leaf {l : Launch} {D : va_G} {cA : Nat → Nat} {cl : List vw_C} {tyf : Nat → Nat → FieldType} (hC : pv_okC cl tyf lwG) {y : MethodName} {bc : ByteArray} {maxL a1 N : Nat} {T : u_T} (hc : cl[a1]? = some (y.cls, T, N)) (hpl : plainName y.cls = true) (hni : y.name = "<init>") {idx : Nat} (hob : Cond.methodLink y.cls idx objectInit ∈ lwG) (d0 : decode bc 0 = .ok (.aload_n 0, 1)) (d1 : decode bc 1 = .ok (.invokespecial idx, 3)) {L : List ctD} {E : List ctE} {na : Nat} (hL : ctOK bc lwG y.cls T N (tyf a1) 4 L) (hE : ctOU na bc lwG y.cls T N (tyf a1) (ctPc 4 L) E) (dr : decode bc (ctPe (ctPc 4 L) E) = .ok (.return_, 1)) {fs0 : List Value} (hf0 : fs0.length = N) (hfr : ∀ k, Value.ref k ∈ fs0 → False) (hLn : L.length < 49) (o : Nat → Nat) (As : List Value) (h0 sz : Nat) (hAs : ∀ k, 1 ≤ k → k ≤ na → (lv_args 0 (.ref h0 :: As))[k]? = some (k, .ref (o k))) (hAl : (lg_sl (.ref h0 :: As)).length ≤ maxL) {mc ms : Nat} (hmc : mc = L.length) (hms : ms = ctN L) :
    Met l y (pv_ws lwG y bc maxL none) { frames := 1, cells := mc, slots := ms, locals := 12 } (va_Pc (.ref h0 :: As) (fun U => U.heap.size = sz ∧ va_P D cl [(h0, .inr (a1, fs0))] U.heap ∧ va_K D cl (pv_tys cA) U)) (va_Qv (fun ad : Nat → Nat => ad 0 = h0 ∧ ∀ k, 1 ≤ k → k ≤ na → ad (50 + k) = o k) (fun ad t => va_P D cl (pv_w cA ad 0 (.inr (a1, ctG (ctF fs0 1 L) E) :: ctA L)) t.heap ∧ va_D (va_A [(h0, .inr (a1, fs0))] sz) (pv_w cA ad 0 (.inr (a1, ctG (ctF fs0 1 L) E) :: ctA L))) (va_A [(h0, .inr (a1, fs0))] sz)) mc ms (va_A [(h0, .inr (a1, fs0))] sz) := by
  subst hmc
  subst hms
  refine Met.ofW (cc := bc) (maxL := maxL) (ret := none) hpl rfl ?_
  intro p e s m args below meth c s₁ B hml hv
  obtain ⟨rfl, hsz, hP, hK⟩ := hv
  have hx := B.exec
  have hb := B.bytes
  have hr := B.returns
  have hts : ∀ w ∈ lwG, w.before _ s = true := fun w hw => atoms_spec (ws := pv_ws lwG y bc maxL none) B.pre w (List.mem_cons_of_mem _ hw)
  have hown : s.vm.findClass y.cls = some m.cls := findClass_of_methodNamed B.named
  have hlocks := B.notSynchronized
  have hin : meth.name = "<init>" := ((name_of_methodNamed B.named B.method).1).trans hni
  subst hsz
  have hA0 : va_A [(h0, Sum.inr (a1, fs0))] s.heap.size h0 := Or.inl ⟨0, _, rfl⟩
  have hA : ∀ q, s.heap.size ≤ q → va_A [(h0, Sum.inr (a1, fs0))] s.heap.size q := fun q h => Or.inr h
  generalize va_A [(h0, Sum.inr (a1, fs0))] s.heap.size = A at hA0 hA ⊢
  have ew : pv_w cA (fun _ => h0) 0 [.inr (a1, fs0)] = [(h0, .inr (a1, fs0))] := by
    show [(h0, Sum.inr (a1, fs0.map (pv_v _)))] = _
    rw [ct_noref hfr]
  have hP : va_P D cl (pv_w cA (fun _ => h0) 0 [.inr (a1, fs0)]) s.heap := by rw [ew]; exact hP
  have hD : va_D A (pv_w cA (fun _ => h0) 0 [.inr (a1, fs0)]) := by rw [ew]; exact ct_one hA0
  have hS : va_S A s.heap s.heap [] := va_S.rf
  have hl := lv_entry (.ref h0 :: As) (n := maxL) hAl
  rw [lg_entry_eq]
  generalize (lg_sl (.ref h0 :: As) ++ List.replicate (maxL - (lg_sl (.ref h0 :: As)).length) Slot.unset).toArray = ls at hl ⊢
  have hl0 : lv_has ls maxL [(0, .ref h0)] := lv_sub hl [0] rfl
  refine lv_aload_n hx hb d0 rfl (lv_at hl0 0 rfl) ?_
  refine W.objInit hx hb hown (hts _ hob) (hts _ obj_im) (hts _ obj_code) rfl (by rw [hml]; exact hl.1) rfl d1 (Nat.le_of_ble_eq_true rfl) (Nat.le_of_ble_eq_true rfl) ?_
  refine W.eq (g2 := F0 m 4 ls []) rfl ?_
  refine ct_run hx hb hown hts hK hC hA hin hl0 hc L 4 0 0 (fun _ => h0) fs0 [] s.heap [] rfl hL hf0 (fun x h => absurd h List.not_mem_nil) (fun k h => (hfr k h).elim) (by show 0 + L.length ≤ L.length; omega) (by show 0 + ctN L ≤ ctN L; omega) hP hD hS (fun ad H1 locs1 z0 hP1 hD1 hS1 => ?_)
  have hcg : pv_w cA ad 0 (.inr (a1, ctF fs0 1 L) :: ctA L) = pv_w cA (adO ad o) 0 (.inr (a1, ctF fs0 1 L) :: ctA L) := by
    refine pv_w_cg (n := 50) (fun k hk => (if_pos hk).symm) _ 0 ?_ ?_
    · show 0 + ((ctA L).length + 1) ≤ 50
      rw [ctA_len]; omega
    · intro x hx ci fs ex k hk
      rcases List.mem_cons.mp hx with rfl | hx
      · cases ex
        exact Nat.lt_of_lt_of_le (ctF_ref L fs0 1 (fun k h => (hfr k h).elim) k hk) (by omega)
      · obtain ⟨a, rfl⟩ := ctA_arr L x hx
        cases ex
  have hP1 : va_P D cl (pv_w cA (adO ad o) 0 (.inr (a1, ctF fs0 1 L) :: ctA L)) H1 := by rw [← hcg]; exact hP1
  have hD1 : va_D A (pv_w cA (adO ad o) 0 (.inr (a1, ctF fs0 1 L) :: ctA L)) := by rw [← hcg]; exact hD1
  have z1 : adO ad o 0 = h0 := z0
  have z2 : ∀ k, adO ad o (50 + k) = o k := fun k => by
    show (if 50 + k < 50 then _ else o (50 + k - 50)) = o k
    rw [if_neg (by omega), show 50 + k - 50 = k by omega]
  refine ct_puts (na := na) hx hb hown hts hK hC hin (by rw [z1]; exact hl0) (fun k h1 h2 => by rw [z2]; exact lv_at hl k (hAs k h1 h2)) hc E (ctPc 4 L) (ctF fs0 1 L) H1 locs1 hE (by rw [ctF_len]; exact hf0) hP1 hD1 hS1 (fun H2 locs2 hP2 hD2 hS2 => ?_)
  rw [Nat.zero_add, Nat.zero_add]
  exact W.vret hx hb hr (fun t ht _ => ⟨⟨adO ad o, rfl, ⟨z1, fun k _ _ => z2 k⟩, by rw [ht]; exact hP2, hD2⟩, hS2.F ht⟩) hS2.2.2 dr
