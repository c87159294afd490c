/-! constructors: many new arrays -/
/-- k: length of the push, n: length of the array, its type, its number among the array classes, the field, the field's index in the class file -/
abbrev ctD : Type := (Nat × Int × Int32) × (ArrayType × Nat) × (Nat × Nat)
def ctZ (t : Nat) (n : Int32) : vp_A := if t = 3 then (n.toNatClampNeg, .inr (.inl (fun _ => 0))) else (n.toNatClampNeg, .inl (fun _ => 0))
def ctS (cc : ByteArray) (Ts : List Cond) (own : String) (T : u_T) (N : Nat) (ty0 : Nat → FieldType) (pc : Nat) (d : ctD) : Prop :=
  (decode cc pc = .ok (.aload_n 0, 1) ∧ ((d.1.1 = 2 ∧ decode cc (pc + 1) = .ok (.bipush d.1.2.1, 2) ∧ (Int8.ofInt d.1.2.1).toInt32 = d.1.2.2) ∨ (d.1.1 = 3 ∧ decode cc (pc + 1) = .ok (.sipush d.1.2.1, 3) ∧ (Int16.ofInt d.1.2.1).toInt32 = d.1.2.2)) ∧ decode cc (pc + 1 + d.1.1) = .ok (.newarray d.2.1.1, 2) ∧ decode cc (pc + 1 + d.1.1 + 2) = .ok (.putfield d.2.2.2, 3)) ∧
  ((¬ d.1.2.2 < 0 ∧ d.1.2.2.toNatClampNeg * componentBytes (newarray.typeOf d.2.1.1) ≤ 536870912) ∧ Cond.arrayClass (newarray.typeOf d.2.1.1) ∈ Ts ∧ ((d.2.1.1 = .int ∧ d.2.1.2 = 0) ∨ (d.2.1.1 = .byte ∧ d.2.1.2 = 1) ∨ (d.2.1.1 = .boolean ∧ d.2.1.2 = 2) ∨ (d.2.1.1 = .long ∧ d.2.1.2 = 3))) ∧
  ((d.2.2.1 < N ∧ Cond.fieldLink own d.2.2.2 own (T d.2.2.1).2.1 (T d.2.2.1).2.2.1 ∈ Ts) ∧ ∀ q, narrow (ty0 d.2.2.1) (.ref q) = .ref q ∧ fits (ty0 d.2.2.1) (.ref q) = true)
def ctOK (cc : ByteArray) (Ts : List Cond) (own : String) (T : u_T) (N : Nat) (ty0 : Nat → FieldType) : Nat → List ctD → Prop
  | _, [] => True
  | pc, d :: L => ctS cc Ts own T N ty0 pc d ∧ ctOK cc Ts own T N ty0 (pc + 1 + d.1.1 + 2 + 3) L
def ctPc : Nat → List ctD → Nat
  | pc, [] => pc
  | pc, d :: L => ctPc (pc + 1 + d.1.1 + 2 + 3) L
def ctF : List Value → Nat → List ctD → List Value
  | fs, _, [] => fs
  | fs, j, d :: L => ctF (pv_set fs d.2.2.1 (.ref j)) (j + 1) L
def ctA : List ctD → pv_S
  | [] => []
  | d :: L => .inl (d.2.1.2, ctZ d.2.1.2 d.1.2.2) :: ctA L
def ctN : List ctD → Nat
  | [] => 0
  | d :: L => d.1.2.2.toNatClampNeg + ctN L
theorem ctZ_cell {t : Nat} {n : Int32} {at1 : ArrayType} (h : (at1 = .int ∧ t = 0) ∨ (at1 = .byte ∧ t = 1) ∨ (at1 = .boolean ∧ t = 2) ∨ (at1 = .long ∧ t = 3)) (k : ClassId) : vp_cell k (ctZ t n) = arrV k n.toNatClampNeg (fun _ => defaultValue (newarray.typeOf at1)) := by
  rcases h with ⟨rfl, rfl⟩ | ⟨rfl, rfl⟩ | ⟨rfl, rfl⟩ | ⟨rfl, rfl⟩ <;> rfl
theorem set_ref {k v j : Nat} : ∀ (fs : List Value) (i : Nat), Value.ref k ∈ pv_set fs i (.ref v) → (∀ k, Value.ref k ∈ fs → k < j) → v < j + 1 → k < j + 1
  | [], _, h, _, _ => absurd h List.not_mem_nil
  | x :: l, 0, h, hf, hv => by
    rcases List.mem_cons.mp h with e | e
    · cases e; exact hv
    · exact Nat.lt_succ_of_lt (hf k (List.mem_cons_of_mem _ e))
  | x :: l, i + 1, h, hf, hv => by
    rcases List.mem_cons.mp h with e | e
    · exact Nat.lt_succ_of_lt (hf k (e ▸ List.mem_cons_self))
    · exact set_ref l i e (fun k hk => hf k (List.mem_cons_of_mem _ hk)) hv
section CT2
variable {p : Program} {l : Launch} {e : Env} {R : Room} {s : State} {m : MethodId} {args : Array Value} {below : List Frame} {meth : Method} {c : Code}
variable {cl : List vw_C} {D : va_G} {cA : Nat → Nat} {H0 : Heap} {cc : ByteArray} {A : Nat → Prop}
theorem ct_run {Q : State → Prop} {own : String} {Ts : List Cond} {tyf : Nat → Nat → FieldType} (hx : p.tables.exec = Jvm.exec) (hb : c.code = cc) (hown : s.vm.findClass own = some m.cls) (hts : ∀ w ∈ Ts, w.before args s = true) (hK : va_K D cl (pv_tys cA) s) (hC : pv_okC cl tyf Ts) (hA : ∀ q, H0.size ≤ q → A q) (hin : meth.name = "<init>") {nL h0 : Nat} {ls : Array Slot} (hl0 : lv_has ls nL [(0, .ref h0)]) {a1 N : Nat} {T : u_T} (hc : cl[a1]? = some (own, T, N)) : ∀ (L : List ctD) (pc cells slots : Nat) (ad : Nat → Nat) (fs : List Value) (arrs : pv_S) (H : Heap) (locs : List Loc), ad 0 = h0 → ctOK cc Ts own T N (tyf a1) pc L → fs.length = N → (∀ x ∈ arrs, ∃ a, x = .inl a) → (∀ k, Value.ref k ∈ fs → k < arrs.length + 1) → cells + L.length ≤ R.cells → slots + ctN L ≤ R.slots → va_P D cl (pv_w cA ad 0 (.inr (a1, fs) :: arrs)) H → va_D A (pv_w cA ad 0 (.inr (a1, fs) :: arrs)) → va_S A H0 H locs →
    (∀ (ad' : Nat → Nat) (H1 : Heap) (locs1 : List Loc), ad' 0 = h0 → va_P D cl (pv_w cA ad' 0 (.inr (a1, ctF fs (arrs.length + 1) L) :: (arrs ++ ctA L))) H1 → va_D A (pv_w cA ad' 0 (.inr (a1, ctF fs (arrs.length + 1) L) :: (arrs ++ ctA L))) → va_S A H0 H1 locs1 → W p l e R s m args below meth c H1 locs1 (cells + L.length) (slots + ctN L) Q (F0 m (ctPc pc L) ls [])) → W p l e R s m args below meth c H locs cells slots Q (F0 m pc ls [])
  | [], pc, cells, slots, ad, fs, arrs, H, locs, h0', _, _, _, _, _, _, hP, hD, hS, kk => kk ad H locs h0' (by rw [show ctA [] = [] from rfl, List.append_nil]; exact hP) (by rw [show ctA [] = [] from rfl, List.append_nil]; exact hD) hS
  | d :: L, pc, cells, slots, ad, fs, arrs, H, locs, h0', ⟨hd, hL⟩, hfl, har, hrf, hce, hsl, hP, hD, hS, kk => by
    obtain ⟨⟨d0, dp, d2, d3⟩, ⟨hn, hac, hty⟩, ⟨hk, hlk⟩, hq⟩ := hd
    have hlenS : (Sum.inr (a1, fs) :: arrs : pv_S).length = arrs.length + 1 := rfl
    have hNl : ctN (d :: L) = d.1.2.2.toNatClampNeg + ctN L := rfl
    have hLl : (d :: L).length = L.length + 1 := rfl
    have hrin : rfIn (Sum.inr (a1, fs) :: arrs : pv_S).length (.inr (a1, fs) :: arrs) := by
      intro x hx ci fs' ex k hk'
      rcases List.mem_cons.mp hx with rfl | hx
      · cases ex
        exact hrf k hk'
      · obtain ⟨a, rfl⟩ := har x hx
        cases ex
    have htt : (pv_tys cA)[d.2.1.2]? = some (cA d.2.1.2, newarray.typeOf d.2.1.1) := by
      rcases hty with ⟨e1, e2⟩ | ⟨e1, e2⟩ | ⟨e1, e2⟩ | ⟨e1, e2⟩ <;> rw [e1, e2] <;> rfl
    have hra : ∀ (U : State) (k : ClassId), va_RA U k (newarray.typeOf d.2.1.1) → U.vm.findClass ("[" ++ (newarray.typeOf d.2.1.1).toString) = some k := by
      intro U k
      rcases hty with ⟨e1, _⟩ | ⟨e1, _⟩ | ⟨e1, _⟩ | ⟨e1, _⟩ <;> rw [e1] <;> exact id
    have hm : (T d.2.2.1).2.2.2 = false ∨ ((T d.2.2.1).2.2.2 = true ∧ meth.name = "<init>" ∧ own = own) := by
      cases hT : (T d.2.2.1).2.2.2
      · exact Or.inl rfl
      · exact Or.inr ⟨rfl, hin, rfl⟩
    refine ct_step (S := .inr (a1, fs) :: arrs) (k := d.1.1) (n := d.1.2.2) hx hb hown hts hK hC hA (by rw [h0']; exact hl0) hP hD hS hrin (by rw [hlenS]; omega) d0 ?_ hac rfl d.2.1.2 htt hra (ctZ_cell hty) hn.1 rfl hn.2 (by omega) (by omega) d2 hc hk hlk hm rfl (by rw [hfl]; exact hk) (fun q => (hq q).1) (fun q => (hq q).2) d3 (fun q H1 locs1 hP1 hD1 hS1 e0 => ?_)
    · intro st k
      rcases dp with ⟨e1, e2, e3⟩ | ⟨e1, e2, e3⟩
      · rw [e1] at k
        exact lv_bipush hx hb e2 e3 k
      · rw [e1] at k
        exact lv_sipush hx hb e2 e3 k
    · have hP1 : va_P D cl (pv_w cA (ad1 ad (Sum.inr (a1, fs) :: arrs : pv_S).length q) 0 (.inr (a1, pv_set fs d.2.2.1 (.ref (arrs.length + 1))) :: (arrs ++ [Sum.inl (d.2.1.2, ctZ d.2.1.2 d.1.2.2)]))) H1 := hP1
      have hD1 : va_D A (pv_w cA (ad1 ad (Sum.inr (a1, fs) :: arrs : pv_S).length q) 0 (.inr (a1, pv_set fs d.2.2.1 (.ref (arrs.length + 1))) :: (arrs ++ [Sum.inl (d.2.1.2, ctZ d.2.1.2 d.1.2.2)]))) := hD1
      have ea : (arrs ++ [Sum.inl (d.2.1.2, ctZ d.2.1.2 d.1.2.2)] : pv_S).length + 1 = arrs.length + 1 + 1 := by rw [List.length_append]; rfl
      refine ct_run hx hb hown hts hK hC hA hin hl0 hc L _ (cells + 1) (slots + d.1.2.2.toNatClampNeg) _ (pv_set fs d.2.2.1 (.ref (arrs.length + 1))) (arrs ++ [Sum.inl (d.2.1.2, ctZ d.2.1.2 d.1.2.2)] : pv_S) H1 locs1 (e0.trans h0') hL (by rw [pv_set_len]; exact hfl) (fun x hx => ?_) (fun k hk' => ?_) (by omega) (by omega) hP1 hD1 hS1 (fun ad' H2 locs2 z0 hP2 hD2 hS2 => ?_)
      · rcases List.mem_append.mp hx with hx | hx
        · exact har x hx
        · exact ⟨_, List.mem_singleton.mp hx⟩
      · rw [ea]
        exact set_ref fs _ hk' hrf (by omega)
      · have g := kk ad' H2 locs2 z0
        rw [ea, List.append_assoc] at hP2 hD2
        have g := g hP2 hD2 hS2
        rw [hLl, hNl, show cells + (L.length + 1) = cells + 1 + L.length by omega, show slots + (d.1.2.2.toNatClampNeg + ctN L) = slots + d.1.2.2.toNatClampNeg + ctN L by omega] at g
        exact g
end CT2
