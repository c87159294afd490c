/-! the pure machine: monotone; runs up to cut points -/
theorem pv_gi_mono {v : Option Value} {f g : Int32 → Prop} (hfg : ∀ x, f x → g x) (h : pv_gi v f) : pv_gi v g := by
  unfold pv_gi at h ⊢
  split at h
  · exact hfg _ h
  · exact h
theorem pv_gl_mono {v : Option Value} {f g : Int64 → Prop} (hfg : ∀ x, f x → g x) (h : pv_gl v f) : pv_gl v g := by
  unfold pv_gl at h ⊢
  split at h
  · exact hfg _ h
  · exact h
theorem pv_gr_mono {v : Option Value} {f g : Nat → Prop} (hfg : ∀ x, f x → g x) (h : pv_gr v f) : pv_gr v g := by
  unfold pv_gr at h ⊢
  split at h
  · exact hfg _ h
  · exact h
theorem pv_so_mono {v : Option Value} {f g : Value → Prop} (hfg : ∀ x, f x → g x) (h : pv_so v f) : pv_so v g := by
  unfold pv_so at h ⊢
  split at h
  · exact hfg _ h
  · exact h
theorem pv_1i_mono {st : List Value} {f g : Int32 → List Value → Prop} (hfg : ∀ x r, f x r → g x r) (h : pv_1i st f) : pv_1i st g := by
  unfold pv_1i at h ⊢
  split at h
  · exact hfg _ _ h
  · exact h
theorem pv_2i_mono {st : List Value} {f g : Int32 → Int32 → List Value → Prop} (hfg : ∀ x y r, f x y r → g x y r) (h : pv_2i st f) : pv_2i st g := by
  unfold pv_2i at h ⊢
  split at h
  · exact hfg _ _ _ h
  · exact h
theorem pv_1l_mono {st : List Value} {f g : Int64 → List Value → Prop} (hfg : ∀ x r, f x r → g x r) (h : pv_1l st f) : pv_1l st g := by
  unfold pv_1l at h ⊢
  split at h
  · exact hfg _ _ h
  · exact h
theorem pv_2l_mono {st : List Value} {f g : Int64 → Int64 → List Value → Prop} (hfg : ∀ x y r, f x y r → g x y r) (h : pv_2l st f) : pv_2l st g := by
  unfold pv_2l at h ⊢
  split at h
  · exact hfg _ _ _ h
  · exact h
theorem pv_li_mono {st : List Value} {f g : Int64 → Int32 → List Value → Prop} (hfg : ∀ x y r, f x y r → g x y r) (h : pv_li st f) : pv_li st g := by
  unfold pv_li at h ⊢
  split at h
  · exact hfg _ _ _ h
  · exact h
theorem pv_1r_mono {st : List Value} {f g : Nat → List Value → Prop} (hfg : ∀ x r, f x r → g x r) (h : pv_1r st f) : pv_1r st g := by
  unfold pv_1r at h ⊢
  split at h
  · exact hfg _ _ h
  · exact h
theorem pv_ir_mono {st : List Value} {f g : Int32 → Nat → List Value → Prop} (hfg : ∀ x y r, f x y r → g x y r) (h : pv_ir st f) : pv_ir st g := by
  unfold pv_ir at h ⊢
  split at h
  · exact hfg _ _ _ h
  · exact h
theorem pv_iir_mono {st : List Value} {f g : Int32 → Int32 → Nat → List Value → Prop} (hfg : ∀ x y z r, f x y z r → g x y z r) (h : pv_iir st f) : pv_iir st g := by
  unfold pv_iir at h ⊢
  split at h
  · exact hfg _ _ _ _ h
  · exact h
theorem pv_lir_mono {st : List Value} {f g : Int64 → Int32 → Nat → List Value → Prop} (hfg : ∀ x y z r, f x y z r → g x y z r) (h : pv_lir st f) : pv_lir st g := by
  unfold pv_lir at h ⊢
  split at h
  · exact hfg _ _ _ _ h
  · exact h
theorem pv_ri_mono {st : List Value} {f g : Int32 → Prop} (hfg : ∀ x, f x → g x) (h : pv_ri st f) : pv_ri st g := by
  unfold pv_ri at h ⊢
  split at h
  · exact hfg _ h
  · exact h
theorem pv_rl_mono {st : List Value} {f g : Int64 → Prop} (hfg : ∀ x, f x → g x) (h : pv_rl st f) : pv_rl st g := by
  unfold pv_rl at h ⊢
  split at h
  · exact hfg _ h
  · exact h
theorem pv_ai_mono {S : pv_S} {b : Nat} {f g : Nat → Nat → (Nat → Int32) → Prop} (hfg : ∀ x y z, f x y z → g x y z) (h : pv_ai S b f) : pv_ai S b g := by
  unfold pv_ai at h ⊢
  split at h
  · exact hfg _ _ _ h
  · exact h
theorem pv_al_mono {S : pv_S} {b : Nat} {f g : Nat → Nat → (Nat → Int64) → Prop} (hfg : ∀ x y z, f x y z → g x y z) (h : pv_al S b f) : pv_al S b g := by
  unfold pv_al at h ⊢
  split at h
  · exact hfg _ _ _ h
  · exact h
theorem pv_an_mono {S : pv_S} {b : Nat} {f g : Nat → Nat → Prop} (hfg : ∀ x y, f x y → g x y) (h : pv_an S b f) : pv_an S b g := by
  unfold pv_an at h ⊢
  split at h
  · exact hfg _ _ h
  · exact h
theorem pv_bif_mono {b : Bool} {P Q : Prop} (h : P → Q) (hp : (bif b then P else False)) : (bif b then Q else False) := by
  cases b with
  | true => exact h hp
  | false => exact hp
theorem pv_ob_mono {S : pv_S} {b ci : Nat} {f g : List Value → Prop} (hfg : ∀ x, f x → g x) (h : pv_ob S b ci f) : pv_ob S b ci g := by
  unfold pv_ob at h ⊢
  split at h
  · exact pv_bif_mono (hfg _) h
  · exact h
theorem pv_sw_mono {k k' : Nat → Prop} (hk : ∀ t, k t → k' t) {pc : Nat} {x : Int32} {d : Int} : ∀ ps : List (Int × Int), pv_sw k pc x ps d → pv_sw k' pc x ps d := by
  intro ps
  induction ps with
  | nil => intro h; exact hk _ h
  | cons q ps ih => intro h; exact ⟨fun e => hk _ (h.1 e), fun e => ih (h.2 e)⟩
def pv_cm (call : pv_C) : Prop := ∀ (j : Nat) (As : List Value) (S : pv_S) (P P' : pv_R), (∀ o S', P o S' → P' o S') → call j As S P → call j As S P'
set_option maxHeartbeats 4000000 in
theorem pv_ex_mono {rt : Nat} {call : pv_C} (hc : pv_cm call) {Q Q' : pv_R} (hQ : ∀ o S, Q o S → Q' o S) {k k' : pv_c → Prop} (hk : ∀ c, k c → k' c) {nx a1 a2 pc : Nat} {v : Value} {ls : pv_L} {st : List Value} {S : pv_S} {ins : Instr} (h : pv_ex rt call Q k nx a1 a2 v pc ls st S ins) : pv_ex rt call Q' k' nx a1 a2 v pc ls st S ins := by
  cases ins
  case iconst z =>
    exact hk _ h
  case bipush z =>
    exact hk _ h
  case sipush z =>
    exact hk _ h
  case lconst z =>
    exact hk _ h
  case ldc z =>
    exact hk _ h
  case ldc2_w z =>
    exact hk _ h
  case goto z =>
    exact hk _ h
  case iload z =>
    exact pv_gi_mono (fun x h => hk _ h) h
  case iload_n z =>
    exact pv_gi_mono (fun x h => hk _ h) h
  case lload z =>
    exact pv_gl_mono (fun x h => hk _ h) h
  case lload_n z =>
    exact pv_gl_mono (fun x h => hk _ h) h
  case aload z =>
    exact pv_gr_mono (fun x h => hk _ h) h
  case aload_n z =>
    exact pv_gr_mono (fun x h => hk _ h) h
  case istore z =>
    exact pv_1i_mono (fun x r h => hk _ h) h
  case istore_n z =>
    exact pv_1i_mono (fun x r h => hk _ h) h
  case lstore z =>
    exact pv_1l_mono (fun x r h => hk _ h) h
  case lstore_n z =>
    exact pv_1l_mono (fun x r h => hk _ h) h
  case i2l =>
    exact pv_1i_mono (fun x r h => hk _ h) h
  case l2i =>
    exact pv_1l_mono (fun x r h => hk _ h) h
  case i2b =>
    exact pv_1i_mono (fun x r h => hk _ h) h
  case iinc i z =>
    exact pv_gi_mono (fun x h => pv_gi_mono (fun y h => hk _ h) h) h
  case iadd =>
    exact pv_2i_mono (fun x y r h => hk _ h) h
  case isub =>
    exact pv_2i_mono (fun x y r h => hk _ h) h
  case imul =>
    exact pv_2i_mono (fun x y r h => hk _ h) h
  case iand =>
    exact pv_2i_mono (fun x y r h => hk _ h) h
  case ior =>
    exact pv_2i_mono (fun x y r h => hk _ h) h
  case ixor =>
    exact pv_2i_mono (fun x y r h => hk _ h) h
  case ishl =>
    exact pv_2i_mono (fun x y r h => hk _ h) h
  case ishr =>
    exact pv_2i_mono (fun x y r h => hk _ h) h
  case idiv =>
    exact pv_2i_mono (fun x y r h => ⟨h.1, hk _ h.2⟩) h
  case irem =>
    exact pv_2i_mono (fun x y r h => ⟨h.1, hk _ h.2⟩) h
  case ladd =>
    exact pv_2l_mono (fun x y r h => hk _ h) h
  case land =>
    exact pv_2l_mono (fun x y r h => hk _ h) h
  case lor =>
    exact pv_2l_mono (fun x y r h => hk _ h) h
  case lxor =>
    exact pv_2l_mono (fun x y r h => hk _ h) h
  case lcmp =>
    exact pv_2l_mono (fun x y r h => hk _ h) h
  case lshl =>
    exact pv_li_mono (fun x y r h => hk _ h) h
  case lshr =>
    exact pv_li_mono (fun x y r h => hk _ h) h
  case lushr =>
    exact pv_li_mono (fun x y r h => hk _ h) h
  case dup =>
    rcases st with _ | ⟨w, r⟩
    · exact h
    · exact pv_bif_mono (hk _) h
  case pop =>
    rcases st with _ | ⟨w, r⟩
    · exact h
    · exact pv_bif_mono (hk _) h
  case pop2 =>
    rcases st with _ | ⟨w, r⟩
    · exact h
    · exact pv_bif_mono (hk _) h
  case dup2 =>
    rcases st with _ | ⟨w, _ | ⟨u, r⟩⟩
    · exact h
    · exact h
    · exact pv_bif_mono (hk _) h
  case ifCond c z =>
    exact pv_1i_mono (fun x r h => by cases c <;> exact ⟨fun e => hk _ (h.1 e), fun e => hk _ (h.2 e)⟩) h
  case if_icmp c z =>
    exact pv_2i_mono (fun x y r h => by cases c <;> exact ⟨fun e => hk _ (h.1 e), fun e => hk _ (h.2 e)⟩) h
  case lookupswitch d ps =>
    exact pv_1i_mono (fun x r h => pv_sw_mono (fun t h => hk _ h) _ h) h
  case tableswitch d lo hi os =>
    exact pv_1i_mono (fun x r h => pv_sw_mono (fun t h => hk _ h) _ h) h
  case getfield z =>
    exact pv_1r_mono (fun x r h => pv_ob_mono (fun fs h => pv_so_mono (fun w h => hk _ h) h) h) h
  case putfield z =>
    cases v
    case null => exact pv_ir_mono (fun x y r h => pv_ob_mono (fun fs h => pv_so_mono (fun w h => hk _ h) h) h) h
    case int q => exact pv_ir_mono (fun x y r h => pv_ob_mono (fun fs h => pv_so_mono (fun w h => ⟨h.1, hk _ h.2⟩) h) h) h
    case long q => exact pv_1l_mono (fun x r h => pv_1r_mono (fun x r h => pv_ob_mono (fun fs h => pv_so_mono (fun w h => hk _ h) h) h) h) h
    all_goals exact h
  case iaload =>
    exact pv_ir_mono (fun x y r h => pv_ai_mono (fun t n f h => pv_bif_mono (fun h => ⟨h.1, hk _ h.2⟩) h) h) h
  case baload =>
    exact pv_ir_mono (fun x y r h => pv_ai_mono (fun t n f h => pv_bif_mono (fun h => ⟨h.1, hk _ h.2⟩) h) h) h
  case laload =>
    exact pv_ir_mono (fun x y r h => pv_al_mono (fun t n f h => pv_bif_mono (fun h => ⟨h.1, hk _ h.2⟩) h) h) h
  case iastore =>
    exact pv_iir_mono (fun x y z r h => pv_ai_mono (fun t n f h => pv_bif_mono (fun h => ⟨h.1, hk _ h.2⟩) h) h) h
  case lastore =>
    exact pv_lir_mono (fun x y z r h => pv_al_mono (fun t n f h => pv_bif_mono (fun h => ⟨h.1, hk _ h.2⟩) h) h) h
  case bastore =>
    refine pv_iir_mono (fun x y z r h => pv_ai_mono (fun t n f h => ?_) h) h
    cases hb : Nat.beq t 1 with
    | true => rw [hb] at h; exact ⟨h.1, hk _ h.2⟩
    | false => rw [hb] at h; exact pv_bif_mono (fun h => ⟨h.1, hk _ h.2⟩) h
  case arraylength =>
    exact pv_1r_mono (fun x r h => pv_an_mono (fun t n h => pv_bif_mono (hk _) h) h) h
  case invokevirtual z =>
    have h : (match pv_pop a2 [] st with | some (As, .ref b :: r) => bif Nat.ble (pv_wd r) 8 then pv_gr (some v) fun ci => pv_ob S b ci fun _ => call a1 (.ref b :: As) S (fun o S' => k (nx, ls, pv_ol o r, S')) else False | _ => False) := h
    show (match pv_pop a2 [] st with | some (As, .ref b :: r) => bif Nat.ble (pv_wd r) 8 then pv_gr (some v) fun ci => pv_ob S b ci fun _ => call a1 (.ref b :: As) S (fun o S' => k' (nx, ls, pv_ol o r, S')) else False | _ => False)
    split at h
    · exact pv_bif_mono (fun h => pv_gr_mono (fun ci h => pv_ob_mono (fun _ h => hc _ _ _ _ _ (fun o S' h => hk _ h) h) h) h) h
    · exact h
  case invokestatic z =>
    have h : (match pv_pop a2 [] st with | some (As, r) => bif Nat.ble (pv_wd r) 8 then call a1 As S (fun o S' => k (nx, ls, pv_ol o r, S')) else False | _ => False) := h
    show (match pv_pop a2 [] st with | some (As, r) => bif Nat.ble (pv_wd r) 8 then call a1 As S (fun o S' => k' (nx, ls, pv_ol o r, S')) else False | _ => False)
    split at h
    · exact pv_bif_mono (fun h => hc _ _ _ _ _ (fun o S' h => hk _ h) h) h
    · exact h
  case ireturn =>
    refine pv_ri_mono (fun x h => ?_) h
    cases hb : Nat.beq rt 0 with
    | true => rw [hb] at h; exact hQ _ _ h
    | false => rw [hb] at h; exact pv_bif_mono (fun h => ⟨h.1, hQ _ _ h.2⟩) h
  case lreturn =>
    exact pv_rl_mono (fun x h => pv_bif_mono (hQ _ _) h) h
  case return_ =>
    rcases st with _ | ⟨w, r⟩
    · exact pv_bif_mono (hQ _ _) h
    · exact h
  all_goals exact h
theorem pv_st_mono {T : Nat → Option pv_I} {rt : Nat} {call : pv_C} (hc : pv_cm call) {Q Q' : pv_R} (hQ : ∀ o S, Q o S → Q' o S) {k k' : pv_c → Prop} (hk : ∀ c, k c → k' c) {c : pv_c} (h : pv_st T rt call Q k c) : pv_st T rt call Q' k' c := by
  obtain ⟨pc, ls, st, S⟩ := c
  have h : (match T pc with | some (ins, _, nx, a1, a2, v) => pv_ex rt call Q k nx a1 a2 v pc ls st S ins | none => False) := h
  show (match T pc with | some (ins, _, nx, a1, a2, v) => pv_ex rt call Q' k' nx a1 a2 v pc ls st S ins | none => False)
  split at h
  · exact pv_ex_mono hc hQ hk h
  · exact h
theorem pv_go_fold {T : Nat → Option pv_I} {rt : Nat} {call : pv_C} (hc : pv_cm call) {Q : pv_R} {c : pv_c} (h : pv_st T rt call Q (pv_go T rt call Q) c) : pv_go T rt call Q c :=
  fun X hX => hX c (pv_st_mono hc (fun _ _ h => h) (fun c' h' => h' X hX) h)
theorem pv_go_mono {T : Nat → Option pv_I} {rt : Nat} {call : pv_C} (hc : pv_cm call) {Q Q' : pv_R} (hQ : ∀ o S, Q o S → Q' o S) {c : pv_c} (h : pv_go T rt call Q c) : pv_go T rt call Q' c :=
  fun X hX => h X (fun c' h' => hX c' (pv_st_mono hc hQ (fun _ h => h) h'))
theorem pv_call_cm (mt : Nat → Option pv_M) : ∀ d, pv_cm (pv_call mt d) := by
  intro d
  induction d with
  | zero => intro j As S P P' _ h; exact h
  | succ d ih =>
    intro j As S P P' hP h
    have h : (bif Nat.beq j 999 then pv_cp As S P else bif Nat.beq j 998 then pv_mn As S P else match mt j with
      | some (_, _, maxL, _, _, _, rt, T) => pv_wd As ≤ maxL ∧ pv_go T rt (pv_call mt d) P (0, lv_args 0 As, [], S)
      | none => False) := h
    show (bif Nat.beq j 999 then pv_cp As S P' else bif Nat.beq j 998 then pv_mn As S P' else match mt j with
      | some (_, _, maxL, _, _, _, rt, T) => pv_wd As ≤ maxL ∧ pv_go T rt (pv_call mt d) P' (0, lv_args 0 As, [], S)
      | none => False)
    cases h9 : Nat.beq j 999 with
    | true =>
      rw [h9] at h
      have h : pv_cp As S P := h
      show pv_cp As S P'
      unfold pv_cp at h ⊢
      split at h
      · exact pv_ai_mono (fun t n f h => pv_ai_mono (fun u n' g h => pv_bif_mono (fun h => ⟨h.1, hP _ _ h.2⟩) h) h) h
      · exact h
    | false =>
      rw [h9] at h
      cases h8 : Nat.beq j 998 with
      | true =>
        rw [h8] at h
        have h : pv_mn As S P := h
        show pv_mn As S P'
        unfold pv_mn at h ⊢
        split at h
        · exact hP _ _ h
        · exact h
      | false =>
        rw [h8] at h
        cases hm : mt j with
        | none => rw [hm] at h; exact h
        | some x =>
          obtain ⟨y, bc, maxL, ret, stat, na, rt, T⟩ := x
          rw [hm] at h
          exact ⟨h.1, pv_go_mono ih hP h.2⟩
/-- a call is shown by its method's walk -/
theorem pv_call_of {mt : Nat → Option pv_M} {d j : Nat} {As : List Value} {S : pv_S} {P : pv_R} {y : MethodName} {bc : ByteArray} {maxL : Nat} {ret : Option FieldType} {stat : Bool} {na rt : Nat} {T : Nat → Option pv_I} (hj : (Nat.beq j 999 || Nat.beq j 998) = false) (hm : mt j = some (y, bc, maxL, ret, stat, na, rt, T)) (hw : Nat.ble (pv_wd As) maxL = true) (h : pv_go T rt (pv_call mt d) P (0, lv_args 0 As, [], S)) : pv_call mt (d + 1) j As S P := by
  show (bif Nat.beq j 999 then pv_cp As S P else bif Nat.beq j 998 then pv_mn As S P else match mt j with
      | some (_, _, maxL, _, _, _, rt, T) => pv_wd As ≤ maxL ∧ pv_go T rt (pv_call mt d) P (0, lv_args 0 As, [], S)
      | none => False)
  rw [Bool.or_eq_false_iff] at hj
  rw [hj.1, hj.2, hm]
  exact ⟨Nat.le_of_ble_eq_true hw, h⟩
/-- up to n steps, not beyond a pc of the list -/
def pv_wp (T : Nat → Option pv_I) (rt : Nat) (call : pv_C) (Q : pv_R) (cuts : List Nat) (C : pv_c → Prop) : Nat → pv_c → Prop
  | 0, c => C c
  | n + 1, (pc, ls, st, S) => bif cuts.any (Nat.beq pc) then C (pc, ls, st, S) else pv_st T rt call Q (pv_wp T rt call Q cuts C n) (pc, ls, st, S)
theorem pv_wp_go {T : Nat → Option pv_I} {rt : Nat} {call : pv_C} (hc : pv_cm call) {Q : pv_R} {cuts : List Nat} : ∀ (n : Nat) (c : pv_c), pv_wp T rt call Q cuts (pv_go T rt call Q) n c → pv_go T rt call Q c := by
  intro n
  induction n with
  | zero => intro c h; exact h
  | succ n ih =>
    intro c h
    obtain ⟨pc, ls, st, S⟩ := c
    have h : (bif cuts.any (Nat.beq pc) then pv_go T rt call Q (pc, ls, st, S) else pv_st T rt call Q (pv_wp T rt call Q cuts (pv_go T rt call Q) n) (pc, ls, st, S)) := h
    cases hb : cuts.any (Nat.beq pc) with
    | true => rw [hb] at h; exact h
    | false => rw [hb] at h; exact pv_go_fold hc (pv_st_mono hc (fun _ _ h => h) ih h)
/-- from a cut point on: one step, then up to n more -/
theorem pv_run {mt : Nat → Option pv_M} {d : Nat} {T : Nat → Option pv_I} {rt : Nat} {Q : pv_R} (cuts : List Nat) (n : Nat) {c : pv_c} (h : pv_st T rt (pv_call mt d) Q (pv_wp T rt (pv_call mt d) Q cuts (pv_go T rt (pv_call mt d) Q) n) c) : pv_go T rt (pv_call mt d) Q c :=
  pv_go_fold (pv_call_cm mt d) (pv_st_mono (pv_call_cm mt d) (fun _ _ h => h) (pv_wp_go (pv_call_cm mt d) n) h)
