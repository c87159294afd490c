/-! the reference's build and solve over a unit -/
/-- a unit's tree -/
def TT (V : Nat) (t : Std.Format) : Prop := ((sp_z t ≤ 240 ∧ V ≤ 12) ∧ sW V 1 [] t 0 ∧ fT V t) ∧ ((∃ lo hi, FO t lo hi) ∧ tZ t) ∧ (jT [] t 0 ∧ dpS t ≤ 20 ∧ wS t ≤ 240)
theorem TT_u {tx : Nat → Int32} {n q V : Nat} {sc : sc_T} {t : Std.Format} (hn : n ≤ 240) (h : uOK tx n q V sc t) : TT V t := by
  have s := uOK_shape hn h
  exact ⟨⟨⟨by omega, s.2.2.1⟩, s.1.1⟩, ⟨⟨_, _, s.1.2⟩, uOK_Z hn h⟩, uOK_J hn h⟩
theorem TT_nil : TT 0 .nil := ⟨⟨⟨by decide, by decide⟩, by rw [sW.eq_def]; trivial, trivial⟩, ⟨⟨0, 0, Nat.le_refl 0⟩, trivial⟩, jT_nil, by decide, by decide⟩
theorem rRow_c {a a' : Nat → Nat → Int32} (h : ∀ j, j ≤ 42 → a' j = a j) {W : Nat} {R : NR} (hr : rRow a W R) : rRow a' W R := by
  unfold rRow ndS ndF at hr ⊢
  simp only [h r_sort (by decide), h r_first (by decide), h r_around (by decide), h r_isStmt (by decide), h r_thereBefore (by decide), h r_thereAfter (by decide), h r_isMarked (by decide), h r_variable (by decide), h r_nameOf (by decide), h r_isFinal (by decide), h r_givenAt (by decide), h r_target (by decide), h r_hasCatch (by decide), h r_hasEnd (by decide), h r_part (by decide), h r_tailMarked (by decide), h r_hasOther (by decide)]
  exact hr
theorem RU_c {a a' : Nat → Nat → Int32} (h : ∀ j, j ≤ 45 → a' j = a j) {V : Nat} {t : Std.Format} (hr : RU a V t) : RU a' V t := by
  refine ⟨hr.1, fun i R hi => ?_⟩
  have g := hr.2 i R hi
  rw [h r_number (by decide), h r_byNumber (by decide)]
  exact ⟨rRow_c (fun j hj => h j (by omega)) g.1, g.2⟩
/-- the reference's graph of the unit -/
def WR (b : Nat → Nat → Int32) (V : Nat) (t : Std.Format) (Wf : wL_T) (on : Nat → Int32) (E : eL_T) : Prop :=
  RU b V t ∧ ((∀ p, p < sp_z t → lnA b (Kd t p) (b r_around p)) ∧ (∀ x, x ∈ E ↔ isEd b t (Kd t) Wf x)) ∧ (wayIn b t (Kd t) Wf ∧ woI b (sp_z t) (Kd t) on Wf Wf.length) ∧ (Wf.length < 1499 ∧ ∀ x ∈ Wf, x.1 < sp_z t ∧ SO t x.1 = 84 ∧ hE t x.1)
/-- the sets that solve finds -/
def RSeen (V : Nat) (t : Std.Format) (F : Nat → Int32) : Prop := ∃ b Wf on E, WR b V t Wf on E ∧ seenQ E Wf on b (Kd t) (sp_z t) V F (V + 1)
theorem seenQ_c {E : eL_T} {W : wL_T} {on : Nat → Int32} {a a' : Nat → Nat → Int32} {K : Nat → Nat} {N V : Nat} {F : Nat → Int32} {k : Nat} (h : ∀ j, j ≤ 42 → a' j = a j) (hs : seenQ E W on a' K N V F k) : seenQ E W on a K N V F k := by
  have i5 := inP_c (h r_around (by decide)) (h r_part (by decide)) K W
  intro v hv
  obtain ⟨ed, H, s1, s2, s3⟩ := hs v hv
  refine ⟨ed, H, fun T h1 h2 h3 h4 c hc => ?_, by rw [← i5]; exact s2, s3⟩
  rw [← i5]
  exact s1 T h1 h2 (by rw [h r_sort (by decide)]; exact h3) (by rw [h r_hasEnd (by decide)]; exact h4) c hc
/-- what build leaves -/
def BO (m : Nat → Int32) (a : Nat → Nat → Int32) (V : Nat) (t : Std.Format) (b : Nat → Nat → Int32) (Wf : wL_T) (on : Nat → Int32) (E : eL_T) (m' : Nat → Int32) (a' : Nat → Nat → Int32) : Prop :=
  ((∀ j, ¬ (j = 50 ∨ j = 51 ∨ j = 55) → m' j = m j) ∧ m' r_start = 3599) ∧ ((∀ j, ¬ (43 ≤ j ∧ j ≤ 54) → a' j = a j) ∧ ∀ j, j ≤ 45 → a' j = b j) ∧ WR b V t Wf on E ∧ grOK m' a' (sp_z t) (Kd t) E Wf on
theorem GW_c {a a' : Nat → Nat → Int32} (h : ∀ j, j ≤ 42 → a' j = a j) (t : Std.Format) : GW a' t = GW a t ∧ okW a' t = okW a t := by
  have e : cdF a' = cdF a := by
    funext p
    unfold cdF
    rw [h r_sort (by decide), h r_target (by decide)]
  have e2 : okW a' t = okW a t := by
    unfold okW cdWL
    rw [e]
  refine ⟨?_, e2⟩
  unfold GW
  rw [e2]
set_option maxRecDepth 100000 in
theorem rc_build_ok (d : Nat) {m : Nat → Int32} {a : Nat → Nat → Int32} {V : Nat} {t : Std.Format} (hT : TT V t) (hs : m r_nodes = nI (sp_z t)) (hr : ∀ R ∈ unitL t, rRow a V R) (P : pv_R)
    (h : ∀ b Wf on E m' a', BO m a V t b Wf on E m' a' → P none (rs m' a')) : pv_call rq_mt (d + 6) rq_m_R_build [.ref 0] (rs m a) P := by
  obtain ⟨⟨hN, hsW, hfT⟩, ⟨⟨lo, hi, hFO⟩, _⟩, hj, _, hw⟩ := hT
  refine rc_build d (N := sp_z t) (K := Kd t) (G := GW a t) (okC := okW a t) (by omega) hs (fun a0 => (∀ j, ¬ (43 ≤ j ∧ j ≤ 45) → a0 j = a j) ∧ RU a0 V t) (fun P' hP => ?_) (fun a0 ha => ⟨RU_bdOK ha.2 hj, by
    have e := GW_c (a := a) (a' := a0) (fun j hj => ha.1 j (by omega)) t
    rw [← e.1, ← e.2]
    exact RU_gOK ha.2 hj hw⟩) P (fun a0 on Wf S ha h1 h2 h3 h4 => ?_)
  · refine rc_order_ok (d + 4) m a hfT hFO (by omega) hs hr P' (fun f g k hk => ?_)
    have same : ∀ j, ¬ (43 ≤ j ∧ j ≤ 45) → numA (upa a r_deep f) g k j = a j := by
      intro j hj
      show upa (upa (upa a r_deep f) r_number g) r_byNumber k j = a j
      rw [upa_ne _ _ (show ¬ j = 45 by omega), upa_ne _ _ (show ¬ j = 44 by omega), upa_ne _ _ (show ¬ j = 43 by omega)]
    refine hP _ ⟨same, ⟨hN, hsW, hfT⟩, fun i R hi => ⟨rRow_c (fun j hj => same j (by omega)) (hr R (List.mem_of_getElem? hi)), ?_⟩⟩
    have := hk i R hi
    show (upa (upa (upa a r_deep f) r_number g) r_byNumber k) 44 (nid R) = nI i ∧ (upa (upa (upa a r_deep f) r_number g) r_byNumber k) 45 i = nI (nid R)
    rw [upa_ne _ _ (show ¬ 44 = 45 by omega), upa_at, upa_at]
    exact this
  · have hU := ha.2
    rw [← (GW_c (a := a) (a' := a0) (fun j hj => ha.1 j (by omega)) t).1] at h2
    have len := GW_len hU hw h2
    have vE1 := RU_vE hU hj (by omega) h1
    have ea := ed_all hU h1
    have el := bdG_len (a := a0) (N := sp_z t) (K := Kd t) (sp_z t) 0 (cnF a0 (sp_z t) (-1) 0 3599 1300 []) [] (by omega) (by have := cnF_len a0 (sp_z t) (-1) 0 3599 1300 []; have : ([] : eL_T).length = 0 := rfl; omega)
    have sl := sC_le a0 (sp_z t) 0 (sp_z t) (by omega)
    generalize (bdG a0 (sp_z t) (Kd t) (sp_z t) 0 (cnF a0 (sp_z t) (-1) 0 3599 1300 []) []).1 = E at vE1 ea el h4
    obtain ⟨m', a', rfl, ⟨r1, r2⟩, ⟨r3, r4, r5⟩, r6, r7⟩ := h4
    have a45 : ∀ j, j ≤ 45 → a' j = a0 j := by
      intro j hj
      rw [r2 j (by omega), upa_ne _ _ (show ¬ j = 54 by omega)]
    refine h a0 Wf on E m' a' ⟨⟨fun j hj => ?_, ?_⟩, ⟨fun j hj => ?_, a45⟩, ⟨hU, ⟨fun p hp => RU_ln hU hp, ea.1⟩, ⟨ea.2, h3⟩, by omega, fun x hx => (h2.2 x hx).1⟩, ⟨r4, r5, by omega, vE1⟩, ⟨r6, r7, by omega, fun x hx => (h2.2 x hx).1.1⟩, ⟨fun k hk => ?_, fun k hk => ?_⟩, fun q hq => lnA_congr (a45 5 (by decide)) _ _ (by rw [a45 5 (by decide)]; exact RU_ln hU hq), by omega⟩
    · rw [r1 j (by omega)]
      show (if j = 51 then _ else m j) = _
      rw [if_neg (by omega)]
    · rw [r1 51 (by omega)]
      rfl
    · rw [r2 j (by omega), upa_ne _ _ (show ¬ j = 54 by omega)]
      exact ha.1 j (by omega)
    · rw [r2 54 (by omega), upa_at]
    · obtain ⟨x, hx⟩ : ∃ x, Wf.reverse[k]? = some x := ⟨_, List.getElem?_eq_getElem (by rw [List.length_reverse]; exact hk)⟩
      have g := h3 k hk x hx
      have mx : x ∈ Wf := List.mem_reverse.mp (List.mem_of_getElem? hx)
      have gx := h2.2 x mx
      have g1 := g.1
      rw [g.2]
      unfold woA at g1 ⊢
      by_cases c : x.2 = 0
      · rw [if_pos c]
        exact vT_p (by omega) gx.1.1 (by omega)
      · rw [if_neg c] at g1 ⊢
        exact vT_co hU gx.2 (by omega) gx.1.1 g1
/-- what solve leaves -/
theorem rc_solve_ok (d : Nat) {m0 m : Nat → Int32} {a0 a : Nat → Nat → Int32} {V : Nat} {t : Std.Format} (hT : TT V t) {b : Nat → Nat → Int32} {Wf : wL_T} {on : Nat → Int32} {E : eL_T} (hB : BO m0 a0 V t b Wf on E m a) (hs : m0 r_nodes = nI (sp_z t)) (hv : m0 r_variables = nI V) (hp : m0 r_piled = nI 0) (hed : ∃ ed : Nat → Nat → Nat, ∀ t b, t < 260 → b < 2 → a0 r_ended (2 * t + b) = nI (ed t b) ∧ ed t b < 4) (P : pv_R)
    (h : ∀ m' a', ((∀ j, ¬ (j = 50 ∨ j = 51 ∨ j = 55 ∨ j = 60) → m' j = m0 j) ∧ m' r_piled = nI 0) → (∀ j, ¬ (43 ≤ j ∧ j ≤ 59) → a' j = a0 j) → RU a' V t → RSeen V t (a' r_seen) → (∃ ed : Nat → Nat → Nat, ∀ t b, t < 260 → b < 2 → a' r_ended (2 * t + b) = nI (ed t b) ∧ ed t b < 4) → P none (rs m' a')) : pv_call rq_mt (d + 4) rq_m_R_solve [.ref 0] (rs m a) P := by
  obtain ⟨⟨h1, h2⟩, ⟨h3, h4⟩, h5, h6⟩ := hB
  obtain ⟨ed, hed⟩ := hed
  refine rc_solve d h6 h2 (by rw [h1 2 (by omega)]; exact hs) hT.1.1.2 (by rw [h1 19 (by omega)]; exact hv) (by rw [h1 60 (by omega)]; exact hp) (ed := ed) (fun x y hx hy => by rw [h3 58 (by omega)]; exact hed x y hx hy) P (fun ed' F S hS hQ => ?_)
  obtain ⟨m', a', rfl, ⟨k1, k2⟩, k3, k4, k5⟩ := hS
  refine h m' a' ⟨fun j hj => ?_, k2⟩ (fun j hj => ?_) (RU_c (a := b) (fun j hj => ?_) h5.1) ⟨b, Wf, on, E, h5, ?_⟩ ⟨ed', k5⟩
  · rw [k1 j (by omega), h1 j (by omega)]
  · rw [k3 j (by omega), h3 j (by omega)]
  · rw [k3 j (by omega), h4 j (by omega)]
  · rw [k4]
    exact seenQ_c (fun j hj => h4 j (by omega)) hQ
