/-! the reference's read -/
def edK (a : Nat → Nat → Int32) : Prop := ∃ ed : Nat → Nat → Nat, ∀ t b, t < 260 → b < 2 → a r_ended (2 * t + b) = nI (ed t b) ∧ ed t b < 4
/-- the reference between two questions -/
def RSt (n V : Nat) (t : Std.Format) (sc : sc_T) (fp : Int32) (m : Nat → Int32) (a : Nat → Nat → Int32) : Prop :=
  (TT V t ∧ (m r_nodes = nI (sp_z t) ∧ m r_variables = nI V)) ∧ (RU a V t ∧ RSeen V t (a r_seen)) ∧ (m r_piled = nI 0 ∧ edK a) ∧ (vOK a ∧ ∀ i, (a r_row i).toInt8.toInt32 = a r_row i) ∧ (m r_thereAtEnd = thOf sc ∧ m r_faultPlace = fp) ∧ (m r_collected = nI n ∧ n ≤ 240)
/-- what build and solve leave -/
def BSo (m0 : Nat → Int32) (a0 : Nat → Nat → Int32) (V : Nat) (t : Std.Format) (m' : Nat → Int32) (a' : Nat → Nat → Int32) : Prop :=
  ((∀ j, ¬ (j = 50 ∨ j = 51 ∨ j = 55 ∨ j = 60) → m' j = m0 j) ∧ m' r_piled = nI 0) ∧ (∀ j, ¬ (43 ≤ j ∧ j ≤ 59) → a' j = a0 j) ∧ (RU a' V t ∧ RSeen V t (a' r_seen)) ∧ edK a'
theorem BSo_R {n V : Nat} {t : Std.Format} {sc : sc_T} {fp : Int32} {m m' : Nat → Int32} {a a' : Nat → Nat → Int32} (hT : TT V t) (hs : m r_nodes = nI (sp_z t)) (hv : m r_variables = nI V) (h1 : vOK a) (h2 : ∀ i, (a r_row i).toInt8.toInt32 = a r_row i) (h3 : m r_thereAtEnd = thOf sc) (h4 : m r_faultPlace = fp) (h5 : m r_collected = nI n) (h6 : n ≤ 240) (h : BSo m a V t m' a') : RSt n V t sc fp m' a' ∧ r_tx a' = r_tx a := by
  obtain ⟨⟨k1, k2⟩, k3, k4, k5⟩ := h
  refine ⟨⟨⟨hT, by rw [k1 2 (by omega)]; exact hs, by rw [k1 19 (by omega)]; exact hv⟩, k4, ⟨k2, k5⟩, ⟨?_, fun i => by rw [k3 0 (by omega)]; exact h2 i⟩, ⟨by rw [k1 18 (by omega)]; exact h3, by rw [k1 61 (by omega)]; exact h4⟩, by rw [k1 1 (by omega)]; exact h5, h6⟩, ?_⟩
  · unfold vOK
    rw [k3 r_scope (by decide), k3 r_nameOf (by decide)]
    exact h1
  · unfold r_tx
    rw [k3 0 (by omega)]
set_option maxRecDepth 100000 in
theorem rr_30 (d : Nat) {m : Nat → Int32} {a : Nat → Nat → Int32} {V : Nat} {t : Std.Format} (hT : TT V t) (hs : m r_nodes = nI (sp_z t)) (hv : m r_variables = nI V) (hp : m r_piled = nI 0) (hed : edK a) (hr : ∀ R ∈ unitL t, rRow a V R) (x : Int32) (P : pv_R)
    (h1 : m r_wrong = -1 → ∀ m' a', BSo m a V t m' a' → P (some (.int (nI (sp_z t)))) (rs m' a')) (h0 : ¬ m r_wrong = -1 → ∀ m' a', BSo m a V t m' a' → P (some (.int (-4))) (rs m' a')) : pv_go rq_T58 0 (pv_call rq_mt (d + 6)) P (30, [(0, .ref 0), (1, .int x)], [], rs m a) := by
  refine pv_run [38] 20 ?_
  refine rc_build_ok d hT hs hr _ (fun b Wf on E m1 a1 hB => ?_)
  refine rc_solve_ok (d + 2) hT hB hs hv hp hed _ (fun m' a' k1 k2 k3 k4 k5 => ?_)
  have B : BSo m a V t m' a' := ⟨k1, k2, ⟨k3, k4⟩, k5⟩
  have ew : m' r_wrong = m r_wrong := k1.1 28 (by omega)
  have en : m' r_nodes = nI (sp_z t) := (k1.1 2 (by omega)).trans hs
  have g : pv_go rq_T58 0 (pv_call rq_mt (d + 6)) P (38, [(0, .ref 0), (1, .int x)], [], rs m' a') := by
    refine pv_run [] 20 ?_
    refine And.intro (fun c => ?_) (fun c => ?_)
    · have c : m' r_wrong = -1 := c
      have g := h1 (by rw [← ew]; exact c) m' a' B
      rw [← en] at g
      exact g
    · have c : ¬ m' r_wrong = -1 := c
      exact h0 (by rw [← ew]; exact c) m' a' B
  exact g
theorem unil : ∀ {V : Nat} {a : Nat → Nat → Int32}, ∀ R ∈ unitL .nil, rRow a V R := fun R hR => absurd hR List.not_mem_nil
set_option maxRecDepth 100000 in
theorem rc_read (d : Nat) {n V0 : Nat} {t0 : Std.Format} {sc0 : sc_T} {fp0 : Int32} {m : Nat → Int32} {a : Nat → Nat → Int32} (h : RSt n V0 t0 sc0 fp0 m a) (P : pv_R)
    (h0 : ∀ q, st (r_tx a) n 500 3 [] 0 (sp_x (r_tx a) n 0) 0 [] 0 = .inl q → ∀ m' a', RSt 0 0 .nil [] (nI q) m' a' ∧ r_tx a' = r_tx a → P (some (.int (-4))) (rs m' a'))
    (h1 : ∀ q V sc t, uOK (r_tx a) n q V sc t → ∀ m' a', RSt 0 V t sc (-1) m' a' ∧ r_tx a' = r_tx a → P (some (.int (nI (sp_z t)))) (rs m' a')) : pv_call rq_mt (d + 12) rq_m_R_read [.ref 0] (rs m a) P := by
  obtain ⟨⟨hT, hs, hv⟩, _, ⟨hp, hed⟩, ⟨hvk, hrow⟩, _, hc, hn⟩ := h
  refine pv_call_of rfl rfl rfl (pv_run [30] 60 ?_)
  refine rc_forget (d + 10) m a _ ?_
  rw [hc]
  have edF : ∀ a', Fg a a' → edK a' := by
    intro a' hF
    unfold edK
    rw [hF r_ended (by decide)]
    exact hed
  have rowF : ∀ a', Fg a a' → ∀ i, (a' r_row i).toInt8.toInt32 = a' r_row i := by
    intro a' hF
    rw [hF r_row (by decide)]
    exact hrow
  refine rc_parse_ok d (upd m r_collected 0) a hn hrow hvk _ (fun q hq m1 a1 hM hw hF hk => ?_) (fun q V sc t hq m1 a1 hM hF hS hth hB => ?_)
  · have wn : ¬ m1 r_wrong = -1 := by rw [hw.1]; exact nI_m1 (by omega)
    have hw := hw.1
    refine And.intro (fun c => ?_) (fun c => ?_)
    · have c : m1 r_wrong = -1 := c
      exact absurd c wn
    · refine rc_clear (d + 10) (upd m1 r_faultPlace (m1 r_wrong)) a1 _ ?_
      have ax : ∀ j, ¬ j = 23 → upa a1 r_named (nmZ (a1 r_named) 26) j = a1 j := fun j hj => upa_ne _ _ hj
      have tx : r_tx (upa a1 r_named (nmZ (a1 r_named) 26)) = r_tx a := by
        unfold r_tx
        rw [ax 0 (by omega), hF 0 (by omega)]
      have fin : ∀ m' a', BSo (upd (upd (upd (upd (upd m1 r_faultPlace (m1 r_wrong)) r_nodes 0) r_variables 0) r_scopes 0) r_thereAtEnd 0) (upa a1 r_named (nmZ (a1 r_named) 26)) 0 .nil m' a' → P (some (.int (-4))) (rs m' a') := by
        intro m' a' hB
        have g := BSo_R (n := 0) (sc := []) (fp := nI q) TT_nil rfl rfl (by
          unfold vOK
          rw [ax r_scope (by decide), ax r_nameOf (by decide)]
          exact hk) (fun i => by rw [ax 0 (by omega)]; exact rowF a1 hF i) rfl hw (by
            show m1 1 = nI 0
            rw [hM 1 (by omega)]
            rfl) (by omega) hB
        exact h0 q hq m' a' ⟨g.1, g.2.trans tx⟩
      refine rr_30 (d + 5) (t := .nil) (V := 0) TT_nil rfl rfl ?_ ?_ unil (nI n) P (fun e => absurd e wn) (fun _ m' a' hB => fin m' a' hB)
      · show m1 60 = nI 0
        rw [hM 60 (by omega)]
        exact hp
      · unfold edK
        rw [ax r_ended (by decide)]
        exact edF a1 hF
  · have u : uOK (r_tx a) n q V sc t := hq
    have hT1 := TT_u hn u
    have w1 : m1 r_wrong = -1 := hS.1.1.2
    refine And.intro (fun c => ?_) (fun c => absurd w1 c)
    refine rr_30 (d + 5) (m := upd m1 r_faultPlace (m1 r_wrong)) (a := a1) (t := t) (V := V) hT1 hS.1.2.1.2 hS.1.2.2.1 ?_ (edF a1 hF) (BlkS_nL hT1.1.2.2 0 0 0 0 [] 0 hB) (nI n) P (fun _ m' a' hB => ?_) (fun e => absurd w1 e)
    · show m1 60 = nI 0
      rw [hM 60 (by omega)]
      exact hp
    · have g := BSo_R (n := 0) (sc := sc) (fp := -1) (m := upd m1 r_faultPlace (m1 r_wrong)) (a := a1) hT1 hS.1.2.1.2 hS.1.2.2.1 hS.2.2.2.2.1 (rowF a1 hF) hth w1 (by
            show m1 1 = nI 0
            rw [hM 1 (by omega)]
            rfl) (by omega) hB
      refine h1 q V sc t u m' a' ⟨g.1, g.2.trans ?_⟩
      unfold r_tx
      rw [hF 0 (by omega)]
