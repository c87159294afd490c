/-- the part of a kid -/
def ptC (c : Nat) (x : Std.Format) (q j k : Nat) : Prop := (sp_s c = 123 → k = 0) ∧ (sp_s c = 84 → ∃ u v w, x = .append u (.append v w) ∧ ((j < q + 1 + sp_z u ∧ k = 0) ∨ ((q + 1 + sp_z u ≤ j ∧ j < q + 1 + sp_z u + sp_z v) ∧ k = 1) ∨ (q + 1 + sp_z u + sp_z v ≤ j ∧ k = 2)))
def NPT (L : List NR) (C : List (Nat × Std.Format)) (b o pt : Nat) : Prop := ∀ (j : Nat) (R : NR), L[j]? = some R → (no R = o ∧ npt R = pt) ∨ ∃ (q c : Nat) (x : Std.Format), C[q]? = some (c, x) ∧ no R = b + q + 1 ∧ ptC c x (b + q) (b + j) (npt R)
theorem NPT_app {L1 L2 : List NR} {C1 C2 : List (Nat × Std.Format)} {b o pt : Nat} (hl : L1.length = C1.length) (h1 : NPT L1 C1 b o pt) (h2 : NPT L2 C2 (b + L1.length) o pt) : NPT (L1 ++ L2) (C1 ++ C2) b o pt := by
  intro j R hj
  rcases get_app hj with h | ⟨j0, e, h⟩
  · rcases h1 j R h with q | ⟨q, c, x, k1, k2, k3⟩
    · exact Or.inl q
    · exact Or.inr ⟨q, c, x, by rw [get_l (get_lt k1)]; exact k1, k2, k3⟩
  · rcases h2 j0 R h with q | ⟨q, c, x, k1, k2, k3⟩
    · exact Or.inl q
    · refine Or.inr ⟨C1.length + q, c, x, by rw [get_r]; exact k1, by omega, ?_⟩
      rw [← hl, e, ← Nat.add_assoc, ← Nat.add_assoc]
      exact k3
theorem NPT_cons {L : List NR} {C : List (Nat × Std.Format)} {b o pt c0 : Nat} {x0 : Std.Format} {R0 : NR} (h1 : no R0 = o) (h2 : npt R0 = pt) (h : ∀ (j : Nat) (R : NR), L[j]? = some R → (no R = b + 1 ∧ ptC c0 x0 b (b + 1 + j) (npt R)) ∨ ∃ (q c : Nat) (x : Std.Format), C[q]? = some (c, x) ∧ no R = b + 1 + q + 1 ∧ ptC c x (b + 1 + q) (b + 1 + j) (npt R)) : NPT (R0 :: L) ((c0, x0) :: C) b o pt := by
  intro j R hj
  rcases get_cons hj with ⟨-, e⟩ | ⟨j0, e, hj⟩
  · subst e
    exact Or.inl ⟨h1, h2⟩
  · subst e
    rcases h j0 R hj with ⟨q1, q2⟩ | ⟨q, c, x, k1, k2, k3⟩
    · refine Or.inr ⟨0, c0, x0, rfl, by omega, ?_⟩
      rw [show b + (j0 + 1) = b + 1 + j0 by omega]
      exact q2
    · refine Or.inr ⟨q + 1, c, x, k1, by omega, ?_⟩
      rw [show b + (j0 + 1) = b + 1 + j0 by omega, show b + (q + 1) = b + 1 + q by omega]
      exact k3
theorem NPT_k {L : List NR} {C : List (Nat × Std.Format)} {b pt c0 : Nat} {x0 : Std.Format} (h : NPT L C (b + 1) (b + 1) pt) (hp : ∀ j, j < L.length → ptC c0 x0 b (b + 1 + j) pt) : ∀ (j : Nat) (R : NR), L[j]? = some R → (no R = b + 1 ∧ ptC c0 x0 b (b + 1 + j) (npt R)) ∨ ∃ (q c : Nat) (x : Std.Format), C[q]? = some (c, x) ∧ no R = b + 1 + q + 1 ∧ ptC c x (b + 1 + q) (b + 1 + j) (npt R) := by
  intro j R hj
  rcases h j R hj with ⟨q1, q2⟩ | q
  · exact Or.inl ⟨q1, by rw [q2]; exact hp j (get_lt hj)⟩
  · exact Or.inr q
theorem NPT_nil {C : List (Nat × Std.Format)} {b o pt : Nat} : NPT [] C b o pt := fun j R h => by cases h
theorem nS_123 {c : Nat} (h : ¬ stS (sp_s c)) (x : Std.Format) (q j k : Nat) : ptC c x q j k := ⟨fun e => absurd (by rw [e]; unfold stS; omega) h, fun e => absurd (by rw [e]; unfold stS; omega) h⟩
theorem nL_NPT {V : Nat} {t : Std.Format} (ht : fT V t) : ∀ (b rb o oi pt : Nat) (sc : sc_T) (d : Nat), NPT (nL t b rb o oi pt sc d) (cxL t) b o pt := by
  have hlen : ∀ {t : Std.Format}, fT V t → ∀ b rb o oi pt sc d, (nL t b rb o oi pt sc d).length = sp_z t := fun h b rb o oi pt sc d => (nL_NOI h b rb o oi pt sc d).2
  have key := fT_ind (V := V) (M := fun t => ∀ (b rb o oi pt : Nat) (sc : sc_T) (d : Nat), NPT (nL t b rb o oi pt sc d) (cxL t) b o pt ∧ (nL t b rb o oi pt sc d).length = sp_z t) ?_ ?_ ?_ ?_ ?_ ?_ ?_ _ t (Nat.lt_succ_self _) ht
  · exact fun b rb o oi pt sc d => (key b rb o oi pt sc d).1
  · intro x y hx hy b rb o oi pt sc d
    rw [nL_a]
    have h1 := hx b rb o oi pt sc d
    have h2 := hy (b + sp_z x) (rb + sp_z x) o oi pt (scA sc x) d
    refine ⟨NPT_app (by rw [h1.2, cxL_len]) h1.1 (by rw [h1.2]; exact h2.1), ?_⟩
    rw [List.length_append, h1.2, h2.2]; rfl
  · intro b rb o oi pt sc d; rw [nL.eq_def]; exact ⟨NPT_nil, rfl⟩
  · intro b rb o oi pt sc d; rw [nL.eq_def]; exact ⟨NPT_nil, rfl⟩
  · intro c x hs h8 hx b rb o oi pt sc d
    rw [nL_S hs h8]
    have h1 := hx (b + 1) (rb + 1) (b + 1) (rb + 1) (if sp_s c = 123 then 0 else 9) sc (d + 1)
    refine ⟨NPT_cons rfl rfl (NPT_k h1.1 (fun j _ => ⟨fun e => if_pos e, fun e => absurd e h8⟩)), ?_⟩
    rw [List.length_cons, h1.2]; rfl
  · intro c u v w h8 _ hu hv hw b rb o oi pt sc d
    rw [nL_84 h8]
    have h1 := hu (b + 1) (rb + 1) (b + 1) (rb + 1) 0 sc (d + 1)
    have h2 := hv (b + 1 + sp_z u) (rb + 1 + sp_z u) (b + 1) (rb + 1) 1 sc (d + 1)
    have h3 := hw (b + 1 + sp_z u + sp_z v) (rb + 1 + sp_z u + sp_z v) (b + 1) (rb + 1) 2 sc (d + 1)
    refine ⟨NPT_cons rfl rfl (fun j R hj => ?_), ?_⟩
    · have n123 : sp_s c = 123 → ∀ k : Nat, k = 0 := fun e => by omega
      show _ ∨ ∃ (q c : Nat) (x : Std.Format), (cxL u ++ (cxL v ++ cxL w))[q]? = some (c, x) ∧ _
      rcases get_app hj with h | ⟨j0, e, h⟩
      · have hl := get_lt h
        rw [h1.2] at hl
        rcases h1.1 j R h with ⟨q1, q2⟩ | ⟨q, c', x', k1, k2, k3⟩
        · exact Or.inl ⟨q1, fun e => n123 e _, fun _ => ⟨u, v, w, rfl, Or.inl ⟨by omega, q2⟩⟩⟩
        · exact Or.inr ⟨q, c', x', by rw [get_l (get_lt k1)]; exact k1, k2, k3⟩
      · rw [h1.2] at e
        rcases get_app h with h | ⟨j1, e1, h⟩
        · have hl := get_lt h
          rw [h2.2] at hl
          rcases h2.1 j0 R h with ⟨q1, q2⟩ | ⟨q, c', x', k1, k2, k3⟩
          · exact Or.inl ⟨q1, fun e => n123 e _, fun _ => ⟨u, v, w, rfl, Or.inr (Or.inl ⟨⟨by omega, by omega⟩, q2⟩)⟩⟩
          · refine Or.inr ⟨sp_z u + q, c', x', ?_, by omega, ?_⟩
            · rw [show sp_z u + q = (cxL u).length + q by rw [cxL_len], get_r, get_l (get_lt k1)]; exact k1
            · rw [show b + 1 + (sp_z u + q) = b + 1 + sp_z u + q by omega, show b + 1 + j = b + 1 + sp_z u + j0 by omega]
              exact k3
        · rw [h2.2] at e1
          rcases h3.1 j1 R h with ⟨q1, q2⟩ | ⟨q, c', x', k1, k2, k3⟩
          · exact Or.inl ⟨q1, fun e => n123 e _, fun _ => ⟨u, v, w, rfl, Or.inr (Or.inr ⟨by omega, q2⟩)⟩⟩
          · refine Or.inr ⟨sp_z u + (sp_z v + q), c', x', ?_, by omega, ?_⟩
            · rw [show sp_z u + (sp_z v + q) = (cxL u).length + ((cxL v).length + q) by rw [cxL_len, cxL_len], get_r, get_r]; exact k1
            · rw [show b + 1 + (sp_z u + (sp_z v + q)) = b + 1 + sp_z u + sp_z v + q by omega, show b + 1 + j = b + 1 + sp_z u + sp_z v + j1 by omega]
              exact k3
    · rw [List.length_cons, List.length_append, List.length_append, h1.2, h2.2, h3.2]; rfl
  · intro c u v hs _ hu hv b rb o oi pt sc d
    rw [nL_e2 hs]
    have h1 := hu (b + 1) rb (b + 1) (rb + sp_z u + 1) 9 sc (d + 1)
    have h2 := hv (b + 1 + sp_z u) (rb + sp_z u + 1) (b + 1) (rb + sp_z u + 1) 9 sc (d + 1)
    refine ⟨NPT_cons rfl rfl (NPT_k (C := cxL u ++ cxL v) (NPT_app (by rw [h1.2, cxL_len]) h1.1 (by rw [h1.2]; exact h2.1)) (fun j _ => nS_123 hs _ _ _ _)), ?_⟩
    rw [List.length_cons, List.length_append, h1.2, h2.2]; rfl
  · intro c x hs _ hx h b rb o oi pt sc d
    rw [nL_e1 hs hx]
    have h1 := h (b + 1) (rb + 1) (b + 1) (rb + 1) 9 sc (d + 1)
    refine ⟨NPT_cons rfl rfl (NPT_k h1.1 (fun j _ => nS_123 hs _ _ _ _)), ?_⟩
    rw [List.length_cons, h1.2]; rfl
/-- the reference's rows of the unit t, ordered -/
def RU (b : Nat → Nat → Int32) (V : Nat) (t : Std.Format) : Prop :=
  ((sp_z t ≤ 240 ∧ V ≤ 12) ∧ sW V 1 [] t 0 ∧ fT V t) ∧ (∀ i R, (unitL t)[i]? = some R → rRow b V R ∧ b r_number (nid R) = nI i ∧ b r_byNumber i = nI (nid R))
section RUA
variable {b : Nat → Nat → Int32} {V : Nat} {t : Std.Format}
theorem RU_row (h : RU b V t) {i : Nat} (hi : i < sp_z t) : ∃ R, (unitL t)[i]? = some R ∧ rRow b V R ∧ ((nc R = CO t i ∧ nx R = XI t i) ∧ nid R = ID t i) ∧ (b r_number (ID t i) = nI i ∧ b r_byNumber i = nI (ID t i)) ∧ noi R = (if PA t i = 0 then 0 else ID t (PA t i - 1) + 1) := by
  obtain ⟨R, hR⟩ := UN_some h.1.2.2 hi
  have u := UN_get h.1.2.2 hR
  have r := h.2 i R hR
  rw [u.2.1.2] at r
  exact ⟨R, hR, r.1, u.2.1, r.2, u.2.2.2⟩
theorem RU_by (h : RU b V t) {i : Nat} (hi : i < sp_z t) : (b r_byNumber i = nI (ID t i) ∧ dN (b r_byNumber i) = ID t i) ∧ b r_number (ID t i) = nI i := by
  obtain ⟨R, -, -, -, h1, -⟩ := RU_row h hi
  have := ID_lt hi
  have := h.1.1.1
  refine ⟨⟨h1.2, ?_⟩, h1.1⟩
  rw [h1.2]
  exact nI_clamp (by omega)
theorem RU_so (h : RU b V t) {i : Nat} (hi : i < sp_z t) : b r_sort (ID t i) = nI (SO t i) ∧ b r_isStmt (ID t i) = (if stS (SO t i) then 1 else 0) := by
  obtain ⟨R, -, h1, ⟨⟨e1, e2⟩, e3⟩, -, -⟩ := RU_row h hi
  unfold rRow at h1
  rw [e1, e3] at h1
  by_cases c : stS (SO t i)
  · rw [if_pos c] at h1 ⊢
    exact ⟨h1.1.1.1.1, h1.1.1.2.1.2⟩
  · rw [if_neg c] at h1 ⊢
    exact ⟨h1.1.1.1.1, h1.1.1.2.2⟩
theorem RU_is (h : RU b V t) {i : Nat} (hi : i < sp_z t) {s : Nat} (hs : s < 256) : b r_sort (ID t i) = nI s ↔ SO t i = s := by
  rw [(RU_so h hi).1, nI_eq (by have := SO_lt (t := t) i; omega) (by omega)]
theorem RU_ar (h : RU b V t) {i : Nat} (hi : i < sp_z t) : b r_around (ID t i) = oI (if PA t i = 0 then 0 else ID t (PA t i - 1) + 1) := by
  obtain ⟨R, -, h1, ⟨⟨e1, e2⟩, e3⟩, -, e4⟩ := RU_row h hi
  have := (rRow_f h1).2.1
  rw [e3, e4] at this
  exact this
theorem RU_kid (h : RU b V t) {i q : Nat} (hi : i < sp_z t) (hq : q < sp_z t) : b r_around (ID t i) = nI (ID t q) ↔ PA t i = q + 1 := by
  rw [RU_ar h hi]
  have hN := h.1.1.1
  have := ID_lt hq
  have hp := PA_le hi
  by_cases c : PA t i = 0
  · rw [if_pos c]
    exact ⟨fun u => absurd u.symm (nI_ne_m1 (by omega)), fun u => by omega⟩
  · rw [if_neg c, oI_s]
    have h2 := ID_lt (t := t) (i := PA t i - 1) (by omega)
    rw [nI_eq (by omega) (by omega)]
    constructor
    · intro u
      have := ID_inj (t := t) (by omega) hq u
      omega
    · intro u
      rw [u, Nat.add_sub_cancel]
theorem RU_rt (h : RU b V t) {i : Nat} (hi : i < sp_z t) : b r_around (ID t i) = -1 ↔ PA t i = 0 := by
  rw [RU_ar h hi]
  have hN := h.1.1.1
  have hp := PA_le hi
  by_cases c : PA t i = 0
  · rw [if_pos c]
    exact ⟨fun _ => c, fun _ => rfl⟩
  · have h2 := ID_lt (t := t) (i := PA t i - 1) (by omega)
    rw [if_neg c, oI_s]
    exact ⟨fun u => absurd u (nI_ne_m1 (by omega)), fun u => absurd u c⟩
/-- the parts of statements -/
theorem RU_pt (h : RU b V t) {i : Nat} (hi : i < sp_z t) (hs : stS (SO t i)) : (PA t i = 0 → b r_part i = 0) ∧ ∀ q, PA t i = q + 1 → (SO t q = 123 → b r_part i = 0) ∧ (SO t q = 84 → ∃ u v w, XI t q = .append u (.append v w) ∧ ((i < q + 1 + sp_z u ∧ b r_part i = 0) ∨ ((q + 1 + sp_z u ≤ i ∧ i < q + 1 + sp_z u + sp_z v) ∧ b r_part i = 1) ∨ (q + 1 + sp_z u + sp_z v ≤ i ∧ b r_part i = 2))) := by
  obtain ⟨R, hR, h1, ⟨⟨e1, e2⟩, e3⟩, -, -⟩ := RU_row h hi
  have hno := (UN_get h.1.2.2 hR).2.2.1
  have hid := ID_st h.1.2.2 hi hs
  unfold rRow at h1
  rw [e1, e3, hid, if_pos hs] at h1
  have hp := h1.2.1
  have hlt := PA_le hi
  rcases nL_NPT h.1.2.2 0 0 0 0 0 [] 0 i R hR with ⟨k1, k2⟩ | ⟨q, c, x, k1, k2, k3⟩
  · rw [k2] at hp
    refine ⟨fun _ => hp.resolve_left (by decide), fun q hq => ?_⟩
    rw [← hno, k1] at hq
    omega
  · have hq := CX_eq k1
    rw [Nat.zero_add, Nat.zero_add] at k3
    rw [Nat.zero_add] at k2
    refine ⟨fun c => ?_, fun q' hq' => ?_⟩
    · rw [← hno, k2] at c; omega
    · rw [← hno, k2] at hq'
      have : q = q' := by omega
      subst this
      refine ⟨fun c1 => ?_, fun c1 => ?_⟩
      · have : sp_s c = 123 := by rw [← hq.1]; exact c1
        have := k3.1 this
        rw [this] at hp
        exact hp.resolve_left (by decide)
      · have : sp_s c = 84 := by rw [← hq.1]; exact c1
        obtain ⟨u, v, w, g1, g2⟩ := k3.2 this
        refine ⟨u, v, w, by rw [hq.2]; exact g1, ?_⟩
        rcases g2 with ⟨g2, g3⟩ | ⟨g2, g3⟩ | ⟨g2, g3⟩
        · rw [g3] at hp
          exact Or.inl ⟨g2, hp.resolve_left (by decide)⟩
        · rw [g3] at hp
          exact Or.inr (Or.inl ⟨g2, hp.resolve_left (by decide)⟩)
        · rw [g3] at hp
          exact Or.inr (Or.inr ⟨g2, hp.resolve_left (by decide)⟩)
/-- a statement's other rows -/
theorem RU_S (h : RU b V t) {i : Nat} (hi : i < sp_z t) (hs : stS (SO t i)) : (b r_isMarked i = nI (sp_en (CO t i)) ∧ ((SO t i = 36 ∨ SO t i = 37) → b r_variable i = nI (VR t i) ∧ VR t i < V)) ∧ ((SO t i = 66 ∨ SO t i = 67) → 1 ≤ sp_pl (CO t i) ∧ b r_target i = nI (TG t i)) ∧ (SO t i = 84 → b r_hasCatch i = nI (sp_pl (CO t i) % 2) ∧ b r_hasEnd i = nI (sp_pl (CO t i) / 2)) ∧ (SO t i = 83 → (fLine (XI t i) ↔ (¬ b r_tailMarked i = 0 ∨ b r_hasOther i = 0))) := by
  obtain ⟨R, hR, h1, ⟨⟨e1, e2⟩, e3⟩, -, -⟩ := RU_row h hi
  have hid := ID_st h.1.2.2 hi hs
  unfold rRow at h1
  rw [e1, e3, hid, if_pos hs, e2] at h1
  obtain ⟨⟨⟨⟨-, -⟩, ⟨-, -⟩, -, h2⟩, h3, -, h4, h5⟩, -, h6⟩ := h1
  refine ⟨⟨h2, fun c => ?_⟩, h4, h5, h6⟩
  have := h3 c
  unfold VR
  rw [if_pos hs]
  exact ⟨this.2.1.1, by omega⟩
theorem RU_V (h : RU b V t) {i : Nat} (hi : i < sp_z t) (hs : ¬ stS (SO t i)) (hv : SO t i = 61 ∨ (97 ≤ SO t i ∧ SO t i ≤ 122)) : b r_variable (ID t i) = nI (VR t i) ∧ VR t i < V := by
  obtain ⟨R, hR, h1, ⟨⟨e1, e2⟩, e3⟩, -, -⟩ := RU_row h hi
  unfold rRow at h1
  rw [e1, e3, if_neg hs] at h1
  have hn := h1.1.1.2.1
  have he := (SH_all h.1.2.1 hi).2 hs
  have hv : 1 ≤ sp_v (CO t i) ∧ sp_v (CO t i) ≤ V := by
    rcases hv with c | c
    · exact ((eW_61 c).mp he).1
    · exact ((eW_nm c).mp he).1
  unfold VR
  rw [if_neg hs, hn]
  obtain ⟨k, hk⟩ : ∃ k, sp_v (CO t i) = k + 1 := ⟨sp_v (CO t i) - 1, by omega⟩
  rw [hk, nI_pred, Nat.add_sub_cancel]
  exact ⟨rfl, by omega⟩
end RUA
