/-! records of nodes and the lists -/
theorem nL_cx {V : Nat} {t : Std.Format} (ht : fT V t) : ∀ (b rb o oi pt : Nat) (sc : sc_T) (d : Nat), (nL t b rb o oi pt sc d).map (fun R => (nc R, nx R)) = cxL t := by
  refine fT_ind (V := V) (M := fun t => ∀ (b rb o oi pt : Nat) (sc : sc_T) (d : Nat), (nL t b rb o oi pt sc d).map (fun R => (nc R, nx R)) = cxL t) ?_ ?_ ?_ ?_ ?_ ?_ ?_ _ t (Nat.lt_succ_self _) ht
  · intro x y hx hy b rb o oi pt sc d
    rw [nL_a, List.map_append, hx, hy]; rfl
  · intro b rb o oi pt sc d; rw [nL.eq_def]; rfl
  · intro b rb o oi pt sc d; rw [nL.eq_def]; rfl
  · intro c x hs h8 hx b rb o oi pt sc d
    rw [nL_S hs h8, List.map_cons, hx]; rfl
  · intro c u v w h8 _ hu hv hw b rb o oi pt sc d
    rw [nL_84 h8, List.map_cons, List.map_append, List.map_append, hu, hv, hw]; rfl
  · intro c u v hs _ hu hv b rb o oi pt sc d
    rw [nL_e2 hs, List.map_cons, List.map_append, hu, hv]; rfl
  · intro c x hs _ hx h b rb o oi pt sc d
    rw [nL_e1 hs hx, List.map_cons, h]; rfl
theorem nL_par {V : Nat} {t : Std.Format} (ht : fT V t) : ∀ (b rb o oi pt : Nat) (sc : sc_T) (d : Nat), (nL t b rb o oi pt sc d).map no = parL t b o := by
  refine fT_ind (V := V) (M := fun t => ∀ (b rb o oi pt : Nat) (sc : sc_T) (d : Nat), (nL t b rb o oi pt sc d).map no = parL t b o) ?_ ?_ ?_ ?_ ?_ ?_ ?_ _ t (Nat.lt_succ_self _) ht
  · intro x y hx hy b rb o oi pt sc d
    rw [nL_a, List.map_append, hx, hy]; rfl
  · intro b rb o oi pt sc d; rw [nL.eq_def]; rfl
  · intro b rb o oi pt sc d; rw [nL.eq_def]; rfl
  · intro c x hs h8 hx b rb o oi pt sc d
    rw [nL_S hs h8, List.map_cons, hx]; rfl
  · intro c u v w h8 _ hu hv hw b rb o oi pt sc d
    rw [nL_84 h8, List.map_cons, List.map_append, List.map_append, hu, hv, hw]; rfl
  · intro c u v hs _ hu hv b rb o oi pt sc d
    rw [nL_e2 hs, List.map_cons, List.map_append, hu, hv]; rfl
  · intro c x hs _ hx h b rb o oi pt sc d
    rw [nL_e1 hs hx, List.map_cons, h]; rfl
def NOI (L : List NR) (b o oi : Nat) : Prop := ∀ j R, L[j]? = some R → (no R = o ∧ noi R = oi) ∨ ∃ q R', q < j ∧ L[q]? = some R' ∧ no R = b + q + 1 ∧ noi R = nid R' + 1
theorem NOI_app {L1 L2 : List NR} {b o oi : Nat} (h1 : NOI L1 b o oi) (h2 : NOI L2 (b + L1.length) o oi) : NOI (L1 ++ L2) b o oi := by
  intro j R hj
  rcases get_app hj with h | ⟨j0, e, h⟩
  · rcases h1 j R h with q | ⟨q, R', k1, k2, k3, k4⟩
    · exact Or.inl q
    · exact Or.inr ⟨q, R', k1, by rw [get_l (get_lt k2)]; exact k2, k3, k4⟩
  · rcases h2 j0 R h with q | ⟨q, R', k1, k2, k3, k4⟩
    · exact Or.inl q
    · exact Or.inr ⟨L1.length + q, R', by omega, by rw [get_r]; exact k2, by omega, k4⟩
theorem NOI_cons {L : List NR} {b o oi : Nat} {R0 : NR} (h1 : no R0 = o) (h2 : noi R0 = oi) (h : NOI L (b + 1) (b + 1) (nid R0 + 1)) : NOI (R0 :: L) b o oi := by
  intro j R hj
  rcases get_cons hj with ⟨-, e⟩ | ⟨j0, e, hj⟩
  · subst e
    exact Or.inl ⟨h1, h2⟩
  · rcases h j0 R hj with q | ⟨q, R', k1, k2, k3, k4⟩
    · exact Or.inr ⟨0, R0, by omega, rfl, q.1, q.2⟩
    · exact Or.inr ⟨q + 1, R', by omega, k2, by omega, k4⟩
theorem NOI_nil {b o oi : Nat} : NOI [] b o oi := fun j R h => by cases h
theorem nL_NOI {V : Nat} {t : Std.Format} (ht : fT V t) : ∀ (b rb o oi pt : Nat) (sc : sc_T) (d : Nat), NOI (nL t b rb o oi pt sc d) b o oi ∧ (nL t b rb o oi pt sc d).length = sp_z t := by
  refine fT_ind (V := V) (M := fun t => ∀ (b rb o oi pt : Nat) (sc : sc_T) (d : Nat), NOI (nL t b rb o oi pt sc d) b o oi ∧ (nL t b rb o oi pt sc d).length = sp_z t) ?_ ?_ ?_ ?_ ?_ ?_ ?_ _ t (Nat.lt_succ_self _) ht
  · intro x y hx hy b rb o oi pt sc d
    rw [nL_a]
    have h1 := hx b rb o oi pt sc d
    have h2 := hy (b + sp_z x) (rb + sp_z x) o oi pt (scA sc x) d
    refine ⟨NOI_app h1.1 (by rw [h1.2]; exact h2.1), ?_⟩
    rw [List.length_append, h1.2, h2.2]; rfl
  · intro b rb o oi pt sc d; rw [nL.eq_def]; exact ⟨NOI_nil, rfl⟩
  · intro b rb o oi pt sc d; rw [nL.eq_def]; exact ⟨NOI_nil, rfl⟩
  · intro c x hs h8 hx b rb o oi pt sc d
    rw [nL_S hs h8]
    have h1 := hx (b + 1) (rb + 1) (b + 1) (rb + 1) (if sp_s c = 123 then 0 else 9) sc (d + 1)
    refine ⟨NOI_cons rfl rfl h1.1, ?_⟩
    rw [List.length_cons, h1.2]; rfl
  · intro c u v w h8 _ hu hv hw b rb o oi pt sc d
    rw [nL_84 h8]
    have h1 := hu (b + 1) (rb + 1) (b + 1) (rb + 1) 0 sc (d + 1)
    have h2 := hv (b + 1 + sp_z u) (rb + 1 + sp_z u) (b + 1) (rb + 1) 1 sc (d + 1)
    have h3 := hw (b + 1 + sp_z u + sp_z v) (rb + 1 + sp_z u + sp_z v) (b + 1) (rb + 1) 2 sc (d + 1)
    refine ⟨NOI_cons rfl rfl (NOI_app h1.1 (by rw [h1.2]; exact NOI_app h2.1 (by rw [h2.2]; exact h3.1))), ?_⟩
    rw [List.length_cons, List.length_append, List.length_append, h1.2, h2.2, h3.2]; rfl
  · intro c u v hs _ hu hv b rb o oi pt sc d
    rw [nL_e2 hs]
    have h1 := hu (b + 1) rb (b + 1) (rb + sp_z u + 1) 9 sc (d + 1)
    have h2 := hv (b + 1 + sp_z u) (rb + sp_z u + 1) (b + 1) (rb + sp_z u + 1) 9 sc (d + 1)
    refine ⟨NOI_cons rfl rfl (NOI_app h1.1 (by rw [h1.2]; exact h2.1)), ?_⟩
    rw [List.length_cons, List.length_append, h1.2, h2.2]; rfl
  · intro c x hs _ hx h b rb o oi pt sc d
    rw [nL_e1 hs hx]
    have h1 := h (b + 1) (rb + 1) (b + 1) (rb + 1) 9 sc (d + 1)
    refine ⟨NOI_cons rfl rfl h1.1, ?_⟩
    rw [List.length_cons, h1.2]; rfl
/-- all nodes of an e are e's -/
theorem eW_sub {V : Nat} : ∀ (N : Nat) (t : Std.Format), SizeOf.sizeOf t < N → eW V t → ∀ (i c : Nat) (x : Std.Format), (cxL t)[i]? = some (c, x) → eW V (.tag c x)
  | 0, _, h, _ => by omega
  | N + 1, t, hN, ht => by
    obtain ⟨c0, x0, rfl, hk⟩ := eW_tag ht
    intro i c x hi
    cases i with
    | zero =>
      have hi : some (c0, x0) = some (c, x) := hi
      cases hi
      exact ht
    | succ i =>
      have hi : (cxL x0)[i]? = some (c, x) := hi
      have hN : 1 + SizeOf.sizeOf c0 + SizeOf.sizeOf x0 < N + 1 := hN
      rcases (eW_shape ht).2 with ⟨u, v, rfl, hu, hv⟩ | ⟨-, hx⟩
      · have hN : 1 + SizeOf.sizeOf c0 + (1 + SizeOf.sizeOf u + SizeOf.sizeOf v) < N + 1 := hN
        have hi : (cxL u ++ cxL v)[i]? = some (c, x) := hi
        rcases get_app hi with h | ⟨j, -, h⟩
        · exact eW_sub N u (by omega) hu i c x h
        · rcases hv with hv | ⟨y, z, rfl, hy, hz⟩
          · exact eW_sub N v (by omega) hv j c x h
          · have hN : 1 + SizeOf.sizeOf c0 + (1 + SizeOf.sizeOf u + (1 + SizeOf.sizeOf y + SizeOf.sizeOf z)) < N + 1 := hN
            have h : (cxL y ++ cxL z)[j]? = some (c, x) := h
            rcases get_app h with h | ⟨k, -, h⟩
            · exact eW_sub N y (by omega) hy j c x h
            · exact eW_sub N z (by omega) hz k c x h
      · rcases hx with rfl | hx
        · cases hi
        · exact eW_sub N x0 (by omega) hx i c x hi
/-- what is known of a node by its place in the unit -/
def shN (W : Nat) (so en : Nat → Nat) (i c : Nat) (x : Std.Format) : Prop :=
  (stS (sp_s c) → ∃ cx, sW W 0 cx (.tag c x) i ∧ ∀ e ∈ cx, e.1 < i ∧ i + 1 + sp_z x ≤ en e.1 ∧ so e.1 = e.2) ∧ (¬ stS (sp_s c) → eW W (.tag c x))
def soOf (so : Nat → Nat) (t : Std.Format) (b : Nat) : Prop := ∀ i c x, (cxL t)[i]? = some (c, x) → so (b + i) = sp_s c
def ancK (so en : Nat → Nat) (cx : kx_T) (b z : Nat) : Prop := ∀ e ∈ cx, e.1 < b ∧ b + z ≤ en e.1 ∧ so e.1 = e.2
def M0S (W : Nat) (so en : Nat → Nat) (cx : kx_T) (t : Std.Format) (b : Nat) : Prop := soOf so t b → enOf en t b → ancK so en cx b (sp_z t) → ∀ i c x, (cxL t)[i]? = some (c, x) → shN W so en (b + i) c x
theorem soOf_l {so : Nat → Nat} {x y : Std.Format} {b : Nat} (h : soOf so (.append x y) b) : soOf so x b := fun i c z hz => h i c z (by
  show (cxL x ++ cxL y)[i]? = _
  rw [get_l (get_lt hz)]; exact hz)
theorem soOf_r {so : Nat → Nat} {x y : Std.Format} {b : Nat} (h : soOf so (.append x y) b) : soOf so y (b + sp_z x) := fun i c z hz => by
  have := h (sp_z x + i) c z (by
    show (cxL x ++ cxL y)[sp_z x + i]? = _
    rw [show sp_z x + i = (cxL x).length + i by rw [cxL_len], get_r]; exact hz)
  rw [show b + sp_z x + i = b + (sp_z x + i) by omega]
  exact this
theorem soOf_t {so : Nat → Nat} {x : Std.Format} {c b : Nat} (h : soOf so (.tag c x) b) : so b = sp_s c ∧ soOf so x (b + 1) := by
  refine ⟨h 0 c x rfl, fun i c' z hz => ?_⟩
  have := h (i + 1) c' z hz
  rw [show b + 1 + i = b + (i + 1) by omega]
  exact this
theorem ancK_in {so en : Nat → Nat} {cx : kx_T} {b z b' z' s : Nat} (h : ancK so en cx b z) (h1 : b < b') (h2 : b' + z' ≤ b + z) (h3 : b + z ≤ en b) (h4 : so b = s) : ancK so en ((b, s) :: cx) b' z' := by
  intro e he
  rcases List.mem_cons.mp he with rfl | he
  · exact ⟨h1, by show b' + z' ≤ en b; omega, h4⟩
  · have := h e he
    exact ⟨by omega, by omega, this.2.2⟩
theorem ancK_le {so en : Nat → Nat} {cx : kx_T} {b z b' z' : Nat} (h : ancK so en cx b z) (h1 : b ≤ b') (h2 : b' + z' ≤ b + z) : ancK so en cx b' z' := fun e he => by
  have := h e he
  exact ⟨by omega, by omega, this.2.2⟩
theorem shN_e {W : Nat} {so en : Nat → Nat} {e : Std.Format} (he : eW W e) (b i c : Nat) (x : Std.Format) (h : (cxL e)[i]? = some (c, x)) : shN W so en (b + i) c x := by
  have := eW_sub _ e (Nat.lt_succ_self _) he i c x h
  exact ⟨fun q => absurd q (eW_notS this), fun _ => this⟩
theorem shN_tag {W : Nat} {so en : Nat → Nat} {cx : kx_T} {c b : Nat} {y : Std.Format} (hs : sW W 0 cx (.tag c y) b) (ha : ancK so en cx b (sp_z (.tag c y))) (hy : ∀ i c' x, (cxL y)[i]? = some (c', x) → shN W so en (b + 1 + i) c' x) : ∀ i c' x, (cxL (.tag c y))[i]? = some (c', x) → shN W so en (b + i) c' x := by
  intro i c' x hi
  cases i with
  | zero =>
    have hi : some (c, y) = some (c', x) := hi
    cases hi
    obtain ⟨c2, x2, e, hst⟩ := sW_tag hs
    cases e
    refine ⟨fun _ => ⟨cx, hs, fun e he => ?_⟩, fun q => absurd hst q⟩
    have := ha e he
    refine ⟨by omega, ?_, this.2.2⟩
    have h2 : b + (sp_z y + 1) ≤ en e.1 := this.2.1
    omega
  | succ i =>
    have hi : (cxL y)[i]? = some (c', x) := hi
    have := hy i c' x hi
    rw [show b + (i + 1) = b + 1 + i by omega]
    exact this
theorem shN_app {W : Nat} {so en : Nat → Nat} {b : Nat} {y z : Std.Format} (h1 : ∀ i c' x, (cxL y)[i]? = some (c', x) → shN W so en (b + i) c' x) (h2 : ∀ i c' x, (cxL z)[i]? = some (c', x) → shN W so en (b + sp_z y + i) c' x) : ∀ i c' x, (cxL (.append y z))[i]? = some (c', x) → shN W so en (b + i) c' x := by
  intro i c' x hi
  have hi : (cxL y ++ cxL z)[i]? = some (c', x) := hi
  rcases get_app hi with h | ⟨j, e, h⟩
  · exact h1 i c' x h
  · rw [cxL_len] at e
    subst e
    rw [show b + (sp_z y + j) = b + sp_z y + j by omega]
    exact h2 j c' x h
theorem shN_nil {W : Nat} {so en : Nat → Nat} {b : Nat} : ∀ i c' x, (cxL .nil)[i]? = some (c', x) → shN W so en (b + i) c' x := fun i c' x h => by cases h
