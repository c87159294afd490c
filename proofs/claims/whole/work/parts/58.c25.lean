theorem lnA_fun {a : Nat → Nat → Int32} : ∀ (k k' : Nat) (x : Int32), lnA a k x → lnA a k' x → k = k'
  | 0, 0, _, _, _ => rfl
  | 0, k' + 1, x, h, ⟨p, h1, _⟩ => by
    have h : x = -1 := h
    rw [h1.1] at h
    exact absurd h (nI_ne_m1 (by omega))
  | k + 1, 0, x, ⟨p, h1, _⟩, h => by
    have h : x = -1 := h
    rw [h1.1] at h
    exact absurd h (nI_ne_m1 (by omega))
  | k + 1, k' + 1, x, ⟨p, h1, h2⟩, ⟨q, h3, h4⟩ => by
    have e : nI p = nI q := h1.1.symm.trans h3.1
    rw [nI_eq (by omega) (by omega)] at e
    subst e
    rw [lnA_fun k k' _ h2 h4]
theorem rRow_f {a : Nat → Nat → Int32} {W : Nat} {r : NR} (h : rRow a W r) : a r_first (nid r) = nI (sp_f (nc r)) ∧ a r_around (nid r) = oI (noi r) ∧ a r_sort (nid r) = nI (sp_s (nc r)) := by
  unfold rRow at h
  by_cases c : stS (sp_s (nc r))
  · rw [if_pos c] at h
    exact ⟨h.1.1.1.2, h.1.1.2.1.1, h.1.1.1.1⟩
  · rw [if_neg c] at h
    exact ⟨h.1.1.1.2, h.1.2, h.1.1.1.1⟩
theorem nL_deep {V : Nat} {a : Nat → Nat → Int32} {t : Std.Format} (ht : fT V t) : ∀ (b rb o oi pt : Nat) (sc : sc_T) (d : Nat), lnA a d (oI oi) → (∀ R ∈ nL t b rb o oi pt sc d, a r_around (nid R) = oI (noi R) ∧ nid R < 260) → ∀ R ∈ nL t b rb o oi pt sc d, lnA a (ndp R) (a r_around (nid R)) := by
  have tag : ∀ (c : Nat) (x : Std.Format) (o oi id pt : Nat) (sc : sc_T) (d : Nat) (l : List NR), lnA a d (oI oi) → (∀ R ∈ ((c, x, (o, oi), id, pt, sc, d) : NR) :: l, a r_around (nid R) = oI (noi R) ∧ nid R < 260) → (lnA a (d + 1) (oI (id + 1)) → ∀ R ∈ l, lnA a (ndp R) (a r_around (nid R))) → ∀ R ∈ ((c, x, (o, oi), id, pt, sc, d) : NR) :: l, lnA a (ndp R) (a r_around (nid R)) := by
    intro c x o oi id pt sc d l hd hR hl R hm
    have h0 := hR (c, x, (o, oi), id, pt, sc, d) List.mem_cons_self
    have h1 : a r_around id = oI oi := h0.1
    have h2 : id < 260 := h0.2
    rcases List.mem_cons.mp hm with e | e
    · rw [e]
      show lnA a d (a r_around id)
      rw [h1]; exact hd
    · refine hl ⟨id, ⟨oI_s id, h2⟩, ?_⟩ R e
      rw [h1]; exact hd
  refine fT_ind (V := V) (M := fun t => ∀ (b rb o oi pt : Nat) (sc : sc_T) (d : Nat), lnA a d (oI oi) → (∀ R ∈ nL t b rb o oi pt sc d, a r_around (nid R) = oI (noi R) ∧ nid R < 260) → ∀ R ∈ nL t b rb o oi pt sc d, lnA a (ndp R) (a r_around (nid R))) ?_ ?_ ?_ ?_ ?_ ?_ ?_ _ t (Nat.lt_succ_self _) ht
  · intro x y hx hy b rb o oi pt sc d hd hR R hm
    rw [nL_a] at hR hm
    rcases List.mem_append.mp hm with e | e
    · exact hx _ _ _ _ _ _ _ hd (fun R q => hR R (List.mem_append.mpr (Or.inl q))) R e
    · exact hy _ _ _ _ _ _ _ hd (fun R q => hR R (List.mem_append.mpr (Or.inr q))) R e
  · intro b rb o oi pt sc d hd hR R hm
    rw [nL.eq_def] at hm; exact absurd hm List.not_mem_nil
  · intro b rb o oi pt sc d hd hR R hm
    rw [nL.eq_def] at hm; exact absurd hm List.not_mem_nil
  · intro c x hs h8 hx b rb o oi pt sc d hd hR
    rw [nL_S hs h8] at hR ⊢
    exact tag _ _ _ _ _ _ _ _ _ hd hR (fun h R e => hx _ _ _ _ _ _ _ h (fun R q => hR R (List.mem_cons_of_mem _ q)) R e)
  · intro c u v w h8 _ hu hv hw b rb o oi pt sc d hd hR
    rw [nL_84 h8] at hR ⊢
    refine tag _ _ _ _ _ _ _ _ _ hd hR (fun h R e => ?_)
    rcases List.mem_append.mp e with e | e
    · exact hu _ _ _ _ _ _ _ h (fun R q => hR R (List.mem_cons_of_mem _ (List.mem_append.mpr (Or.inl q)))) R e
    · rcases List.mem_append.mp e with e | e
      · exact hv _ _ _ _ _ _ _ h (fun R q => hR R (List.mem_cons_of_mem _ (List.mem_append.mpr (Or.inr (List.mem_append.mpr (Or.inl q)))))) R e
      · exact hw _ _ _ _ _ _ _ h (fun R q => hR R (List.mem_cons_of_mem _ (List.mem_append.mpr (Or.inr (List.mem_append.mpr (Or.inr q)))))) R e
  · intro c u v hs he hu hv b rb o oi pt sc d hd hR
    rw [nL_e2 hs] at hR ⊢
    refine tag _ _ _ _ _ _ _ _ _ hd hR (fun h R e => ?_)
    rcases List.mem_append.mp e with e | e
    · exact hu _ _ _ _ _ _ _ h (fun R q => hR R (List.mem_cons_of_mem _ (List.mem_append.mpr (Or.inl q)))) R e
    · exact hv _ _ _ _ _ _ _ h (fun R q => hR R (List.mem_cons_of_mem _ (List.mem_append.mpr (Or.inr q)))) R e
  · intro c x hs he hx hM b rb o oi pt sc d hd hR
    rw [nL_e1 hs hx] at hR ⊢
    exact tag _ _ _ _ _ _ _ _ _ hd hR (fun h R e => hM _ _ _ _ _ _ _ h (fun R q => hR R (List.mem_cons_of_mem _ q)) R e)
def lkp : List NR → Nat → Nat
  | [], _ => 0
  | R :: r, p => if nid R = p then ndp R else lkp r p
theorem lkp_mem : ∀ (l : List NR) (p : Nat), (∃ R ∈ l, nid R = p) → ∃ R ∈ l, nid R = p ∧ lkp l p = ndp R
  | [], _, ⟨_, h, _⟩ => absurd h List.not_mem_nil
  | R0 :: r, p, ⟨R, h1, h2⟩ => by
    have e : lkp (R0 :: r) p = if nid R0 = p then ndp R0 else lkp r p := rfl
    by_cases c : nid R0 = p
    · exact ⟨R0, List.mem_cons_self, c, by rw [e, if_pos c]⟩
    · rcases List.mem_cons.mp h1 with h | h
      · rw [h] at h2; exact absurd h2 c
      · obtain ⟨R', a1, a2, a3⟩ := lkp_mem r p ⟨R, h, h2⟩
        exact ⟨R', List.mem_cons_of_mem _ a1, a2, by rw [e, if_neg c, a3]⟩
/-- the unit's nodes -/
abbrev unitL (t : Std.Format) : List NR := nL t 0 0 0 0 0 [] 0
theorem kyL_dep {V : Nat} {t : Std.Format} (ht : fT V t) : ∀ (d : Nat), ∀ k ∈ kyL t d, k.2 < d + sp_z t := by
  refine fT_ind (V := V) (M := fun t => ∀ (d : Nat), ∀ k ∈ kyL t d, k.2 < d + sp_z t) ?_ ?_ ?_ ?_ ?_ ?_ ?_ _ t (Nat.lt_succ_self _) ht
  · intro x y hx hy d k hk
    simp only [kyL] at hk
    simp only [sp_z]
    rcases List.mem_append.mp hk with e | e
    · have := hx d k e; omega
    · have := hy d k e; omega
  · intro d k hk; exact absurd hk List.not_mem_nil
  · intro d k hk; exact absurd hk List.not_mem_nil
  · intro c x _ _ hx d k hk
    simp only [kyL] at hk
    simp only [sp_z]
    rcases List.mem_cons.mp hk with e | e
    · rw [e]; show d < _; omega
    · have := hx (d + 1) k e; omega
  · intro c u v w _ _ hu hv hw d k hk
    simp only [kyL] at hk
    simp only [sp_z]
    rcases List.mem_cons.mp hk with e | e
    · rw [e]; show d < _; omega
    · rcases List.mem_append.mp e with e | e
      · have := hu (d + 1) k e; omega
      · rcases List.mem_append.mp e with e | e
        · have := hv (d + 1) k e; omega
        · have := hw (d + 1) k e; omega
  · intro c u v _ _ hu hv d k hk
    simp only [kyL] at hk
    simp only [sp_z]
    rcases List.mem_cons.mp hk with e | e
    · rw [e]; show d < _; omega
    · rcases List.mem_append.mp e with e | e
      · have := hu (d + 1) k e; omega
      · have := hv (d + 1) k e; omega
  · intro c x _ _ _ hx d k hk
    simp only [kyL] at hk
    simp only [sp_z]
    rcases List.mem_cons.mp hk with e | e
    · rw [e]; show d < _; omega
    · have := hx (d + 1) k e; omega
theorem rc_order_ok (d : Nat) (m : Nat → Int32) (a : Nat → Nat → Int32) {V W : Nat} {t : Std.Format} (ht : fT V t) {lo hi : Nat} (hFO : FO t lo hi) (hz : sp_z t ≤ 250) (hs : m r_nodes = nI (sp_z t)) (hr : ∀ R ∈ unitL t, rRow a W R) (P : pv_R)
    (h : ∀ f g k : Nat → Int32, (∀ (i : Nat) (R : NR), (unitL t)[i]? = some R → g (nid R) = nI i ∧ k i = nI (nid R)) → P none (rs m (numA (upa a r_deep f) g k))) : pv_call rq_mt (d + 1) rq_m_R_order [.ref 0] (rs m a) P := by
  have hid := nL_id ht 0 0 0 0 0 [] 0
  have hky := nL_ky ht 0 0 0 0 0 [] 0
  have hin : ∀ R ∈ unitL t, nid R < sp_z t := by
    intro R hR
    have : nid R ∈ idL t 0 := by rw [← hid]; exact List.mem_map.mpr ⟨R, hR, rfl⟩
    have := idL_mem.mp this
    omega
  have hex : ∀ p, p < sp_z t → ∃ R ∈ unitL t, nid R = p := by
    intro p hp
    have : p ∈ idL t 0 := idL_mem.mpr (by omega)
    rw [← hid] at this
    obtain ⟨R, h1, h2⟩ := List.mem_map.mp this
    exact ⟨R, h1, h2⟩
  have hdeep := nL_deep (a := a) ht 0 0 0 0 0 [] 0 rfl (fun R hR => ⟨(rRow_f (hr R hR)).2.1, by have := hin R hR; omega⟩)
  have hdl : ∀ R ∈ unitL t, ndp R < 251 := by
    intro R hR
    have : (sp_f (nc R), ndp R) ∈ kyL t 0 := by rw [← hky]; exact List.mem_map.mpr ⟨R, hR, rfl⟩
    have := kyL_dep ht 0 _ this
    have : ndp R < 0 + sp_z t := this
    omega
  let F : Nat → Nat := fun p => (a r_first p).toNatClampNeg
  let D : Nat → Nat := fun p => lkp (unitL t) p
  have hFR : ∀ R ∈ unitL t, F (nid R) = sp_f (nc R) := by
    intro R hR
    show (a r_first (nid R)).toNatClampNeg = _
    rw [(rRow_f (hr R hR)).1, nI_clamp (by unfold sp_f; omega)]
  have hDR : ∀ R ∈ unitL t, D (nid R) = ndp R := by
    intro R hR
    obtain ⟨R', a1, a2, a3⟩ := lkp_mem (unitL t) (nid R) ⟨R, hR, rfl⟩
    show lkp (unitL t) (nid R) = ndp R
    rw [a3]
    have k1 := hdeep R' a1
    rw [a2] at k1
    exact lnA_fun _ _ _ k1 (hdeep R hR)
  have hpos : ∀ (i : Nat) (R : NR), (unitL t)[i]? = some R → cnB (kyf F D (nid R)) 0 (sp_z t) = i := by
    intro i R hR
    have hm : R ∈ unitL t := List.mem_of_getElem? hR
    rw [← idL_cnt (kyf F D (nid R)) _ t (Nat.lt_succ_self _) 0, ← hid, List.countP_map]
    have e1 : (unitL t).countP (kyf F D (nid R) ∘ nid) = ((unitL t).map (fun r => (sp_f (nc r), ndp r))).countP (fun k => decide (klt k (sp_f (nc R), ndp R))) := by
      rw [List.countP_map]
      refine List.countP_congr (fun R' hR' => ?_)
      show decide (klt (F (nid R'), D (nid R')) (F (nid R), D (nid R))) = true ↔ decide (klt (sp_f (nc R'), ndp R') (sp_f (nc R), ndp R)) = true
      rw [hFR R' hR', hDR R' hR', hFR R hm, hDR R hm]
    rw [e1, hky]
    have hgk : (kyL t 0)[i]? = some (sp_f (nc R), ndp R) := by
      rw [← hky, List.getElem?_map, hR]; rfl
    obtain ⟨A, B, e2, e3⟩ := get_split hgk
    have hpw := (FO_ky t lo hi 0 hFO).2
    rw [e2] at hpw ⊢
    rw [cnt_pos hpw, e3]
  have hidx : ∀ p, p < sp_z t → ∃ (i : Nat) (R : NR), (unitL t)[i]? = some R ∧ nid R = p := by
    intro p hp
    obtain ⟨R, h1, h2⟩ := hex p hp
    obtain ⟨i, hi⟩ := List.getElem?_of_mem h1
    exact ⟨i, R, hi, h2⟩
  refine rc_order d m a (by omega) hs F D (fun q hq => ?_) (fun q hq => ?_) (fun p q hp hq e => ?_) P (fun f g k hgk => ?_)
  · obtain ⟨R, h1, h2⟩ := hex q hq
    rw [← h2, hFR R h1]
    exact ⟨(rRow_f (hr R h1)).1, by unfold sp_f; omega⟩
  · obtain ⟨R, h1, h2⟩ := hex q hq
    rw [← h2, hDR R h1]
    exact ⟨hdeep R h1, by have := hdl R h1; omega⟩
  · obtain ⟨i, R, h1, h2⟩ := hidx p hp
    obtain ⟨j, R', h3, h4⟩ := hidx q hq
    rw [← h2, ← h4, hpos i R h1, hpos j R' h3] at e
    subst e
    rw [h1] at h3
    cases h3
    rw [← h2, ← h4]
  · refine h f g k (fun i R hR => ?_)
    have hm : R ∈ unitL t := List.mem_of_getElem? hR
    have := hgk (nid R) (hin R hm)
    rw [hpos i R hR] at this
    exact this
