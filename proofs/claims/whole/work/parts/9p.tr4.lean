theorem rtL_len : ∀ (t : Std.Format) (b : Nat), (rtL t b).length = rts t
  | .tag _ _, _ => rfl
  | .append x y, b => by
    show (rtL x b ++ rtL y (b + sp_z x)).length = rts x + rts y
    rw [List.length_append, rtL_len x, rtL_len y]
  | .nil, _ => rfl
  | .line, _ => rfl
  | .align _, _ => rfl
  | .text _, _ => rfl
  | .nest _ _, _ => rfl
  | .group _ _, _ => rfl
theorem LkS_a {a : Nat → Nat → Int32} {x y : Std.Format} {b o k ta tp : Nat} {md : Bool} : LkS a (.append x y) b o k ta tp md = (LkS a x b o k ta tp md ∧ LkS a y (b + sp_z x) o (if md then k else k + rts x) ta tp md) := by rw [LkS]
theorem LkS_tag {a : Nat → Nat → Int32} {x : Std.Format} {c b o k ta tp : Nat} {md : Bool} (h : LkS a (.tag c x) b o k ta tp md) : (a c_P_around b = oI o ∧ a c_P_part b = nI k) ∧ (a c_P_tryAround b = oI ta ∧ a c_P_tryPart b = oI tp) := by
  rw [LkS.eq_def] at h
  exact h.1
theorem LkS_rt {a : Nat → Nat → Int32} : ∀ (t : Std.Format) (b o k ta tp : Nat) (md : Bool), LkS a t b o k ta tp md → ∀ j i, (rtL t b)[j]? = some i → (a c_P_around i = oI o ∧ a c_P_part i = nI (if md then k else k + j)) ∧ (a c_P_tryAround i = oI ta ∧ a c_P_tryPart i = oI tp)
  | .tag c x, b, o, k, ta, tp, md, h, j, i, hj => by
    have hj : [b][j]? = some i := hj
    cases j with
    | zero =>
      have hj : some b = some i := hj
      cases hj
      have e : (if md then k else k + 0) = k := by cases md <;> rfl
      rw [e]
      exact LkS_tag h
    | succ j => cases hj
  | .append x y, b, o, k, ta, tp, md, h, j, i, hj => by
    rw [LkS_a] at h
    have hj : (rtL x b ++ rtL y (b + sp_z x))[j]? = some i := hj
    rcases get_app hj with hj | ⟨j0, e, hj⟩
    · exact LkS_rt x b o k ta tp md h.1 j i hj
    · rw [rtL_len] at e
      have q := LkS_rt y (b + sp_z x) o _ ta tp md h.2 j0 i hj
      have e2 : (if md then (if md then k else k + rts x) else (if md then k else k + rts x) + j0) = (if md then k else k + j) := by
        cases md
        · show k + rts x + j0 = k + j
          omega
        · rfl
      rw [e2] at q
      exact q
  | .nil, _, _, _, _, _, _, _, _, _, h => (nomatch h)
  | .line, _, _, _, _, _, _, _, _, _, h => (nomatch h)
  | .align _, _, _, _, _, _, _, _, _, _, h => (nomatch h)
  | .text _, _, _, _, _, _, _, _, _, _, h => (nomatch h)
  | .nest _ _, _, _, _, _, _, _, _, _, _, h => (nomatch h)
  | .group _ _, _, _, _, _, _, _, _, _, _, h => (nomatch h)
theorem LkS_84 {a : Nat → Nat → Int32} {x : Std.Format} {c b o k ta tp : Nat} {md : Bool} (hs : sp_s c = 84) (h : LkS a (.tag c x) b o k ta tp md) : ∃ u v w, x = .append u (.append v w) ∧ LkS a u (b + 1) (b + 1) 0 (b + 1) 1 true ∧ LkS a v (b + 1 + sp_z u) (b + 1) 1 (b + 1) 2 true ∧ LkS a w (b + 1 + sp_z u + sp_z v) (b + 1) 2 (b + 1) 3 true := by
  rw [LkS.eq_def] at h
  simp only [if_pos hs] at h
  have h2 := h.2
  split at h2
  · exact ⟨_, _, _, rfl, h2⟩
  · exact h2.elim
theorem LkS_n84 {a : Nat → Nat → Int32} {x : Std.Format} {c b o k ta tp : Nat} {md : Bool} (hs : ¬ sp_s c = 84) (h : LkS a (.tag c x) b o k ta tp md) : LkS a x (b + 1) (b + 1) 0 ta tp false := by
  rw [LkS.eq_def] at h
  simp only [if_neg hs] at h
  exact h.2
theorem LkS_sub {a : Nat → Nat → Int32} : ∀ (N : Nat) (t : Std.Format), SizeOf.sizeOf t < N → ∀ (b o k ta tp : Nat) (md : Bool), LkS a t b o k ta tp md → ∀ (i c : Nat) (x : Std.Format), (cxL t)[i]? = some (c, x) → ∃ (o k ta tp : Nat) (md : Bool), LkS a (.tag c x) (b + i) o k ta tp md
  | 0, _, h => by omega
  | N + 1, t, hN => by
    intro b o k ta tp md h i c x hi
    cases t with
    | tag c0 x0 =>
      have hN : 1 + SizeOf.sizeOf c0 + SizeOf.sizeOf x0 < N + 1 := hN
      cases i with
      | zero =>
        have hi : some (c0, x0) = some (c, x) := hi
        cases hi
        exact ⟨o, k, ta, tp, md, h⟩
      | succ i =>
        have hi : (cxL x0)[i]? = some (c, x) := hi
        rw [show b + (i + 1) = b + 1 + i by omega]
        by_cases hs : sp_s c0 = 84
        · obtain ⟨u, v, w, rfl, h1, h2, h3⟩ := LkS_84 hs h
          have hN : 1 + SizeOf.sizeOf c0 + (1 + SizeOf.sizeOf u + (1 + SizeOf.sizeOf v + SizeOf.sizeOf w)) < N + 1 := hN
          have hi : (cxL u ++ (cxL v ++ cxL w))[i]? = some (c, x) := hi
          rcases get_app hi with hi | ⟨j, e, hi⟩
          · exact LkS_sub N u (by omega) _ _ _ _ _ _ h1 i c x hi
          · rw [cxL_len] at e
            rcases get_app hi with hi | ⟨j2, e2, hi⟩
            · rw [show b + 1 + i = b + 1 + sp_z u + j by omega]
              exact LkS_sub N v (by omega) _ _ _ _ _ _ h2 j c x hi
            · rw [cxL_len] at e2
              rw [show b + 1 + i = b + 1 + sp_z u + sp_z v + j2 by omega]
              exact LkS_sub N w (by omega) _ _ _ _ _ _ h3 j2 c x hi
        · exact LkS_sub N x0 (by omega) _ _ _ _ _ _ (LkS_n84 hs h) i c x hi
    | append x0 y0 =>
      have hN : 1 + SizeOf.sizeOf x0 + SizeOf.sizeOf y0 < N + 1 := hN
      rw [LkS_a] at h
      have hi : (cxL x0 ++ cxL y0)[i]? = some (c, x) := hi
      rcases get_app hi with hi | ⟨j, e, hi⟩
      · exact LkS_sub N x0 (by omega) _ _ _ _ _ _ h.1 i c x hi
      · rw [cxL_len] at e
        rw [show b + i = b + sp_z x0 + j by omega]
        exact LkS_sub N y0 (by omega) _ _ _ _ _ _ h.2 j c x hi
    | nil => cases hi
    | line => cases hi
    | align _ => cases hi
    | text _ => cases hi
    | nest _ _ => cases hi
    | group _ _ => cases hi
/-- the class's links, node by node -/
def lkN (a : Nat → Nat → Int32) (t : Std.Format) : Prop :=
  (∀ j i, (rtL t 0)[j]? = some i → (a c_P_around i = -1 ∧ a c_P_part i = nI j) ∧ (a c_P_tryAround i = -1 ∧ a c_P_tryPart i = -1)) ∧
  (∀ q, q < sp_z t → ¬ SO t q = 84 → ∀ j i, (KI t q)[j]? = some i → (a c_P_around i = nI q ∧ a c_P_part i = nI j) ∧ (a c_P_tryAround i = a c_P_tryAround q ∧ a c_P_tryPart i = a c_P_tryPart q)) ∧
  (∀ q, q < sp_z t → SO t q = 84 → ∃ u v w, XI t q = .append u (.append v w) ∧
    (∀ i ∈ rtL u (q + 1), (a c_P_around i = nI q ∧ a c_P_part i = 0) ∧ (a c_P_tryAround i = nI q ∧ a c_P_tryPart i = 0)) ∧
    (∀ i ∈ rtL v (q + 1 + sp_z u), (a c_P_around i = nI q ∧ a c_P_part i = 1) ∧ (a c_P_tryAround i = nI q ∧ a c_P_tryPart i = 1)) ∧
    (∀ i ∈ rtL w (q + 1 + sp_z u + sp_z v), (a c_P_around i = nI q ∧ a c_P_part i = 2) ∧ (a c_P_tryAround i = nI q ∧ a c_P_tryPart i = 2)))
theorem mem_get {α : Type} {l : List α} {x : α} (h : x ∈ l) : ∃ j : Nat, l[j]? = some x := by
  obtain ⟨j, hj, e⟩ := List.getElem_of_mem h
  exact ⟨j, by rw [List.getElem?_eq_getElem hj, e]⟩
theorem lkN_all {a : Nat → Nat → Int32} {t : Std.Format} (h : LkS a t 0 0 0 0 0 false) : lkN a t := by
  refine ⟨fun j i hj => ?_, fun q hq hs j i hj => ?_, fun q hq hs => ?_⟩
  · have := LkS_rt t 0 0 0 0 0 false h j i hj
    rw [show (if false = true then 0 else 0 + j) = j from Nat.zero_add j] at this
    exact this
  · obtain ⟨o, k, ta, tp, md, h1⟩ := LkS_sub _ t (Nat.lt_succ_self _) 0 0 0 0 0 false h q _ _ (CX_get hq)
    rw [Nat.zero_add] at h1
    have h2 := LkS_tag h1
    have := LkS_rt _ _ _ _ _ _ _ (LkS_n84 hs h1) j i hj
    rw [show (if false = true then 0 else 0 + j) = j from Nat.zero_add j, oI_s] at this
    rw [h2.2.1, h2.2.2]
    exact this
  · obtain ⟨o, k, ta, tp, md, h1⟩ := LkS_sub _ t (Nat.lt_succ_self _) 0 0 0 0 0 false h q _ _ (CX_get hq)
    rw [Nat.zero_add] at h1
    obtain ⟨u, v, w, e, h3, h4, h5⟩ := LkS_84 hs h1
    refine ⟨u, v, w, e, fun i hi => ?_, fun i hi => ?_, fun i hi => ?_⟩
    · obtain ⟨j, hj⟩ := mem_get hi
      have := LkS_rt _ _ _ _ _ _ _ h3 j i hj
      rw [oI_s, show (1 : Nat) = 0 + 1 from rfl, oI_s] at this
      exact this
    · obtain ⟨j, hj⟩ := mem_get hi
      have := LkS_rt _ _ _ _ _ _ _ h4 j i hj
      rw [oI_s, show (2 : Nat) = 1 + 1 from rfl, oI_s] at this
      exact this
    · obtain ⟨j, hj⟩ := mem_get hi
      have := LkS_rt _ _ _ _ _ _ _ h5 j i hj
      rw [oI_s, show (3 : Nat) = 2 + 1 from rfl, oI_s] at this
      exact this
/-! the reference's numbers -/
theorem cnt_inj {α : Type} {f : α → Bool} : ∀ {l : List α} {i j : Nat} {x y : α}, l.countP f ≤ 1 → l[i]? = some x → l[j]? = some y → f x = true → f y = true → i = j
  | [], _, _, _, _, _, h, _, _, _ => by cases h
  | z :: l, i, j, x, y, hc, hi, hj, hx, hy => by
    have pos : ∀ (k : Nat) (w : α), l[k]? = some w → f w = true → 1 ≤ l.countP f := by
      intro k w hk hw
      have : w ∈ l := List.mem_of_getElem? hk
      exact List.countP_pos_iff.mpr ⟨w, this, hw⟩
    rw [List.countP_cons] at hc
    cases i with
    | zero =>
      have hi : some z = some x := hi
      cases hi
      cases j with
      | zero => rfl
      | succ j =>
        have hj : l[j]? = some y := hj
        have := pos j y hj hy
        rw [if_pos hx] at hc
        omega
    | succ i =>
      have hi : l[i]? = some x := hi
      cases j with
      | zero =>
        have hj : some z = some y := hj
        cases hj
        have := pos i x hi hx
        rw [if_pos hy] at hc
        omega
      | succ j =>
        have hj : l[j]? = some y := hj
        have := cnt_inj (l := l) (i := i) (j := j) (by omega) hi hj hx hy
        omega
theorem idL_inj {t : Std.Format} {b i j q : Nat} (hi : (idL t b)[i]? = some q) (hj : (idL t b)[j]? = some q) : i = j := by
  refine cnt_inj (f := fun x => decide (x = q)) ?_ hi hj (by simp) (by simp)
  rw [idL_cnt (fun x => decide (x = q)) _ t (Nat.lt_succ_self _) b, cnB_one]
  split <;> omega
def IDS (t : Std.Format) : Prop := ∀ (b i c : Nat) (x : Std.Format), (cxL t)[i]? = some (c, x) → stS (sp_s c) → (idL t b)[i]? = some (b + i)
theorem IDS_app {x y : Std.Format} (hx : IDS x) (hy : IDS y) : IDS (.append x y) := by
  intro b i c z hi hs
  have hi : (cxL x ++ cxL y)[i]? = some (c, z) := hi
  rw [idL_a]
  rcases get_app hi with h | ⟨j, e, h⟩
  · have := get_lt h
    rw [cxL_len] at this
    rw [get_l (by rw [idL_len]; exact this)]
    exact hx b i c z h hs
  · rw [cxL_len] at e
    subst e
    rw [show sp_z x + j = (idL x b).length + j by rw [idL_len], get_r, idL_len, hy (b + sp_z x) j c z h hs]
    congr 1
    omega
theorem IDS_all {V : Nat} {t : Std.Format} (ht : fT V t) : IDS t := by
  refine fT_ind (V := V) (M := IDS) ?_ ?_ ?_ ?_ ?_ ?_ ?_ _ t (Nat.lt_succ_self _) ht
  · exact fun x y hx hy => IDS_app hx hy
  · exact fun b i c x h => by cases h
  · exact fun b i c x h => by cases h
  · intro c x hs h8 hx b i c' z hi hst
    rw [idL_S hs]
    cases i with
    | zero => rfl
    | succ i =>
      have hi : (cxL x)[i]? = some (c', z) := hi
      have := hx (b + 1) i c' z hi hst
      show (idL x (b + 1))[i]? = _
      rw [this]; congr 1; omega
  · intro c u v w h8 _ hu hv hw b i c' z hi hst
    rw [idL_S (by rw [h8]; unfold stS; omega)]
    cases i with
    | zero => rfl
    | succ i =>
      have hi : (cxL (.append u (.append v w)))[i]? = some (c', z) := hi
      have := IDS_app hu (IDS_app hv hw) (b + 1) i c' z hi hst
      show (idL (.append u (.append v w)) (b + 1))[i]? = _
      rw [this]; congr 1; omega
  · intro c u v hs he _ _ b i c' z hi hst
    exact absurd hst (eW_notS (eW_sub _ _ (Nat.lt_succ_self _) he i c' z hi))
  · intro c x hs he _ _ b i c' z hi hst
    exact absurd hst (eW_notS (eW_sub _ _ (Nat.lt_succ_self _) he i c' z hi))
section UNK
variable {t : Std.Format}
theorem ID_get {i : Nat} (hi : i < sp_z t) : (idL t 0)[i]? = some (ID t i) := by
  have : i < (idL t 0).length := by rw [idL_len]; exact hi
  unfold ID
  rw [List.getElem?_eq_getElem this]
  rfl
theorem ID_lt {i : Nat} (hi : i < sp_z t) : ID t i < sp_z t := by
  have := idL_mem.mp (List.mem_of_getElem? (ID_get hi))
  omega
theorem ID_inj {i j : Nat} (hi : i < sp_z t) (hj : j < sp_z t) (h : ID t i = ID t j) : i = j := idL_inj (ID_get hi) (by rw [h]; exact ID_get hj)
theorem ID_st {V i : Nat} (ht : fT V t) (hi : i < sp_z t) (hs : stS (SO t i)) : ID t i = i := by
  have := IDS_all ht 0 i _ _ (CX_get hi) hs
  rw [ID_get hi] at this
  have := Option.some.inj this
  omega
/-- every number is that of a node -/
theorem ID_sur {q : Nat} (hq : q < sp_z t) : ∃ i, i < sp_z t ∧ ID t i = q := by
  obtain ⟨j, hj⟩ := mem_get (idL_mem.mpr (⟨Nat.zero_le _, by omega⟩ : 0 ≤ q ∧ q < 0 + sp_z t))
  have hl := get_lt hj
  rw [idL_len] at hl
  refine ⟨j, hl, ?_⟩
  rw [ID_get hl] at hj
  exact Option.some.inj hj
/-- the records of the unit -/
theorem UN_get {V i : Nat} {R : NR} (ht : fT V t) (h : (unitL t)[i]? = some R) : i < sp_z t ∧ ((nc R = CO t i ∧ nx R = XI t i) ∧ nid R = ID t i) ∧ no R = PA t i ∧ noi R = (if PA t i = 0 then 0 else ID t (PA t i - 1) + 1) := by
  have hl := get_lt h
  rw [(nL_NOI ht _ _ _ _ _ _ _).2] at hl
  have e1 : ((unitL t).map (fun R => (nc R, nx R)))[i]? = some (nc R, nx R) := by rw [List.getElem?_map, h]; rfl
  rw [nL_cx ht, CX_get hl] at e1
  have e1 := Option.some.inj e1
  have e2 : ((unitL t).map no)[i]? = some (no R) := by rw [List.getElem?_map, h]; rfl
  rw [nL_par ht, PA_get hl] at e2
  have e2 := Option.some.inj e2
  have e3 : ((unitL t).map nid)[i]? = some (nid R) := by rw [List.getElem?_map, h]; rfl
  rw [nL_id ht, ID_get hl] at e3
  have e3 := Option.some.inj e3
  refine ⟨hl, ⟨⟨(congrArg Prod.fst e1).symm, (congrArg Prod.snd e1).symm⟩, e3.symm⟩, e2.symm, ?_⟩
  rcases (nL_NOI ht 0 0 0 0 0 [] 0).1 i R h with ⟨h1, h2⟩ | ⟨q, R', h1, h2, h3, h4⟩
  · rw [e2, h1, if_pos rfl]; exact h2
  · have e4 : ((unitL t).map nid)[q]? = some (nid R') := by rw [List.getElem?_map, h2]; rfl
    rw [nL_id ht, ID_get (by omega)] at e4
    have e4 := Option.some.inj e4
    rw [e2, h3, if_neg (by omega), h4, ← e4, show 0 + q + 1 - 1 = q by omega]
theorem UN_some {V i : Nat} (ht : fT V t) (hi : i < sp_z t) : ∃ R, (unitL t)[i]? = some R := by
  have : i < (unitL t).length := by rw [(nL_NOI ht _ _ _ _ _ _ _).2]; exact hi
  exact ⟨_, List.getElem?_eq_getElem this⟩
end UNK
