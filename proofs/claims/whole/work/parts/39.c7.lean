def kIn (b k V j i : Nat) : Prop := ((2 ≤ j ∧ j ≤ 6) ∨ (11 ≤ j ∧ j ≤ 15) → i < b) ∧ (16 ≤ j ∧ j ≤ 18 → i < k) ∧ (19 ≤ j ∧ j ≤ 22 → i < V) ∧ ¬ (j = 23 ∨ j = 24)
def Cs (a a' : Nat → Nat → Int32) (b k V : Nat) : Prop := ∀ j i, kIn b k V j i → a' j i = a j i
abbrev Cg (a a' : Nat → Nat → Int32) : Prop := Cs a a' 0 0 0
def Cms (m m' : Nat → Int32) : Prop := ∀ j, ¬ (j = 4 ∨ j = 5 ∨ j = 7 ∨ j = 8 ∨ j = 9 ∨ j = 10) → m' j = m j
theorem kIn_le {b k V b' k' V' j i : Nat} (hb : b ≤ b') (hk : k ≤ k') (hV : V ≤ V') (h : kIn b k V j i) : kIn b' k' V' j i :=
  ⟨fun q => Nat.lt_of_lt_of_le (h.1 q) hb, fun q => Nat.lt_of_lt_of_le (h.2.1 q) hk, fun q => Nat.lt_of_lt_of_le (h.2.2.1 q) hV, h.2.2.2⟩
theorem Cs_refl (a : Nat → Nat → Int32) (b k V : Nat) : Cs a a b k V := fun _ _ _ => rfl
theorem Cs_trans {a a' a'' : Nat → Nat → Int32} {b k V b' k' V' : Nat} (h1 : Cs a a' b k V) (h2 : Cs a' a'' b' k' V') (hb : b ≤ b') (hk : k ≤ k') (hV : V ≤ V') : Cs a a'' b k V :=
  fun j i h => (h2 j i (kIn_le hb hk hV h)).trans (h1 j i h)
theorem Cs_le {a a' : Nat → Nat → Int32} {b k V b' k' V' : Nat} (h : Cs a a' b' k' V') (hb : b ≤ b') (hk : k ≤ k') (hV : V ≤ V') : Cs a a' b k V :=
  fun j i q => h j i (kIn_le hb hk hV q)
theorem Cs_up {a a' : Nat → Nat → Int32} {b k V j i : Nat} (h : Cs a a' b k V) (x : Int32) (hn : ¬ kIn b k V j i) : Cs a (up2 a' j i x) b k V := by
  intro j2 i2 q
  refine Eq.trans ?_ (h j2 i2 q)
  unfold up2 upa upd
  by_cases e : j2 = j
  · rw [if_pos e]
    by_cases e2 : i2 = i
    · subst e e2; exact absurd q hn
    · rw [if_neg e2, e]
  · rw [if_neg e]
theorem Cs_Ce {a a' : Nat → Nat → Int32} {b k V : Nat} (h : Ce a a' b) : Cs a a' b k V := fun j i q => h j i ⟨q.1, q.2.2.2⟩
theorem Cs_p {a a' : Nat → Nat → Int32} {b k V i j : Nat} (h : Cs a a' b k V) (x : Int32) (hj : (2 ≤ j ∧ j ≤ 6) ∨ (11 ≤ j ∧ j ≤ 15)) (hi : b ≤ i) : Cs a (up2 a' j i x) b k V :=
  Cs_up h x (fun q => by have := q.1 hj; omega)
theorem Cs_r {a a' : Nat → Nat → Int32} {b k V i j : Nat} (h : Cs a a' b k V) (x : Int32) (hj : 16 ≤ j ∧ j ≤ 18) (hi : k ≤ i) : Cs a (up2 a' j i x) b k V :=
  Cs_up h x (fun q => by have := q.2.1 hj; omega)
theorem Cs_v {a a' : Nat → Nat → Int32} {b k V i j : Nat} (h : Cs a a' b k V) (x : Int32) (hj : 19 ≤ j ∧ j ≤ 22) (hi : V ≤ i) : Cs a (up2 a' j i x) b k V :=
  Cs_up h x (fun q => by have := q.2.2.1 hj; omega)
theorem Cs_u {a a' : Nat → Nat → Int32} {b k V i j : Nat} (h : Cs a a' b k V) (x : Int32) (hj : j = 23 ∨ j = 24) : Cs a (up2 a' j i x) b k V :=
  Cs_up h x (fun q => q.2.2.2 hj)
theorem Cs_row {a a' : Nat → Nat → Int32} {b k V i j : Nat} (h : Cs a a' b k V) (hj : (2 ≤ j ∧ j ≤ 6) ∨ (11 ≤ j ∧ j ≤ 15)) (hi : i < b) : a' j i = a j i :=
  h j i ⟨fun _ => hi, fun q => by omega, fun q => by omega, by omega⟩
theorem Cs_rd {a a' : Nat → Nat → Int32} {b k V i j : Nat} (h : Cs a a' b k V) (hj : 16 ≤ j ∧ j ≤ 18) (hi : i < k) : a' j i = a j i :=
  h j i ⟨fun q => by omega, fun _ => hi, fun q => by omega, by omega⟩
theorem Cs_vr {a a' : Nat → Nat → Int32} {b k V i j : Nat} (h : Cs a a' b k V) (hj : 19 ≤ j ∧ j ≤ 22) (hi : i < V) : a' j i = a j i :=
  h j i ⟨fun q => by omega, fun q => by omega, fun _ => hi, by omega⟩
theorem Cs_oth {a a' : Nat → Nat → Int32} {b k V j : Nat} (h : Cs a a' b k V) (hj : ¬ ((2 ≤ j ∧ j ≤ 6) ∨ (11 ≤ j ∧ j ≤ 24))) : a' j = a j :=
  funext fun i => h j i ⟨fun q => by omega, fun q => by omega, fun q => by omega, by omega⟩
theorem Cms_refl (m : Nat → Int32) : Cms m m := fun _ _ => rfl
theorem Cms_trans {m m' m'' : Nat → Int32} (h : Cms m m') (h2 : Cms m' m'') : Cms m m'' := fun j q => (h2 j q).trans (h j q)
theorem Cms_up {m m' : Nat → Int32} {k : Nat} (h : Cms m m') (x : Int32) (hk : k = 4 ∨ k = 5 ∨ k = 7 ∨ k = 8 ∨ k = 9 ∨ k = 10) : Cms m (upd m' k x) := by
  intro j q
  refine Eq.trans ?_ (h j q)
  unfold upd
  rw [if_neg (show ¬ j = k from fun e => q (e ▸ hk))]
theorem Cms_Cm {m m' : Nat → Int32} (h : Cm m m') : Cms m m' := fun j q => h j (fun e => q (by omega))
def ndT (a : Nat → Nat → Int32) (W b c e : Nat) (sc : sc_T) : Prop :=
  ((a c_P_sort b = nI (sp_s c) ∧ a c_P_first b = nI (sp_f c)) ∧ (a c_P_there b = thOf sc ∧ a c_P_end b = nI e) ∧ a c_P_isEntered b = nI (sp_en c)) ∧
  ((sp_s c = 36 ∨ sp_s c = 37) → (1 ≤ sp_pl c % 16 ∧ sp_pl c % 16 ≤ W) ∧ a c_P_named b = nI (sp_pl c % 16 - 1) ∧ (a c_V_name (sp_pl c % 16 - 1) = nI (sp_pl c / 16 + 97) ∧ a c_V_isFinal (sp_pl c % 16 - 1) = (if sp_s c = 37 then 1 else 0)) ∧ (a c_V_giver (sp_pl c % 16 - 1) = nI b ∧ a c_V_couldBeFinal (sp_pl c % 16 - 1) = 1)) ∧
  (¬ (sp_s c = 36 ∨ sp_s c = 37) → a c_P_named b = -1) ∧
  ((sp_s c = 66 ∨ sp_s c = 67) → 1 ≤ sp_pl c ∧ a c_P_target b = nI (sp_pl c - 1)) ∧ (¬ (sp_s c = 66 ∨ sp_s c = 67) → a c_P_target b = -1)
def skT (a : Nat → Nat → Int32) (b c : Nat) (x : Std.Format) : Prop := if sp_s c = 83 then (a c_P_isSkipped b = 1 ∧ fLine x) ∨ (a c_P_isSkipped b = 0 ∧ ¬ fLine x) else a c_P_isSkipped b = 0
def PrS (a : Nat → Nat → Int32) (W : Nat) : Std.Format → Nat → sc_T → Prop
  | .tag c x, b, sc =>
    if stS (sp_s c) then
      (ndT a W b c (b + 1 + sp_z x) sc ∧ skT a b c x) ∧
      (if sp_s c = 84 then (match x with
        | .append u (.append v w) => (a c_P_catchFrom b = (if sp_pl c % 2 = 1 then nI (b + 1 + sp_z u) else -1) ∧ a c_P_finallyFrom b = (if sp_pl c / 2 = 1 then nI (b + 1 + sp_z u + sp_z v) else -1)) ∧ PrS a W u (b + 1) sc ∧ PrS a W v (b + 1 + sp_z u) sc ∧ PrS a W w (b + 1 + sp_z u + sp_z v) sc
        | _ => False)
      else (a c_P_catchFrom b = -1 ∧ a c_P_finallyFrom b = -1) ∧ PrS a W x (b + 1) sc)
    else PrE a (.tag c x) b ∧ ∀ i, b ≤ i → i < b + sp_z (.tag c x) → unf a (thOf sc) i
  | .append x y, b, sc => PrS a W x b sc ∧ PrS a W y (b + sp_z x) (scA sc x)
  | _, _, _ => True
def PrF (a a' : Nat → Nat → Int32) (b0 B W : Nat) : Prop := (∀ j i, (2 ≤ j ∧ j ≤ 6) ∨ (11 ≤ j ∧ j ≤ 15) → b0 ≤ i → i < B → a' j i = a j i) ∧ (∀ j i, 19 ≤ j ∧ j ≤ 22 → i < W → a' j i = a j i)
theorem PrF_Cs {a a' : Nat → Nat → Int32} {b k V b0 B W : Nat} (h : Cs a a' b k V) (hB : B ≤ b) (hW : W ≤ V) : PrF a a' b0 B W :=
  ⟨fun _ _ hj _ hi => Cs_row h hj (by omega), fun _ _ hj hi => Cs_vr h hj (by omega)⟩
theorem ndT_F {a a' : Nat → Nat → Int32} {b0 B W W' i c e : Nat} {sc : sc_T} (h : PrF a a' b0 B W) (h0 : b0 ≤ i) (hi : i < B) (hW' : W ≤ W') (hn : ndT a W i c e sc) : ndT a' W' i c e sc := by
  obtain ⟨⟨⟨h1, h2⟩, ⟨h3, h4⟩, h5⟩, h6, h7, h8, h9⟩ := hn
  have r := fun j hj => h.1 j i hj h0 hi
  refine ⟨⟨⟨(r 2 (by omega)).trans h1, (r 3 (by omega)).trans h2⟩, ⟨(r 5 (by omega)).trans h3, (r 6 (by omega)).trans h4⟩, (r 14 (by omega)).trans h5⟩, fun q => ?_, fun q => (r 4 (by omega)).trans (h7 q), fun q => ⟨(h8 q).1, (r 11 (by omega)).trans (h8 q).2⟩, fun q => (r 11 (by omega)).trans (h9 q)⟩
  obtain ⟨q1, q2, ⟨q3, q4⟩, q5, q6⟩ := h6 q
  have hw : sp_pl c % 16 - 1 < W := by omega
  refine ⟨⟨q1.1, by omega⟩, (r 4 (by omega)).trans q2, ⟨?_, ?_⟩, ?_, ?_⟩
  · exact (h.2 19 _ (by omega) hw).trans q3
  · exact (h.2 20 _ (by omega) hw).trans q4
  · exact (h.2 21 _ (by omega) hw).trans q5
  · exact (h.2 22 _ (by omega) hw).trans q6
theorem PrS_F {a a' : Nat → Nat → Int32} {b0 B W W' : Nat} (h : PrF a a' b0 B W) (hW' : W ≤ W') : ∀ (N : Nat) (t : Std.Format), SizeOf.sizeOf t < N → ∀ (b : Nat) (sc : sc_T), b0 ≤ b → b + sp_z t ≤ B → PrS a W t b sc → PrS a' W' t b sc := by
  intro N
  induction N with
  | zero => intro t ht; omega
  | succ N ih =>
    intro t ht b sc h0 hb hB
    cases t with
    | append x y =>
      simp only [sp_z] at hb
      simp at ht
      exact ⟨ih x (by omega) b sc h0 (by omega) hB.1, ih y (by omega) _ _ (by omega) (by omega) hB.2⟩
    | tag c x =>
      simp only [sp_z] at hb
      simp at ht
      unfold PrS at hB ⊢
      by_cases hs : stS (sp_s c)
      · rw [if_pos hs] at hB ⊢
        obtain ⟨⟨h1, h2⟩, h4⟩ := hB
        refine ⟨⟨ndT_F h h0 (by omega) hW' h1, ?_⟩, ?_⟩
        · unfold skT at h2 ⊢
          rw [h.1 c_P_isSkipped b (by decide) h0 (by omega)]; exact h2
        · by_cases h84 : sp_s c = 84
          · rw [if_pos h84] at h4 ⊢
            cases x with
            | append u v =>
              cases v with
              | append v w =>
                simp only [sp_z] at hb
                simp at ht
                simp only at h4 ⊢
                rw [h.1 c_P_catchFrom b (by decide) h0 (by omega), h.1 c_P_finallyFrom b (by decide) h0 (by omega)]
                exact ⟨h4.1, ih u (by omega) _ _ (by omega) (by omega) h4.2.1, ih v (by omega) _ _ (by omega) (by omega) h4.2.2.1, ih w (by omega) _ _ (by omega) (by omega) h4.2.2.2⟩
              | _ => exact h4.elim
            | _ => exact h4.elim
          · rw [if_neg h84] at h4 ⊢
            rw [h.1 c_P_catchFrom b (by decide) h0 (by omega), h.1 c_P_finallyFrom b (by decide) h0 (by omega)]
            exact ⟨h4.1, ih x (by omega) _ _ (by omega) (by omega) h4.2⟩
      · rw [if_neg hs] at hB ⊢
        refine ⟨PrE_same _ b (fun i i1 i2 => ?_) hB.1, fun i i1 i2 => ?_⟩
        · simp only [sp_z] at i2
          have r := fun j hj => h.1 j i hj (by omega) (by omega)
          exact ⟨⟨r 2 (by omega), r 3 (by omega)⟩, r 4 (by omega), r 6 (by omega)⟩
        · have u := hB.2 i i1 i2
          simp only [sp_z] at i2
          have r := fun j hj => h.1 j i hj (by omega) (by omega)
          obtain ⟨⟨u1, u2⟩, ⟨u3, u4⟩, u5, u6⟩ := u
          exact ⟨⟨(r 5 (by omega)).trans u1, (r 11 (by omega)).trans u2⟩, ⟨(r 12 (by omega)).trans u3, (r 13 (by omega)).trans u4⟩, (r 14 (by omega)).trans u5, (r 15 (by omega)).trans u6⟩
    | _ => trivial
theorem PrS_Cs {a a' : Nat → Nat → Int32} {B k V W W' b : Nat} {t : Std.Format} {sc : sc_T} (h : Cs a a' B k V) (hW : W ≤ V) (hW' : W ≤ W') (hb : b + sp_z t ≤ B) (hP : PrS a W t b sc) : PrS a' W' t b sc :=
  PrS_F (PrF_Cs h (Nat.le_refl _) hW) hW' _ t (Nat.lt_succ_self _) b sc (Nat.zero_le _) hb hP
/-- uses and assignments counted; variables that were given on the way begin at 0 -/
def cnR (U A : Nat → Int32) (V0 : Nat) (a : Nat → Nat → Int32) (V1 : Nat) (t : Std.Format) : Prop := ∀ v, v < 12 → (v < V0 → a c_V_uses v = U v + nI (uS v t) ∧ a c_V_assigns v = A v + nI (aS v t)) ∧ (V0 ≤ v → v < V1 → a c_V_uses v = nI (uS v t) ∧ a c_V_assigns v = nI (aS v t)) ∧ (V1 ≤ v → uS v t = 0 ∧ aS v t = 0)
theorem i_add0 (x : Int32) : x + nI 0 = x := Int32.add_zero x
theorem cnR_0 {a : Nat → Nat → Int32} {V : Nat} {t : Std.Format} (h : ∀ v, uS v t = 0 ∧ aS v t = 0) : cnR (a c_V_uses) (a c_V_assigns) V a V t := by
  intro v hv
  rw [(h v).1, (h v).2, i_add0, i_add0]
  exact ⟨fun _ => ⟨rfl, rfl⟩, fun _ _ => by omega, fun _ => ⟨rfl, rfl⟩⟩
theorem cnR_2 {U A : Nat → Int32} {V0 V1 V2 : Nat} {a a' : Nat → Nat → Int32} {t t2 : Std.Format} (h01 : V0 ≤ V1) (h12 : V1 ≤ V2) (h : cnR U A V0 a V1 t) (h2 : cnR (a c_V_uses) (a c_V_assigns) V1 a' V2 t2) : cnR U A V0 a' V2 (.append t t2) := by
  intro v hv
  obtain ⟨p1, p2, p3⟩ := h v hv
  obtain ⟨q1, q2, q3⟩ := h2 v hv
  have e1 : uS v (.append t t2) = uS v t + uS v t2 := rfl
  have e2 : aS v (.append t t2) = aS v t + aS v t2 := rfl
  rw [e1, e2]
  refine ⟨fun q => ?_, fun r q => ?_, fun q => ?_⟩
  · have q1 := q1 (by omega)
    have p1 := p1 q
    rw [q1.1, q1.2, p1.1, p1.2, ← nI_add, ← nI_add, Int32.add_assoc, Int32.add_assoc]
    exact ⟨rfl, rfl⟩
  · by_cases hh : v < V1
    · have q1 := q1 hh
      have p2 := p2 r hh
      rw [q1.1, q1.2, p2.1, p2.2, nI_add, nI_add]
      exact ⟨rfl, rfl⟩
    · have q2 := q2 (by omega) q
      have p3 := p3 (by omega)
      rw [q2.1, q2.2, p3.1, p3.2, Nat.zero_add, Nat.zero_add]
      exact ⟨rfl, rfl⟩
  · have p3 := p3 (by omega)
    have q3 := q3 q
    omega
theorem cnR_e {U A : Nat → Int32} {V : Nat} {a : Nat → Nat → Int32} {t : Std.Format} (hW : eW V t) (h : cnt U A a t) : cnR U A V a V t := by
  intro v hv
  rw [(uS_e hW v).1, (uS_e hW v).2]
  exact ⟨fun _ => h v hv, fun _ _ => by omega, fun q => eW_cnt hW q⟩
theorem cnR_t {U A : Nat → Int32} {V0 V1 c : Nat} {a : Nat → Nat → Int32} {t : Std.Format} (hs : stS (sp_s c)) (h : cnR U A V0 a V1 t) : cnR U A V0 a V1 (.tag c t) := by
  intro v hv
  have e1 : uS v (.tag c t) = uS v t := by simp only [uS]; rw [if_pos hs]
  have e2 : aS v (.tag c t) = aS v t := by simp only [aS]; rw [if_pos hs]
  rw [e1, e2]; exact h v hv
theorem cnR_a {U A : Nat → Int32} {V0 V1 : Nat} {a a' : Nat → Nat → Int32} {t : Std.Format} (h1 : a' c_V_uses = a c_V_uses) (h2 : a' c_V_assigns = a c_V_assigns) (h : cnR U A V0 a V1 t) : cnR U A V0 a' V1 t := by
  intro v hv
  rw [h1, h2]; exact h v hv
