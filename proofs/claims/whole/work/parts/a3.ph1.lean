/-! class and reference over one unit -/
def WC (a b : Nat → Nat → Int32) (V : Nat) (t : Std.Format) (K : Nat → Nat) (Wf : wL_T) (on : Nat → Int32) (E : eL_T) : Prop :=
  (CU a V t ∧ RU b V t) ∧ ((∀ i, i < sp_z t → chl a 20 (TA a i)) ∧ jT [] t 0) ∧ ((∀ p, p < sp_z t → lnA b (K p) (b r_around p)) ∧ (∀ x, x ∈ E ↔ isEd b t K Wf x)) ∧ (wayIn b t K Wf ∧ woI b (sp_z t) K on Wf Wf.length) ∧ (Wf.length < 1499 ∧ ∀ x ∈ Wf, x.1 < sp_z t ∧ SO t x.1 = 84 ∧ hE t x.1)
/-- a lane of the class and a VARIABLE of the reference -/
def LN (V v : Nat) (vr : Int32) : Prop := v < 16 ∧ (∀ b, bt 0 vr b = b) ∧ (∀ k, k < V → ∀ b, bt (1 + nI k) vr b = if k = v then 1 else b) ∧ (∀ k, k < V → ∀ b, bt (20 + nI k) vr b = if k = v then 0 else b)
def MEq (t : Std.Format) (fr to : Nat) (M : Nat → Nat → Nat → Prop) (en : Nat → Nat → Nat) : Prop := ∀ T, fr ≤ T → T < to → SO t T = 84 → hE t T → ∀ c c', c < 2 → c' < 2 → (M T c c' ↔ en T c / 2 ^ c' % 2 = 1)
def oC (c : Nat) : Int32 := if c ≤ 2 then -1 else nI (tgc c)
def rC (c : Nat) : Int32 := if c = 2 then 1 else 0
/-- the e at which C begins the next round of loop g -/
def lpE (t : Std.Format) (g : Nat) : Option Nat := (KI t g)[if SO t g = 87 then 0 else 1]?
def FIN (t : Std.Format) (C : Nat → Nat → Prop) (c b : Nat) : Prop := if c ≤ 2 then True else if c % 2 = 1 then C (241 + tgc c) b else atP C (oI (nx0 (lpE t (tgc c)))) b
abbrev LVQ (a : Nat → Nat → Int32) (t : Std.Format) (root : Int32) (M : Nat → Nat → Nat → Prop) (C : Nat → Nat → Prop) (c k T : Nat) (pt : Int32) (b : Nat) : Prop := lvq a (sp_z t) root M C (FIN t C c) (oC c) (rC c) k T pt b
theorem lvq_fuel {a : Nat → Nat → Int32} {N : Nat} {root : Int32} {M : Nat → Nat → Nat → Prop} {Q : Nat → Nat → Prop} {FIN : Nat → Prop} {outer r : Int32} : ∀ (k T : Nat) (pt : Int32) (b d : Nat), chl a k T → (lvq a N root M Q FIN outer r k T pt b ↔ lvq a N root M Q FIN outer r (k + d) T pt b)
  | 0, T, pt, b, d, h => by
    have h : T = 0 := h
    subst h
    rw [Nat.zero_add]
    cases d with
    | zero => exact Iff.rfl
    | succ d =>
      show FIN b ↔ lvq a N root M Q FIN outer r (d + 1) 0 pt b
      unfold lvq
      rw [if_pos (Or.inl (by omega))]
  | k + 1, T, pt, b, d, h => by
    rw [show k + 1 + d = (k + d) + 1 by omega]
    unfold lvq
    by_cases c1 : ¬ (1 ≤ T ∧ T ≤ N) ∨ oI T ≤ outer
    · rw [if_pos c1, if_pos c1]
    · have hT : ¬ T = 0 := fun z => c1 (Or.inl (by omega))
      have hc := h.resolve_left hT
      rw [if_neg c1, if_neg c1]
      by_cases c2 : oI T = root
      · rw [if_pos c2, if_pos c2]
      · rw [if_neg c2, if_neg c2]
        by_cases c3 : ¬ r = 0 ∧ pt = 0 ∧ ¬ a c_P_catchFrom (T - 1) = -1
        · rw [if_pos c3, if_pos c3]
        · rw [if_neg c3, if_neg c3]
          by_cases c4 : ¬ pt = 2 ∧ ¬ a c_P_finallyFrom (T - 1) = -1
          · rw [if_pos c4, if_pos c4]
            refine and_congr Iff.rfl (forall_congr' fun b' => ?_)
            refine imp_congr Iff.rfl (imp_congr Iff.rfl (lvq_fuel k _ _ b' d hc))
          · rw [if_neg c4, if_neg c4]
            exact lvq_fuel k _ _ b d hc
section PHA
variable {a b : Nat → Nat → Int32} {V : Nat} {t : Std.Format} {K : Nat → Nat} {Wf : wL_T}
/-- where a code ends: the reference's point -/
theorem fnl_pt (h : CU a V t) (hr : RU b V t) {c : Nat} (hc : 2 < c) (hg : tgc c < sp_z t) (hst : stS (SO t (tgc c))) (hl : c % 2 = 0 → is_lp (SO t (tgc c))) : (c % 2 = 1 → fnl b (sp_z t) c = nI (5 * ID t (tgc c) + 3)) ∧ (c % 2 = 0 → ∃ e, lpE t (tgc c) = some e ∧ e ∈ KI t (tgc c) ∧ ¬ stS (SO t e) ∧ fnl b (sp_z t) c = nI (5 * ID t e + 0)) := by
  have hN := CU_N h
  have hid := ID_st h.1.2.2 hg hst
  have mul5 : ∀ k, k < 1000 → (5 : Int32) * nI k + 0 = nI (5 * k + 0) := fun k hk => pnt (p := k) (k := 0)
  refine ⟨fun c1 => ?_, fun c1 => ?_⟩
  · unfold fnl
    rw [if_neg (by omega), if_pos c1, hid]
  · unfold fnl
    rw [if_neg (by omega), if_neg (by omega)]
    have hlp := hl c1
    unfold is_lp at hlp
    have rch := fun k => rch_E hr hg k
    rw [hid] at rch
    have is : ∀ s, s < 256 → (b r_sort (tgc c) = nI s ↔ SO t (tgc c) = s) := fun s hs => by
      have := RU_is hr hg hs
      rw [hid] at this
      exact this
    generalize tgc c = g at *
    rcases hlp with c2 | c2 | c2
    · obtain ⟨e, s, hK, g1, g2⟩ := ks_87 h.1.2.1 hg c2
      have le := kid_lt hr hg (show e ∈ KI t g by rw [hK]; simp)
      refine ⟨e, ?_, by rw [hK]; simp, g1, ?_⟩
      · unfold lpE; rw [if_pos c2, hK]; rfl
      · have fE : (KI t g).filter (isE t) = [e] := by rw [hK, List.filter_cons_of_pos (isE_y g1), List.filter_cons_of_neg (isE_n g2), List.filter_nil]
        rw [if_neg (show ¬ b r_sort g = 70 from fun z => by have := (is 70 (by decide)).mp z; omega), rch 0, fE]
        show (5 : Int32) * oI (ID t e + 1) + 0 = _
        rw [oI_s]
        exact mul5 _ (by omega)
    · obtain ⟨s, e, hK, g2, g1⟩ := ks_68 h.1.2.1 hg c2
      have le := kid_lt hr hg (show e ∈ KI t g by rw [hK]; simp)
      refine ⟨e, ?_, by rw [hK]; simp, g1, ?_⟩
      · unfold lpE; rw [if_neg (by omega), hK]; rfl
      · have fE : (KI t g).filter (isE t) = [e] := by rw [hK, List.filter_cons_of_neg (isE_n g2), List.filter_cons_of_pos (isE_y g1), List.filter_nil]
        rw [if_neg (show ¬ b r_sort g = 70 from fun z => by have := (is 70 (by decide)).mp z; omega), rch 0, fE]
        show (5 : Int32) * oI (ID t e + 1) + 0 = _
        rw [oI_s]
        exact mul5 _ (by omega)
    · obtain ⟨e, f, s, hK, ⟨g1, g2⟩, g3⟩ := ks_70 h.1.2.1 hg c2
      have le := kid_lt hr hg (show f ∈ KI t g by rw [hK]; simp)
      refine ⟨f, ?_, by rw [hK]; simp, g2, ?_⟩
      · unfold lpE; rw [if_neg (by omega), hK]; rfl
      · have fE : (KI t g).filter (isE t) = [e, f] := by rw [hK, List.filter_cons_of_pos (isE_y g1), List.filter_cons_of_pos (isE_y g2), List.filter_cons_of_neg (isE_n g3), List.filter_nil]
        rw [if_pos (show b r_sort g = 70 from (is 70 (by decide)).mpr c2), rch 1, fE]
        show (5 : Int32) * oI (ID t f + 1) + 0 = _
        rw [oI_s]
        exact mul5 _ (by omega)
/-- the way of T t on code c -/
theorem way_at {T c : Nat} (h : (T, c) ∈ Wf) : ∃ w, Wf.reverse[w]? = some (T, c) ∧ w < Wf.length ∧ coW Wf c (.inr T) = nI (2100 + w) := by
  obtain ⟨i, h1, h2⟩ := scW_get T c Wf.reverse 0 (List.mem_reverse.mpr h)
  have hl := get_lt h1
  rw [List.length_reverse] at hl
  refine ⟨i, h1, hl, ?_⟩
  show nI (2100 + (scW T c Wf.reverse 0 - 1)) = _
  rw [h2]
  congr 1
  omega
theorem T_cf (h : CU a V t) {T : Nat} (hT : T < sp_z t) (hs : SO t T = 84) : (¬ a c_P_catchFrom T = -1 ↔ hC t T) ∧ (¬ a c_P_finallyFrom T = -1 ↔ hE t T) := by
  have hN := CU_N h
  have hEN := EN_le hT
  obtain ⟨u, v, w, e, ⟨-, -, ez⟩, -, ⟨-, h1, h2⟩, -⟩ := W_T h hT hs
  rw [h1, h2]
  refine ⟨?_, ?_⟩
  · by_cases c : hC t T
    · rw [if_pos c]; exact ⟨fun _ => c, fun _ => nI_ne_m1 (by omega)⟩
    · rw [if_neg c]; exact ⟨fun z => absurd rfl z, fun z => absurd z c⟩
  · by_cases c : hE t T
    · rw [if_pos c]; exact ⟨fun _ => c, fun _ => nI_ne_m1 (by omega)⟩
    · rw [if_neg c]; exact ⟨fun z => absurd rfl z, fun z => absurd z c⟩
/-- the chain of T's around a node of a range stays in the range up to the root -/
theorem rg_TA {root : Int32} {fr to : Nat} {I : Nat → Prop} (h : CU a V t) (hr : RU b V t) (hg : RGE a b t K Wf root fr to I) : ∀ (n i : Nat), i < n → fr ≤ i → i < to → TA a i = 0 ∨ ∃ T, TA a i = T + 1 ∧ (T < i ∧ i < EN t T) ∧ SO t T = 84 ∧ ((fr ≤ T ∧ T < to) ∨ (root = nI T ∧ a c_P_tryPart i = 2))
  | 0, _, h, _, _ => by omega
  | n + 1, i, hn, h1, h2 => by
    have hN := CU_N h
    have hcl := rg_cl h hg
    have hi : i < sp_z t := by omega
    rcases rg_par h hg ⟨h1, h2⟩ with ⟨hp, -⟩ | ⟨q, hp, hq⟩
    · left
      have := (ta_0 h hi hp).1
      show dO (a c_P_tryAround i) = 0
      rw [this]; rfl
    · have hps := PA_sub hi hp
      by_cases c : SO t q = 84
      · obtain ⟨t1, t2, t3⟩ := ta_T h hr hi hp c
        refine Or.inr ⟨q, ?_, ⟨hps.1, hps.2.1⟩, c, ?_⟩
        · show dO (a c_P_tryAround i) = q + 1
          rw [t1, ← oI_s, dO_oI (by omega)]
        · rcases hq with hq | ⟨q1, q2, q3, q4, q5⟩
          · exact Or.inl hq
          · refine Or.inr ⟨q1, ?_⟩
            have hst : stS (SO t i) := ks_84 h.1.2.1 (by omega) c i ((KI_mem (by omega) hi).mp hp)
            obtain ⟨u, v, w, e, g⟩ := ((RU_pt hr hi hst).2 q hp).2 c
            have hEN := EN_le (t := t) (i := q) (by omega)
            obtain ⟨u', v', w', e', e1, e2⟩ := rg_T h (ρ := q) (fr := fr) (by omega) c q3 q4 (by omega)
            rw [e] at e'
            cases e'
            rw [t2, ID_st h.1.2.2 hi hst]
            rcases g with ⟨g, -⟩ | ⟨g, -⟩ | ⟨-, g⟩
            · omega
            · omega
            · exact g
      · obtain ⟨t1, t2⟩ := ta_k h hi hp c
        have eT : TA a i = TA a q := by show dO (a c_P_tryAround i) = dO (a c_P_tryAround q); rw [t1]
        rw [eT, t2]
        rcases hq with hq | ⟨-, q2, -⟩
        · rcases rg_TA h hr hg n q (by omega) hq.1 hq.2 with g | ⟨T, g1, g2, g3, g4⟩
          · exact Or.inl g
          · exact Or.inr ⟨T, g1, ⟨by omega, PA_out (i := T) (by omega) hi hp (by omega) g2.2⟩, g3, g4⟩
        · exact absurd q2 c
end PHA
