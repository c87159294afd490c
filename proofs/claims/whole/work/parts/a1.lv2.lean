abbrev TA (a : Nat → Nat → Int32) (i : Nat) : Nat := dO (a c_P_tryAround i)
section TAF
variable {a b : Nat → Nat → Int32} {V : Nat} {t : Std.Format}
theorem ta_0 (h : CU a V t) {i : Nat} (hi : i < sp_z t) (hp : PA t i = 0) : a c_P_tryAround i = -1 ∧ a c_P_tryPart i = -1 := by
  obtain ⟨j, hj⟩ := mem_get ((RT_mem hi).mp hp)
  exact (h.2.1.2.1 j i hj).2
theorem ta_k (h : CU a V t) {i q : Nat} (hi : i < sp_z t) (hp : PA t i = q + 1) (hs : ¬ SO t q = 84) : a c_P_tryAround i = a c_P_tryAround q ∧ a c_P_tryPart i = a c_P_tryPart q := by
  have hq := PA_sub hi hp
  obtain ⟨j, hj⟩ := mem_get ((KI_mem (i := q) (by omega) hi).mp hp)
  exact (h.2.1.2.2.1 q (by omega) hs j i hj).2
theorem ta_T (h : CU a V t) (hr : RU b V t) {i q : Nat} (hi : i < sp_z t) (hp : PA t i = q + 1) (hs : SO t q = 84) : a c_P_tryAround i = nI q ∧ a c_P_tryPart i = b r_part (ID t i) ∧ (a c_P_tryPart i = 0 ∨ a c_P_tryPart i = 1 ∨ a c_P_tryPart i = 2) := by
  have hq := PA_sub hi hp
  have hm := (KI_mem (i := q) (by omega) hi).mp hp
  have hst := ks_84 h.1.2.1 (by omega) hs i hm
  obtain ⟨u, v, w, e, k1, k2, k3⟩ := h.2.1.2.2.2 q (by omega) hs
  obtain ⟨u', v', w', e', g⟩ := ((RU_pt hr hi hst).2 q hp).2 hs
  rw [e] at e'
  cases e'
  rw [ID_st h.1.2.2 hi hst]
  have hm : i ∈ rtL (XI t q) (q + 1) := hm
  rw [e] at hm
  have hm : i ∈ rtL u (q + 1) ++ (rtL v (q + 1 + sp_z u) ++ rtL w (q + 1 + sp_z u + sp_z v)) := hm
  rcases List.mem_append.mp hm with hm | hm
  · have h1 := k1 i hm
    have h2 := rt_in _ _ _ hm
    refine ⟨h1.2.1, ?_, Or.inl h1.2.2⟩
    rcases g with ⟨-, g⟩ | ⟨g, -⟩ | ⟨g, -⟩
    · rw [h1.2.2, g]
    · omega
    · omega
  · rcases List.mem_append.mp hm with hm | hm
    · have h1 := k2 i hm
      have h2 := rt_in _ _ _ hm
      refine ⟨h1.2.1, ?_, Or.inr (Or.inl h1.2.2)⟩
      rcases g with ⟨g, -⟩ | ⟨-, g⟩ | ⟨g, -⟩
      · omega
      · rw [h1.2.2, g]
      · omega
    · have h1 := k3 i hm
      have h2 := rt_in _ _ _ hm
      refine ⟨h1.2.1, ?_, Or.inr (Or.inr h1.2.2)⟩
      rcases g with ⟨g, -⟩ | ⟨g, -⟩ | ⟨-, g⟩
      · omega
      · omega
      · rw [h1.2.2, g]
/-- the nearest T around -/
theorem TA_in (h : CU a V t) : ∀ (n i : Nat), i < n → i < sp_z t → (TA a i = 0 ∧ a c_P_tryAround i = -1) ∨ ∃ T, TA a i = T + 1 ∧ a c_P_tryAround i = nI T ∧ (T < i ∧ i < EN t T) ∧ SO t T = 84
  | 0, _, h, _ => by omega
  | n + 1, i, hn, hi => by
    have hN := CU_N h
    cases hp : PA t i with
    | zero =>
      have := (ta_0 h hi hp).1
      refine Or.inl ⟨?_, this⟩
      show dO (a c_P_tryAround i) = 0
      rw [this]; rfl
    | succ q =>
      have hq := PA_sub hi hp
      by_cases c : SO t q = 84
      · obtain ⟨u, v, w, e, k1, k2, k3⟩ := h.2.1.2.2.2 q (by omega) c
        have hm := (KI_mem (i := q) (by omega) hi).mp hp
        have hm : i ∈ rtL (XI t q) (q + 1) := hm
        rw [e] at hm
        have hm : i ∈ rtL u (q + 1) ++ (rtL v (q + 1 + sp_z u) ++ rtL w (q + 1 + sp_z u + sp_z v)) := hm
        have key : a c_P_tryAround i = nI q := by
          rcases List.mem_append.mp hm with hm | hm
          · exact (k1 i hm).2.1
          · rcases List.mem_append.mp hm with hm | hm
            · exact (k2 i hm).2.1
            · exact (k3 i hm).2.1
        refine Or.inr ⟨q, ?_, key, ⟨hq.1, hq.2.1⟩, c⟩
        show dO (a c_P_tryAround i) = q + 1
        rw [key, ← oI_s, dO_oI (by omega)]
      · have e := (ta_k h hi hp c).1
        have e2 : TA a i = TA a q := by show dO (a c_P_tryAround i) = dO (a c_P_tryAround q); rw [e]
        rw [e2, e]
        rcases TA_in h n q (by omega) (by omega) with g | ⟨T, g1, g2, g3, g4⟩
        · exact Or.inl g
        · refine Or.inr ⟨T, g1, g2, ⟨by omega, ?_⟩, g4⟩
          exact PA_out (i := T) (by omega) hi hp (by omega) g3.2
theorem TA_le (h : CU a V t) {i : Nat} (hi : i < sp_z t) : TA a i ≤ i := by
  rcases TA_in h _ i (Nat.lt_succ_self _) hi with g | ⟨T, g1, -, g3, -⟩
  · omega
  · omega
abbrev tgc (c : Nat) : Nat := (c - 3) / 2
/-- where a leaving walk goes in the end -/
def fnl (b : Nat → Nat → Int32) (N c : Nat) : Int32 := if c ≤ 2 then -1 else if c % 2 = 1 then nI (5 * tgc c + 3) else 5 * oI (rchG b (nI (tgc c)) 0 N 0 (if b r_sort (tgc c) = 70 then 1 else 0)) + 0
def lvT (a : Nat → Nat → Int32) (t : Std.Format) (F : Int32) (c : Nat) : Nat → Nat → Int32 → Int32 ⊕ Nat
  | 0, _, _ => .inl F
  | k + 1, T, pt =>
    if T = 0 ∨ (2 < c ∧ T - 1 < tgc c) then .inl F
    else if c = 2 ∧ pt = 0 ∧ hC t (T - 1) then .inl (nI (1301 + 3 * (T - 1)))
    else if hE t (T - 1) ∧ ¬ pt = 2 then .inr (T - 1)
    else lvT a t F c k (TA a (T - 1)) (a c_P_tryPart (T - 1))
theorem lvT_0 {F : Int32} {c k : Nat} {pt : Int32} : lvT a t F c k 0 pt = .inl F := by
  cases k with
  | zero => rfl
  | succ k => unfold lvT; rw [if_pos (Or.inl rfl)]
/-- what a code's target must be -/
def cdOK (t : Std.Format) (c i : Nat) : Prop := 2 < c → (tgc c < i ∧ i < EN t (tgc c)) ∧ stS (SO t (tgc c)) ∧ ¬ SO t (tgc c) = 84
theorem hCE (hr : RU b V t) {q : Nat} (hq : q < sp_z t) (hs : SO t q = 84) : (¬ b r_hasCatch q = 0 ↔ hC t q) ∧ (¬ b r_hasEnd q = 0 ↔ hE t q) := by
  have hst : stS (SO t q) := by rw [hs]; unfold stS; omega
  obtain ⟨hc, he⟩ := (RU_S hr hq hst).2.2.1 hs
  obtain ⟨cx, hsw, -⟩ := (SH_all hr.1.2.1 hq).1 hst
  obtain ⟨hp, -⟩ := (sW_84 hs).mp hsw
  rw [hc, he]
  refine ⟨?_, ?_⟩
  · have : sp_pl (CO t q) % 2 = 0 ∨ sp_pl (CO t q) % 2 = 1 := by omega
    rcases this with z | z
    · rw [z]; exact ⟨fun u => absurd rfl u, fun u => by have u : sp_pl (CO t q) % 2 = 1 := u; omega⟩
    · rw [z]; exact ⟨fun _ => z, fun _ => by decide⟩
  · have : sp_pl (CO t q) / 2 = 0 ∨ sp_pl (CO t q) / 2 = 1 := by omega
    rcases this with z | z
    · rw [z]; exact ⟨fun u => absurd rfl u, fun u => by have u : sp_pl (CO t q) / 2 = 1 := u; omega⟩
    · rw [z]; exact ⟨fun _ => z, fun _ => by decide⟩
theorem lvA_eq (h : CU a V t) (hr : RU b V t) {c : Nat} : ∀ (k i K' : Nat), i < sp_z t → lnA b k (b r_around (ID t i)) → cdOK t c i → TA a i ≤ K' → lvA b (sp_z t) c k (ID t i) (b r_around (ID t i)) = lvT a t (fnl b (sp_z t) c) c K' (TA a i) (a c_P_tryPart i)
  | 0, i, K', hi, hk, hc, hK => by
    have hk : b r_around (ID t i) = -1 := hk
    have hp := (RU_rt hr hi).mp hk
    have h2 := ta_0 h hi hp
    have e : TA a i = 0 := by show dO (a c_P_tryAround i) = 0; rw [h2.1]; rfl
    rw [e, lvT_0]
    have : c ≤ 2 := by
      apply Classical.byContradiction
      intro n
      have := (hc (by omega)).1
      have := PA_in (t := t) (i := tgc c) (r := i) (by omega) this.1 this.2
      omega
    unfold fnl
    rw [if_pos this]
    rfl
  | k + 1, i, K', hi, hk, hc, hK => by
    have hN := CU_N h
    obtain ⟨p, ⟨hp1, hp2⟩, hk2⟩ := hk
    cases hp : PA t i with
    | zero =>
      rw [(RU_rt hr hi).mpr hp] at hp1
      exact absurd hp1.symm (nI_ne_m1 (by omega))
    | succ q =>
      have hq := PA_sub hi hp
      have hqN : q < sp_z t := by omega
      have hpe := (RU_kid hr hi hqN).mpr hp
      have hlq := ID_lt hqN
      have e0 : p = ID t q := by
        rw [hpe, nI_eq (by omega) (by omega)] at hp1
        exact hp1.symm
      subst e0
      have ed : dN (b r_around (ID t i)) = ID t q := by rw [hpe]; exact nI_clamp (by omega)
      have tgq : 2 < c → tgc c ≤ q := fun hc2 => by
        have := (hc hc2).1
        have := PA_in (t := t) (i := tgc c) (r := i) (by omega) this.1 this.2
        omega
      have cdq : (2 < c → ¬ tgc c = q) → cdOK t c q := fun n hc2 => by
        have h1 := hc hc2
        have h2 := tgq hc2
        have h3 := n hc2
        exact ⟨⟨by omega, by omega⟩, h1.2⟩
      unfold lvA
      rw [ed]
      by_cases c84 : SO t q = 84
      · have hst : stS (SO t q) := by rw [c84]; unfold stS; omega
        have hid := ID_st h.1.2.2 hqN hst
        obtain ⟨t1, t2, t3⟩ := ta_T h hr hi hp c84
        obtain ⟨x1, x2⟩ := hCE hr hqN c84
        have s84 : b r_sort (ID t q) = 84 := (RU_is hr hqN (s := 84) (by decide)).mpr c84
        have eT : TA a i = q + 1 := by
          show dO (a c_P_tryAround i) = q + 1
          rw [t1, ← oI_s, dO_oI (by omega)]
        obtain ⟨K2, rfl⟩ : ∃ K2, K' = K2 + 1 := ⟨K' - 1, by omega⟩
        have ntg : ¬ (2 < c ∧ q = tgc c) := fun u => (hc u.1).2.2 (by rw [← u.2]; exact c84)
        have hlt : b r_part (ID t i) < 2 ↔ ¬ b r_part (ID t i) = 2 := by
          rw [← t2]
          rcases t3 with z | z | z <;> rw [z] <;> decide
        rw [eT]
        unfold lvT
        rw [if_neg (show ¬ (q + 1 = 0 ∨ (2 < c ∧ q + 1 - 1 < tgc c)) from fun u => by
          rcases u with u | u
          · omega
          · have := tgq u.1; omega), Nat.add_sub_cancel, t2]
        rw [hid] at s84 ⊢
        by_cases c1 : c = 2 ∧ b r_part (ID t i) = 0 ∧ hC t q
        · rw [if_pos c1, if_pos ⟨s84, c1.1, c1.2.1, x1.mpr c1.2.2⟩]
        · rw [if_neg c1, if_neg (fun u => c1 ⟨u.2.1, u.2.2.1, x1.mp u.2.2.2⟩)]
          by_cases c2 : hE t q ∧ ¬ b r_part (ID t i) = 2
          · rw [if_pos c2, if_pos ⟨s84, x2.mpr c2.1, hlt.mpr c2.2⟩]
          · rw [if_neg c2, if_neg (fun u => c2 ⟨x2.mp u.2.1, hlt.mp u.2.2⟩), if_neg ntg]
            have ih := lvA_eq h hr (c := c) k q K2 hqN (by rw [hid] at hk2 ⊢; exact hk2) (cdq (fun u1 u2 => ntg ⟨u1, u2.symm⟩)) (by have := TA_le h hqN; omega)
            rw [hid] at ih
            exact ih
      · have n84 : ¬ b r_sort (ID t q) = 84 := fun u => c84 ((RU_is hr hqN (s := 84) (by decide)).mp u)
        obtain ⟨t1, t2⟩ := ta_k h hi hp c84
        have eT : TA a i = TA a q := by show dO (a c_P_tryAround i) = dO (a c_P_tryAround q); rw [t1]
        rw [if_neg (fun u => n84 u.1), if_neg (fun u => n84 u.1), eT, t2]
        by_cases ct : 2 < c ∧ q = tgc c
        · have hst : stS (SO t q) := by rw [ct.2]; exact (hc ct.1).2.1
          have hid := ID_st h.1.2.2 hqN hst
          rw [hid, if_pos ct]
          have e1 : lvT a t (fnl b (sp_z t) c) c K' (TA a q) (a c_P_tryPart q) = .inl (fnl b (sp_z t) c) := by
            cases K' with
            | zero => rfl
            | succ K2 =>
              unfold lvT
              have := TA_le h hqN
              rw [if_pos (by omega)]
          rw [e1]
          unfold fnl
          rw [if_neg (show ¬ c ≤ 2 by omega), ← ct.2]
        · have nt : ¬ (2 < c ∧ ID t q = (c - 3) / 2) := fun u => ct ⟨u.1, by
            have h1 := hc u.1
            have h2 : tgc c < sp_z t := by omega
            have h3 : ID t (tgc c) = tgc c := ID_st h.1.2.2 h2 h1.2.1
            exact ID_inj hqN h2 (by rw [h3]; exact u.2)⟩
          rw [if_neg nt]
          exact lvA_eq h hr (c := c) k q K' hqN hk2 (cdq (fun u1 u2 => ct ⟨u1, u2.symm⟩)) (by omega)
/-- a T is around -/
theorem trN_eq (h : CU a V t) (hr : RU b V t) : ∀ (k i : Nat), i < sp_z t → lnA b k (b r_around (ID t i)) → (trN b k (b r_around (ID t i)) = 1 ↔ ¬ TA a i = 0)
  | 0, i, hi, hk => by
    have hk : b r_around (ID t i) = -1 := hk
    have hp := (RU_rt hr hi).mp hk
    have h2 := ta_0 h hi hp
    have e : TA a i = 0 := by show dO (a c_P_tryAround i) = 0; rw [h2.1]; rfl
    exact ⟨fun u => absurd (show (0 : Nat) = 1 from u) (by decide), fun u => absurd e u⟩
  | k + 1, i, hi, hk => by
    have hN := CU_N h
    obtain ⟨p, ⟨hp1, hp2⟩, hk2⟩ := hk
    cases hp : PA t i with
    | zero =>
      rw [(RU_rt hr hi).mpr hp] at hp1
      exact absurd hp1.symm (nI_ne_m1 (by omega))
    | succ q =>
      have hq := PA_sub hi hp
      have hqN : q < sp_z t := by omega
      have hpe := (RU_kid hr hi hqN).mpr hp
      have hlq := ID_lt hqN
      have e0 : p = ID t q := by
        rw [hpe, nI_eq (by omega) (by omega)] at hp1
        exact hp1.symm
      subst e0
      have ed : dN (b r_around (ID t i)) = ID t q := by rw [hpe]; exact nI_clamp (by omega)
      unfold trN
      rw [ed]
      by_cases c84 : SO t q = 84
      · have s84 : b r_sort (ID t q) = 84 := (RU_is hr hqN (s := 84) (by decide)).mpr c84
        obtain ⟨t1, -, -⟩ := ta_T h hr hi hp c84
        rw [if_pos s84]
        refine ⟨fun _ u => ?_, fun _ => rfl⟩
        have eT : TA a i = q + 1 := by
          show dO (a c_P_tryAround i) = q + 1
          rw [t1, ← oI_s, dO_oI (by omega)]
        omega
      · have n84 : ¬ b r_sort (ID t q) = 84 := fun u => c84 ((RU_is hr hqN (s := 84) (by decide)).mp u)
        obtain ⟨t1, t2⟩ := ta_k h hi hp c84
        have eT : TA a i = TA a q := by show dO (a c_P_tryAround i) = dO (a c_P_tryAround q); rw [t1]
        rw [if_neg n84, eT]
        exact trN_eq h hr k q hqN hk2
end TAF
