/-! the VARIABLES there -/
def scV (V : Nat) (sc : sc_T) : Prop := ∀ e ∈ sc, e.2 < V
theorem scV_A {V : Nat} {sc : sc_T} (h : scV V sc) : ∀ x : Std.Format, (∀ c y, (c, y) ∈ cxL x → (sp_s c = 36 ∨ sp_s c = 37) → sp_pl c % 16 - 1 < V) → scV V (scA sc x)
  | .tag c x, hc => by
    show scV V (if sp_s c = 36 ∨ sp_s c = 37 then (sp_pl c / 16, sp_pl c % 16 - 1) :: sc else sc)
    by_cases e : sp_s c = 36 ∨ sp_s c = 37
    · rw [if_pos e]
      intro q hq
      rcases List.mem_cons.mp hq with rfl | hq
      · exact hc c x List.mem_cons_self e
      · exact h q hq
    · rw [if_neg e]; exact h
  | .append x y, _ => h
  | .nil, _ => h
  | .line, _ => h
  | .align _, _ => h
  | .text _, _ => h
  | .nest _ _, _ => h
  | .group _ _, _ => h
def MSV (V : Nat) (t : Std.Format) : Prop := (∀ c y, (c, y) ∈ cxL t → (sp_s c = 36 ∨ sp_s c = 37) → sp_pl c % 16 - 1 < V) → ∀ (b rb o oi pt : Nat) (sc : sc_T) (d : Nat), scV V sc → ∀ R ∈ nL t b rb o oi pt sc d, scV V (nsc R)
theorem nL_scV {V : Nat} {t : Std.Format} (ht : fT V t) : MSV V t := by
  have cs : ∀ {c : Nat} {x : Std.Format} {p : Nat × Std.Format}, p ∈ cxL x → p ∈ cxL (.tag c x) := fun h => List.mem_cons_of_mem _ h
  have ca : ∀ {x y : Std.Format} {p : Nat × Std.Format}, p ∈ cxL x → p ∈ cxL (.append x y) := fun h => List.mem_append_left _ h
  have cb : ∀ {x y : Std.Format} {p : Nat × Std.Format}, p ∈ cxL y → p ∈ cxL (.append x y) := fun h => List.mem_append_right _ h
  refine fT_ind (V := V) (M := MSV V) ?_ ?_ ?_ ?_ ?_ ?_ ?_ _ t (Nat.lt_succ_self _) ht
  · intro x y hx hy hc b rb o oi pt sc d hs R hR
    rw [nL_a] at hR
    rcases List.mem_append.mp hR with hR | hR
    · exact hx (fun c z hz => hc c z (ca hz)) _ _ _ _ _ _ _ hs R hR
    · exact hy (fun c z hz => hc c z (cb hz)) _ _ _ _ _ _ _ (scV_A hs x (fun c z hz => hc c z (ca hz))) R hR
  · intro hc b rb o oi pt sc d hs R hR; exact absurd hR List.not_mem_nil
  · intro hc b rb o oi pt sc d hs R hR; exact absurd hR List.not_mem_nil
  · intro c x h1 h2 hx hc b rb o oi pt sc d hs R hR
    rw [nL_S h1 h2] at hR
    rcases List.mem_cons.mp hR with rfl | hR
    · exact hs
    · exact hx (fun c z hz => hc c z (cs hz)) _ _ _ _ _ _ _ hs R hR
  · intro c u v w h1 _ hu hv hw hc b rb o oi pt sc d hs R hR
    rw [nL_84 h1] at hR
    rcases List.mem_cons.mp hR with rfl | hR
    · exact hs
    rcases List.mem_append.mp hR with hR | hR
    · exact hu (fun c z hz => hc c z (cs (ca hz))) _ _ _ _ _ _ _ hs R hR
    rcases List.mem_append.mp hR with hR | hR
    · exact hv (fun c z hz => hc c z (cs (cb (ca hz)))) _ _ _ _ _ _ _ hs R hR
    · exact hw (fun c z hz => hc c z (cs (cb (cb hz)))) _ _ _ _ _ _ _ hs R hR
  · intro c u v h1 _ hu hv hc b rb o oi pt sc d hs R hR
    rw [nL_e2 h1] at hR
    rcases List.mem_cons.mp hR with rfl | hR
    · exact hs
    rcases List.mem_append.mp hR with hR | hR
    · exact hu (fun c z hz => hc c z (cs (ca hz))) _ _ _ _ _ _ _ hs R hR
    · exact hv (fun c z hz => hc c z (cs (cb hz))) _ _ _ _ _ _ _ hs R hR
  · intro c x h1 _ h2 hx hc b rb o oi pt sc d hs R hR
    rw [nL_e1 h1 h2] at hR
    rcases List.mem_cons.mp hR with rfl | hR
    · exact hs
    · exact hx (fun c z hz => hc c z (cs hz)) _ _ _ _ _ _ _ hs R hR
theorem thOf_lt {V : Nat} (hV : V ≤ 12) : ∀ (sc : sc_T), scV V sc → ∀ k, k < 32 → ti (thOf sc) k = true → k < V
  | [], _, k, _, h => by
    rw [show thOf [] = 0 from rfl, ti_0] at h
    exact Bool.noConfusion h
  | (u, v) :: r, hs, k, hk, h => by
    have hv : v < V := hs (u, v) List.mem_cons_self
    rw [show thOf ((u, v) :: r) = thOf r ||| (1 <<< (nI v &&& 31)) from rfl, ti_or, ti_shl (by omega) hk, Bool.or_eq_true, decide_eq_true_eq] at h
    rcases h with h | h
    · exact thOf_lt hV r (fun e he => hs e (List.mem_cons_of_mem _ he)) k hk h
    · omega
section FC3
variable {a b : Nat → Nat → Int32} {V : Nat} {t : Std.Format} {f : Nat → Int64}
theorem stI_S (h : CU a V t) {j : Nat} (hj : j < sp_z t) : stI (a c_P_sort j) ↔ stS (SO t j) := by
  have is := fun (s : Nat) (hs : s < 256) => CU_is h hj hs
  constructor
  · intro e
    unfold stS
    rcases e with e | e | e | e | e | e | e | e | e | e | e | e | e | e | e
    · have := (is 36 (by decide)).mp e; omega
    · have := (is 37 (by decide)).mp e; omega
    · have := (is 58 (by decide)).mp e; omega
    · have := (is 59 (by decide)).mp e; omega
    · have := (is 66 (by decide)).mp e; omega
    · have := (is 67 (by decide)).mp e; omega
    · have := (is 68 (by decide)).mp e; omega
    · have := (is 70 (by decide)).mp e; omega
    · have := (is 73 (by decide)).mp e; omega
    · have := (is 82 (by decide)).mp e; omega
    · have := (is 83 (by decide)).mp e; omega
    · have := (is 84 (by decide)).mp e; omega
    · have := (is 87 (by decide)).mp e; omega
    · have := (is 88 (by decide)).mp e; omega
    · have := (is 123 (by decide)).mp e; omega
  · intro e
    rw [CU_sort h hj]
    rcases e with e | e | e | e | e | e | e | e | e | e | e | e | e | e | e <;> rw [e] <;> unfold stI <;> decide
/-- the records of a node, both sides -/
theorem recs (hC : CU a V t) (hU : RU b V t) {j : Nat} (hj : j < sp_z t) : ∃ R, (unitL t)[j]? = some R ∧ (nc R = CO t j ∧ nid R = ID t j) ∧ cRow a V j R ∧ rRow b V R ∧ scV V (nsc R) := by
  have ht := hC.1.2.2
  obtain ⟨R, hR⟩ := UN_some ht hj
  have g := UN_get ht hR
  refine ⟨R, hR, ⟨g.2.1.1.1, g.2.1.2⟩, hC.2.1.1 j R hR, (hU.2 j R hR).1, ?_⟩
  refine nL_scV ht (fun c y hm e => ?_) 0 0 0 0 0 [] 0 (fun e he => nomatch he) R (List.mem_of_getElem? hR)
  obtain ⟨i, hi⟩ := mem_get hm
  have li : i < sp_z t := by
    have := (List.getElem?_eq_some_iff.mp hi).1
    rw [← nL_cx ht 0 0 0 0 0 [] 0, List.length_map, nL_len ht] at this
    exact this
  have ec := CX_eq hi
  have s1 : SO t i = 36 ∨ SO t i = 37 := by unfold SO; rw [ec.1]; exact e
  have hst : stS (SO t i) := by unfold stS; omega
  have r := (row_S hC li hst).2.2.1 s1
  rw [ec.1] at r
  omega
theorem there_eq (hC : CU a V t) (hU : RU b V t) {j : Nat} (hj : j < sp_z t) : (a c_P_there j = b r_thereBefore (ID t j) ∧ ∀ k, k < 32 → ti (a c_P_there j) k = true → k < V) ∧ (taV a j = b r_thereAfter (ID t j) ∧ ∀ k, k < 32 → ti (taV a j) k = true → k < V) := by
  have hV := hC.1.1.2
  obtain ⟨R, hR, ⟨e1, e2⟩, hc, hr, hs⟩ := recs hC hU hj
  have lt := thOf_lt hV _ hs
  have is := fun (s : Nat) (hs : s < 256) => CU_is hC hj hs
  unfold cRow at hc
  unfold rRow at hr
  rw [e1] at hc hr
  rw [e2] at hr
  by_cases st : stS (sp_s (CO t j))
  · rw [if_pos st] at hc hr
    have t1 : a c_P_there j = thOf (nsc R) := hc.1.1.1.2.1.1
    have t2 : b r_thereBefore (ID t j) = thOf (nsc R) := hr.1.1.2.2.1
    refine ⟨⟨t1.trans t2.symm, by rw [t1]; exact lt⟩, ?_⟩
    unfold taV
    by_cases c : sp_s (CO t j) = 36 ∨ sp_s (CO t j) = 37
    · have c' : a c_P_sort j = 36 ∨ a c_P_sort j = 37 := c.imp (is 36 (by decide)).mpr (is 37 (by decide)).mpr
      rw [if_pos c']
      have k1 := hc.1.1.2.1 c
      have k2 := (hr.1.2.1 c).2.1.2
      have e : a c_P_there j ||| (1 <<< (a c_P_named j &&& 31)) = thOf ((sp_pl (CO t j) / 16, sp_pl (CO t j) % 16 - 1) :: nsc R) := by
        rw [t1, k1.2.1]
        rfl
      refine ⟨e.trans k2.symm, ?_⟩
      rw [e]
      refine thOf_lt hV _ (fun q hq => ?_)
      rcases List.mem_cons.mp hq with rfl | hq
      · have := k1.1
        show sp_pl (CO t j) % 16 - 1 < V
        omega
      · exact hs q hq
    · have c' : ¬ (a c_P_sort j = 36 ∨ a c_P_sort j = 37) := fun u => c (u.imp (is 36 (by decide)).mp (is 37 (by decide)).mp)
      rw [if_neg c']
      have k2 := (hr.1.2.2.1 c).2
      exact ⟨t1.trans k2.symm, by rw [t1]; exact lt⟩
  · rw [if_neg st] at hc hr
    have t1 : a c_P_there j = thOf (nsc R) := hc.2.1.1
    have c' : ¬ (a c_P_sort j = 36 ∨ a c_P_sort j = 37) := fun u => st (by
      rcases u with u | u
      · have : sp_s (CO t j) = 36 := (is 36 (by decide)).mp u
        rw [this]; decide
      · have : sp_s (CO t j) = 37 := (is 37 (by decide)).mp u
        rw [this]; decide)
    refine ⟨⟨t1.trans hr.2.1.symm, by rw [t1]; exact lt⟩, ?_⟩
    unfold taV
    rw [if_neg c']
    exact ⟨t1.trans hr.2.2.symm, by rw [t1]; exact lt⟩
theorem k_cases {k : Int32} (h : 0 ≤ k ∧ k ≤ 3) : k = 0 ∨ k = 1 ∨ k = 2 ∨ k = 3 := by
  obtain ⟨n, hn, rfl⟩ := nI_of (show ¬ k < 0 from Int32.not_lt.mpr h.1)
  have h2 := h.2
  rw [show (3 : Int32) = nI 3 from rfl, nI_leI hn (by omega)] at h2
  obtain rfl | rfl | rfl | rfl : n = 0 ∨ n = 1 ∨ n = 2 ∨ n = 3 := by omega
  · exact Or.inl rfl
  · exact Or.inr (Or.inl rfl)
  · exact Or.inr (Or.inr (Or.inl rfl))
  · exact Or.inr (Or.inr (Or.inr rfl))
/-- fact: the same answer -/
theorem fact_eq (h : SameU a b V t f) {j : Nat} (hj : j < sp_z t) (k y : Int32) : ((0 ≤ k ∧ k ≤ 3) ∧ (0 ≤ y ∧ y ≤ 2) ∧ ¬ (1 < k ∧ ¬ b r_isStmt (ID t j) = 0) → fcV a f j k y = fcR b V (ID t j) k y) ∧ (¬ ((0 ≤ k ∧ k ≤ 3) ∧ (0 ≤ y ∧ y ≤ 2) ∧ ¬ (1 < k ∧ ¬ b r_isStmt (ID t j) = 0)) → fcV a f j k y = -2) := by
  have hC := h.2.1.1.1
  have hU := h.2.2.1
  have hV := hC.1.1.2
  have iS := isS_1 hU hj
  have sI := stI_S hC hj
  have le : ∀ k : Int32, k < 0 ∨ 3 < k ↔ ¬ (0 ≤ k ∧ k ≤ 3) := fun k => by
    rw [Classical.not_and_iff_not_or_not, Int32.not_le, Int32.not_le]
  constructor
  · rintro ⟨hk, hy, hs⟩
    have kc := k_cases hk
    have hk' : k = 0 ∨ k = 1 ∨ ((k = 2 ∨ k = 3) ∧ ¬ stS (SO t j)) := by
      rcases kc with e | e | e | e
      · exact Or.inl e
      · exact Or.inr (Or.inl e)
      · refine Or.inr (Or.inr ⟨Or.inl e, fun u => hs ⟨by rw [e]; decide, iS.mpr u⟩⟩)
      · refine Or.inr (Or.inr ⟨Or.inr e, fun u => hs ⟨by rw [e]; decide, iS.mpr u⟩⟩)
    unfold fcV
    rw [if_neg (fun u => (le k).mp u hk), if_neg (fun u => by
      have s := sI.mp u.2
      rcases hk' with e | e | e
      · rw [e] at u; exact absurd u.1 (by decide)
      · rw [e] at u; exact absurd u.1 (by decide)
      · exact e.2 s)]
    have th := there_eq hC hU hj
    have eth : (if k = 0 then a c_P_there j else taV a j) = (if k = 0 then b r_thereBefore (ID t j) else b r_thereAfter (ID t j)) := by
      by_cases e : k = 0
      · rw [if_pos e, if_pos e]; exact th.1.1
      · rw [if_neg e, if_neg e]; exact th.2.1
    have lth : ∀ i, i < 32 → ti (if k = 0 then a c_P_there j else taV a j) i = true → i < V := by
      by_cases e : k = 0
      · rw [if_pos e]; exact th.1.2
      · rw [if_neg e]; exact th.2.2
    have hS : ∀ v, v < V → two (svR b v (ID t j) k) (stF f j k) v := fun v hv => sv_v h hv hj hk'
    have hr := sv_r h hj hk'
    unfold fcW fcR
    obtain ⟨n, hn, rfl⟩ := nI_of (show ¬ y < 0 from Int32.not_lt.mpr hy.1)
    have h2 := hy.2
    rw [show (2 : Int32) = nI 2 from rfl, nI_leI hn (by omega)] at h2
    obtain rfl | rfl | rfl : n = 0 ∨ n = 1 ∨ n = 2 := by omega
    · rw [if_pos (show nI 0 = 0 from rfl), if_pos (show nI 0 = 0 from rfl)]
      by_cases c : rch (stF f j k)
      · rw [if_pos c, if_neg (fun u => hr.mp u c)]
      · rw [if_neg c, if_pos (hr.mpr c)]
    · rw [if_neg (show ¬ nI 1 = 0 by decide), if_neg (show ¬ nI 1 = 0 by decide), if_pos (show nI 1 = 1 from rfl), if_pos (show nI 1 = 1 from rfl), ← eth]
      exact fs_u hV hS lth
    · rw [if_neg (show ¬ nI 2 = 0 by decide), if_neg (show ¬ nI 2 = 0 by decide), if_neg (show ¬ nI 2 = 1 by decide), if_neg (show ¬ nI 2 = 1 by decide), if_pos (show nI 2 = 2 from rfl), ← eth]
      exact fs_a hV hS lth
  · intro n
    unfold fcV
    by_cases hk : 0 ≤ k ∧ k ≤ 3
    · rw [if_neg (fun u => (le k).mp u hk)]
      by_cases hs : 2 ≤ k ∧ stI (a c_P_sort j)
      · rw [if_pos hs]
      · rw [if_neg hs]
        have hs' : ¬ (1 < k ∧ ¬ b r_isStmt (ID t j) = 0) := fun u => hs ⟨by
          rcases k_cases hk with e | e | e | e
          · rw [e] at u; exact absurd u.1 (by decide)
          · rw [e] at u; exact absurd u.1 (by decide)
          · rw [e]; decide
          · rw [e]; decide, sI.mpr (iS.mp u.2)⟩
        have hy : ¬ (0 ≤ y ∧ y ≤ 2) := fun u => n ⟨hk, u, hs'⟩
        unfold fcW
        rw [if_neg (fun e => hy (by rw [e]; decide)), if_neg (fun e => hy (by rw [e]; decide)), if_neg (fun e => hy (by rw [e]; decide))]
    · rw [if_pos ((le k).mpr hk)]
end FC3
