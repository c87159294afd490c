theorem bitE {e k : Nat} (he : e < 4) (hk : k < 2) : (nI e >>> (nI k &&& 31) &&& 1 = 1) ↔ e / 2 ^ k % 2 = 1 := by
  have : ∀ (e : Fin 4) (k : Fin 2), (nI e.1 >>> (nI k.1 &&& 31) &&& 1 = 1) ↔ e.1 / 2 ^ k.1 % 2 = 1 := by decide +kernel
  exact this ⟨e, he⟩ ⟨k, hk⟩
theorem div2b {x : Nat} (h : x < 7300) : nI x / 2 = nI (x / 2) := by
  have : ∀ (i : Fin 73) (j : Fin 100), nI (100 * i.1 + j.1) / 2 = nI ((100 * i.1 + j.1) / 2) := by decide +kernel
  have q := this ⟨x / 100, by omega⟩ ⟨x % 100, by omega⟩
  rw [show 100 * (x / 100) + x % 100 = x by omega] at q
  exact q
theorem rem2b {x : Nat} (h : x < 7300) : nI x - nI x / 2 * 2 = nI (x % 2) := by
  have : ∀ (i : Fin 73) (j : Fin 100), nI (100 * i.1 + j.1) - nI (100 * i.1 + j.1) / 2 * 2 = nI ((100 * i.1 + j.1) % 2) := by decide +kernel
  have q := this ⟨x / 100, by omega⟩ ⟨x % 100, by omega⟩
  rw [show 100 * (x / 100) + x % 100 = x by omega] at q
  exact q
def woJ (o : Int32) (e : Nat) : Nat → Nat → zT → zT
  | 0, _, z => z
  | j + 1, k, z => if o = -1 then z else woJ o e j (k + 1) (if e / 2 ^ k % 2 = 1 then cmF (dN o) k z else z)
theorem woJ_L (o : Int32) (e : Nat) (z : zT) : woJ o e 2 0 z = woL o e z := by
  unfold woJ woL
  by_cases h : o = -1
  · rw [if_pos h, if_pos h]
  · rw [if_neg h, if_neg h]
    unfold woJ
    rw [if_neg h]
    unfold woJ
    rw [Nat.pow_zero, Nat.div_one, Nat.pow_one]
def wY (Y : pv_L) : Prop := Y = [] ∨ (∃ x y, Y = [(5, .int x), (6, .int y)]) ∨ (∃ x y z X, Y = [(5, .int x), (6, .int y), (7, .int z)] ++ X ∧ wX X)
abbrev wkO (v : Int32) (n base : Nat) (w : Int32) (Y : pv_L) : pv_L := [(0, .ref 0), (1, .int v), (2, .ref n), (3, .int (nI base)), (4, .int w)] ++ Y
abbrev wkK (v : Int32) (n base : Nat) (w : Int32) (p b t : Nat) (e k : Int32) : pv_L := [(0, .ref 0), (1, .int v), (2, .ref n), (3, .int (nI base)), (4, .int w), (5, .int (nI p)), (6, .int (nI b)), (7, .int (nI t)), (8, .int e), (9, .int k)]
section RW5
variable {m0 : Nat → Int32} {a0 : Nat → Nat → Int32}
set_option maxRecDepth 100000 in
theorem wk_205 (d : Nat) {N : Nat} {K : Nat → Nat} {E : eL_T} {W : wL_T} {on : Nat → Int32} (hg : grOK m0 a0 N K E W on) {r base n : Nat} (hc : comeOK m0 a0 r base n) (v w : Int32) {p b t e : Nat} (hp : 2100 ≤ p ∧ p < 2100 + W.length) (he : e < 4) (P : pv_R) : ∀ (j k : Nat) (z : zT) (S : pv_S), k + j = 2 → RW m0 a0 r base z.1 z.2 S → invZ (vP N W) z → (∀ S' Y, RW m0 a0 r base (woJ (on (p - 2100)) e j k z).1 (woJ (on (p - 2100)) e j k z).2 S' → wY Y → pv_go rq_T56 3 (pv_call rq_mt (d + 2)) P (0, wkO v n base w Y, [], S')) → pv_go rq_T56 3 (pv_call rq_mt (d + 2)) P (205, wkK v n base w p b t (nI e) (nI k), [], S) := by
  have hV := vP_lt hg.2.2.2.2 hg.2.1.2.2.1 (W := W)
  have hW := hg.2.1.2.2.1
  have es : nI p - 2100 = nI (p - 2100) := nI_subn (k := 2100) hp.1
  have i1 : vp_in (nI p - 2100) 1500 := by rw [es]; exact vp_in_nI (by omega) (by decide)
  have c1 : (nI p - 2100).toNatClampNeg = p - 2100 := by rw [es]; exact nI_clamp (by omega)
  have rr := hc.1
  intro j
  induction j with
  | zero =>
    intro k z S hk hS hz h
    have hk : k = 2 := by omega
    subst hk
    have g := h S [(5, .int (nI p)), (6, .int (nI b)), (7, .int (nI t)), (8, .int (nI e)), (9, .int (nI 2))] hS (Or.inr (Or.inr ⟨_, _, _, [(8, .int (nI e)), (9, .int (nI 2))], rfl, Or.inr (Or.inr ⟨_, _, rfl⟩)⟩))
    obtain ⟨m, a, rfl, hR⟩ := hS
    refine pv_run [0] 20 ?_
    exact And.intro (fun _ => g) (fun q => absurd (show (2 : Int32) ≤ nI 2 by decide) q)
  | succ j ih =>
    intro k z S hk hS hz h
    have n2 : ¬ (2 : Int32) ≤ nI k := by
      rw [show (2 : Int32) = nI 2 from rfl, nI_leI (by omega) (by omega)]; omega
    have yY : wY [(5, .int (nI p)), (6, .int (nI b)), (7, .int (nI t)), (8, .int (nI e)), (9, .int (nI k))] := Or.inr (Or.inr ⟨_, _, _, [(8, .int (nI e)), (9, .int (nI k))], rfl, Or.inr (Or.inr ⟨_, _, rfl⟩)⟩)
    have hon := hg.2.2.1
    obtain ⟨m, a, rfl, hR⟩ := hS
    have t1 : a r_wayOn (nI p - 2100).toNatClampNeg = on (p - 2100) := by
      rw [c1, hR.1.2 54 (by omega)]; exact hon.1 _ (by omega)
    unfold woJ at h
    by_cases o : on (p - 2100) = -1
    · rw [if_pos o] at h
      have g := h (rs m a) _ ⟨m, a, rfl, hR⟩ yY
      refine pv_run [0] 30 ?_
      refine And.intro (fun q => absurd q n2) (fun _ => ?_)
      refine And.intro i1 ?_
      exact And.intro (fun _ => g) (fun q => absurd (show a r_wayOn (nI p - 2100).toNatClampNeg = -1 by rw [t1]; exact o) q)
    · rw [if_neg o] at h
      have ho : on (p - 2100) = nI (dN (on (p - 2100))) ∧ vP N W (dN (on (p - 2100))) := (hon.2 _ (by omega)).resolve_left o
      have hcm := cm_inv hV (b := k) hz ho.2 (by omega)
      have aft : ∀ (z' : zT) (S' : pv_S), (if e / 2 ^ k % 2 = 1 then cmF (dN (on (p - 2100))) k z else z) = z' → RW m0 a0 r base z'.1 z'.2 S' → invZ (vP N W) z' → pv_go rq_T56 3 (pv_call rq_mt (d + 2)) P (256, wkK v n base w p b t (nI e) (nI k), [], S') := by
        intro z' S' hz' hS' hi
        rw [hz'] at h
        have g := ih (k + 1) z' S' (by omega) hS' hi h
        obtain ⟨m', a', rfl, hR'⟩ := hS'
        rw [← nI_1] at g
        refine pv_run [205] 20 ?_
        exact g
      have call : e / 2 ^ k % 2 = 1 → pv_call rq_mt (d + 2) rq_m_R_come [.ref 0, .ref n, .int (nI base), .int (a r_wayOn (nI p - 2100).toNatClampNeg), .int (nI k)] (rs m a) (fun o S' => o = none ∧ pv_go rq_T56 3 (pv_call rq_mt (d + 2)) P (256, wkK v n base w p b t (nI e) (nI k), [], S')) := by
        intro hb
        rw [t1, ho.1]
        exact hc.2 (d + 1) z.1 z.2 _ ⟨m, a, rfl, hR⟩ hz.1 hz.2.1 (dN (on (p - 2100))) k (hV _ ho.2) (by omega) _ (fun S' hS' => ⟨rfl, aft _ S' (if_pos hb) hS' hcm.1⟩)
      refine pv_run [0, 256] 40 ?_
      refine And.intro (fun q => absurd q n2) (fun _ => ?_)
      refine And.intro i1 ?_
      refine And.intro (fun q => absurd (t1.symm.trans q) o) (fun _ => ?_)
      refine And.intro (fun q => ?_) (fun q => ?_)
      · have q : nI e >>> (nI k &&& 31) &&& 1 = 1 := q
        rw [bitE he (by omega)] at q
        refine And.intro i1 ?_
        refine pv_call_cm _ _ _ _ _ _ _ ?_ (call q)
        rintro o S' ⟨rfl, hg⟩
        exact hg
      · have q : ¬ nI e >>> (nI k &&& 31) &&& 1 = 1 := q
        rw [bitE he (by omega)] at q
        exact aft z _ (if_neg q) ⟨m, a, rfl, hR⟩ hz
set_option maxRecDepth 100000 in
theorem wk_136 (d : Nat) {N : Nat} {K : Nat → Nat} {E : eL_T} {W : wL_T} {on : Nat → Int32} {en : Nat → Nat → Nat} (hg : grOK m0 a0 N K E W on) (hen : enOK a0 W en) {r base n : Nat} (hc : comeOK m0 a0 r base n) (v w : Int32) {p b : Nat} (hp : p < 3600) (hb : b < 2) (P : pv_R) (z : zT) (S : pv_S) (X : pv_L) (hS : RW m0 a0 r base (edL v p b E z).1 (edL v p b E z).2 S) (hz : invZ (vP N W) (edL v p b E z)) (hX : wX X) (h : ∀ S' Y, RW m0 a0 r base (prF E W on en v p b z).1 (prF E W on en v p b z).2 S' → wY Y → pv_go rq_T56 3 (pv_call rq_mt (d + 2)) P (0, wkO v n base w Y, [], S')) : pv_go rq_T56 3 (pv_call rq_mt (d + 2)) P (136, wkM v n base w p b (-1) X, [], S) := by
  have hV := vP_lt hg.2.2.2.2 hg.2.1.2.2.1 (W := W)
  have hN := hg.2.2.2.2
  have hW := hg.2.1.2.2.1
  have rr := hc.1
  unfold prF at h
  generalize edL v p b E z = y at hS hz h
  have yX : wY ([(5, .int (nI p)), (6, .int (nI b)), (7, .int (-1))] ++ X) := Or.inr (Or.inr ⟨_, _, _, X, rfl, hX⟩)
  obtain ⟨m, a, rfl, hR⟩ := hS
  have e55 : m r_ways = nI W.length := by rw [hR.1.1 55 (by decide)]; exact hg.2.1.1
  by_cases c : 2100 ≤ p ∧ p < 2100 + W.length
  · rw [if_pos c] at h
    obtain ⟨x, hx⟩ : ∃ x, W.reverse[p - 2100]? = some x := ⟨_, List.getElem?_eq_getElem (by rw [List.length_reverse]; omega)⟩
    rw [hx] at h
    have hxW : x ∈ W := List.mem_reverse.mp (List.mem_of_getElem? hx)
    have hxN := hg.2.1.2.2.2 x hxW
    have hxe := hen x hxW b hb
    have es : nI p - 2100 = nI (p - 2100) := nI_subn (k := 2100) c.1
    have i1 : vp_in (nI p - 2100) 1500 := by rw [es]; exact vp_in_nI (by omega) (by decide)
    have c1 : (nI p - 2100).toNatClampNeg = p - 2100 := by rw [es]; exact nI_clamp (by omega)
    have t1 : a r_wayOf (nI p - 2100).toNatClampNeg = nI x.1 := by
      rw [c1, hR.1.2 52 (by omega)]; exact (rowW_get W hg.2.1.2.1 _ _ hx).1
    have vN : vP N W (1301 + 3 * x.1 + 1) := by unfold vP; omega
    have hcm := cm_inv hV (b := b) hz vN hb
    have aft : ∀ (S' : pv_S) (l : Value), RW m0 a0 r base (cmF (1301 + 3 * x.1 + 1) b y).1 (cmF (1301 + 3 * x.1 + 1) b y).2 S' → ∀ X', wX X' → pv_go rq_T56 3 (pv_call rq_mt (d + 2)) P (188, wkM v n base w p b (nI x.1) X', [], S') := by
      intro S' l hS' X' hX'
      have g := wk_205 d hg hc v w (b := b) (t := x.1) c hxe.2 P 2 0 _ S' (by omega) hS' hcm.1 (by rw [woJ_L]; exact h)
      obtain ⟨m', a', rfl, hR'⟩ := hS'
      have e2 : (2 : Int32) * nI x.1 + nI b = nI (2 * x.1 + b) := mul2p
      have i2 : vp_in ((2 : Int32) * nI x.1 + nI b) 520 := by rw [e2]; exact vp_in_nI (by omega) (by decide)
      have t2 : a' r_ended ((2 : Int32) * nI x.1 + nI b).toNatClampNeg = nI (en x.1 b) := by
        rw [e2, nI_clamp (by omega), hR'.1.2 58 (by omega)]; exact hxe.1
      rw [← t2] at g
      rcases hX' with rfl | ⟨x, rfl⟩ | ⟨x, y, rfl⟩
      all_goals
        refine pv_run [205] 30 ?_
        refine And.intro i2 ?_
        exact g
    have call : ∀ X', wX X' → pv_call rq_mt (d + 2) rq_m_R_come [.ref 0, .ref n, .int (nI base), .int ((1301 : Int32) + 3 * a r_wayOf (nI p - 2100).toNatClampNeg + 1), .int (nI b)] (rs m a) (fun o S' => o = none ∧ pv_go rq_T56 3 (pv_call rq_mt (d + 2)) P (188, wkM v n base w p b (a r_wayOf (nI p - 2100).toNatClampNeg) X', [], S')) := by
      intro X' hX'
      rw [t1, show (1301 : Int32) + 3 * nI x.1 + 1 = nI (1301 + 3 * x.1 + 1) from mul3k (k := 1)]
      exact hc.2 (d + 1) y.1 y.2 _ ⟨m, a, rfl, hR⟩ hz.1 hz.2.1 (1301 + 3 * x.1 + 1) b (hV _ vN) hb _ (fun S' hS' => ⟨rfl, aft S' .null hS' X' hX'⟩)
    have n1 : ¬ nI p < 2100 := by rw [show (2100 : Int32) = nI 2100 from rfl, nI_ltI (by omega) (by omega)]; omega
    have n2 : ¬ (2100 : Int32) + m r_ways ≤ nI p := by
      rw [e55, show (2100 : Int32) = nI 2100 from rfl, nI_add, nI_leI (by omega) (by omega)]; omega
    rcases hX with rfl | ⟨x1, rfl⟩ | ⟨x1, y1, rfl⟩
    · refine pv_run [188] 50 ?_
      refine And.intro (fun q => absurd q n1) (fun _ => ?_)
      refine And.intro (fun q => absurd q n2) (fun _ => ?_)
      refine And.intro i1 ?_
      refine pv_call_cm _ _ _ _ _ _ _ ?_ (call [] (Or.inl rfl))
      rintro o S' ⟨rfl, hg⟩
      exact hg
    · refine pv_run [188] 50 ?_
      refine And.intro (fun q => absurd q n1) (fun _ => ?_)
      refine And.intro (fun q => absurd q n2) (fun _ => ?_)
      refine And.intro i1 ?_
      refine pv_call_cm _ _ _ _ _ _ _ ?_ (call [(8, .int x1)] (Or.inr (Or.inl ⟨_, rfl⟩)))
      rintro o S' ⟨rfl, hg⟩
      exact hg
    · refine pv_run [188] 50 ?_
      refine And.intro (fun q => absurd q n1) (fun _ => ?_)
      refine And.intro (fun q => absurd q n2) (fun _ => ?_)
      refine And.intro i1 ?_
      refine pv_call_cm _ _ _ _ _ _ _ ?_ (call [(8, .int x1), (9, .int y1)] (Or.inr (Or.inr ⟨_, _, rfl⟩)))
      rintro o S' ⟨rfl, hg⟩
      exact hg
  · rw [if_neg c] at h
    have g := h (rs m a) _ ⟨m, a, rfl, hR⟩ yX
    rcases hX with rfl | ⟨x1, rfl⟩ | ⟨x1, y1, rfl⟩
    all_goals
      refine pv_run [0] 50 ?_
      refine And.intro (fun _ => g) (fun q => ?_)
      have q : ¬ nI p < 2100 := q
      rw [show (2100 : Int32) = nI 2100 from rfl, nI_ltI (by omega) (by omega)] at q
      refine And.intro (fun _ => g) (fun q2 => ?_)
      have q2 : ¬ (2100 : Int32) + m r_ways ≤ nI p := q2
      rw [e55, show (2100 : Int32) = nI 2100 from rfl, nI_add, nI_leI (by omega) (by omega)] at q2
      omega
end RW5
