def wiN (a : Nat → Nat → Int32) (t : Nat) : Nat → Int32 → Nat
  | 0, _ => 0
  | k + 1, x => if a r_around (dN x) = nI t then (if a r_part (dN x) = 2 then 1 else 0) else wiN a t k (a r_around (dN x))
/-- the place of a point (one more; 0: none) -/
def plN (W : wL_T) (p : Nat) : Nat := if p < 1300 then p / 5 + 1 else if 1301 ≤ p ∧ p < 2100 then (p - 1301) / 3 + 1 else if 2100 ≤ p ∧ p < 3599 then (match W.reverse[p - 2100]? with | some x => x.1 + 1 | none => 0) else 0
def wiF (a : Nat → Nat → Int32) (K : Nat → Nat) (W : wL_T) (t p : Nat) : Nat :=
  if (1301 ≤ p ∧ p < 2100) ∧ (p - 1301) / 3 = t then (if 0 < (p - 1301) % 3 then 1 else 0)
  else if plN W p = 0 then 0 else wiN a t (K (plN W p - 1) + 1) (nI (plN W p - 1))
/-- the points that there are -/
def vP (N : Nat) (W : wL_T) (p : Nat) : Prop := p < 5 * N ∨ p = 1300 ∨ (1301 ≤ p ∧ p < 1301 + 3 * N) ∨ (2100 ≤ p ∧ p < 2100 + W.length) ∨ p = 3599
theorem div5 {x : Nat} (h : x < 1300) : nI x / 5 = nI (x / 5) := by
  have : ∀ x : Fin 1300, nI x.1 / 5 = nI (x.1 / 5) := by decide +kernel
  exact this ⟨x, h⟩
theorem div3 {x : Nat} (h : x < 800) : nI x / 3 = nI (x / 3) := by
  have : ∀ x : Fin 800, nI x.1 / 3 = nI (x.1 / 3) := by decide +kernel
  exact this ⟨x, h⟩
theorem rem3 {x : Nat} (h : x < 800) : nI x - nI x / 3 * 3 = nI (x % 3) := by
  have : ∀ x : Fin 800, nI x.1 - nI x.1 / 3 * 3 = nI (x.1 % 3) := by decide +kernel
  exact this ⟨x, h⟩
theorem nI_subn {x k : Nat} (h : k ≤ x) : nI x - nI k = nI (x - k) := by
  have : nI (x - k) + nI k = nI x := by rw [nI_add, Nat.sub_add_cancel h]
  rw [← this, Int32.add_sub_cancel]
section RW2
set_option maxRecDepth 100000 in
theorem wi_107 (d : Nat) (m : Nat → Int32) (a : Nat → Nat → Int32) {t : Nat} (p : Nat) (P : pv_R) : ∀ (k : Nat) (x : Int32), lnA a k x → (wiN a t k x = 1 → P (some (.int 1)) (rs m a)) → (¬ wiN a t k x = 1 → P (some (.int 0)) (rs m a)) → pv_go rq_T55 1 (pv_call rq_mt d) P (107, [(0, .ref 0), (1, .int (nI p)), (2, .int (nI t)), (3, .int x)], [], rs m a) := by
  intro k
  induction k with
  | zero =>
    intro x hx h1 h0
    have hx : x = -1 := hx
    subst hx
    have h0 := h0 (by unfold wiN; omega)
    refine pv_run [] 20 ?_
    refine And.intro (fun _ => ?_) (fun q => absurd rfl q)
    exact And.intro (fun _ => And.intro (Or.inl rfl) h0) (fun q => absurd rfl q)
  | succ k ih =>
    intro x hx h1 h0
    obtain ⟨q, ⟨rfl, hq⟩, hx2⟩ := hx
    have ed : dN (nI q) = q := nI_clamp (by omega)
    have i1 : vp_in (nI q) 260 := vp_in_nI (by omega) (by decide)
    have c1 : (nI q).toNatClampNeg = q := nI_clamp (by omega)
    have ne : ¬ nI q = -1 := nI_ne_m1 (by omega)
    have e0 : wiN a t (k + 1) (nI q) = if a r_around q = nI t then (if a r_part q = 2 then 1 else 0) else wiN a t k (a r_around q) := by
      show (if a r_around (dN (nI q)) = nI t then (if a r_part (dN (nI q)) = 2 then 1 else 0) else wiN a t k (a r_around (dN (nI q)))) = _
      rw [ed]
    rw [e0] at h1 h0
    refine pv_run [107] 30 ?_
    refine And.intro (fun z => absurd z ne) (fun _ => ?_)
    refine And.intro i1 ?_
    refine And.intro (fun z => ?_) (fun z => ?_)
    · have z : a r_around (nI q).toNatClampNeg = nI t := z
      rw [c1] at z
      rw [if_pos z] at h1 h0
      refine And.intro (fun z => absurd z ne) (fun _ => ?_)
      refine And.intro i1 ?_
      refine And.intro (fun y => ?_) (fun y => ?_)
      · have y : a r_part (nI q).toNatClampNeg = 2 := y
        rw [c1] at y
        rw [if_pos y] at h1
        exact And.intro (Or.inr rfl) (h1 rfl)
      · have y : ¬ a r_part (nI q).toNatClampNeg = 2 := y
        rw [c1] at y
        rw [if_neg y] at h0
        exact And.intro (Or.inl rfl) (h0 (by omega))
    · have z : ¬ a r_around (nI q).toNatClampNeg = nI t := z
      rw [c1] at z
      rw [if_neg z] at h1 h0
      refine And.intro i1 ?_
      show pv_go rq_T55 1 (pv_call rq_mt d) P (107, [(0, .ref 0), (1, .int (nI p)), (2, .int (nI t)), (3, .int (a r_around (nI q).toNatClampNeg))], [], rs m a)
      rw [c1]
      exact ih _ hx2 h1 h0
abbrev wiL (p t : Nat) : pv_L := [(0, .ref 0), (1, .int (nI p)), (2, .int (nI t))]
set_option maxRecDepth 100000 in
theorem wi_41 (d : Nat) (m : Nat → Int32) (a : Nat → Nat → Int32) {N t p : Nat} {K : Nat → Nat} {W : wL_T} (hN : N ≤ 260) (hb : ∀ q, q < N → lnA a (K q) (a r_around q)) (hW : rowW a W) (hWl : W.length < 1500) (hWx : ∀ x ∈ W, x.1 < N) (hp : vP N W p) (P : pv_R) (h1 : (if plN W p = 0 then 0 else wiN a t (K (plN W p - 1) + 1) (nI (plN W p - 1))) = 1 → P (some (.int 1)) (rs m a)) (h0 : ¬ (if plN W p = 0 then 0 else wiN a t (K (plN W p - 1) + 1) (nI (plN W p - 1))) = 1 → P (some (.int 0)) (rs m a)) : pv_go rq_T55 1 (pv_call rq_mt d) P (41, wiL p t, [], rs m a) := by
  have hp2 : p < 3600 := by unfold vP at hp; omega
  have yes : ∀ q, q < N → plN W p = q + 1 → pv_go rq_T55 1 (pv_call rq_mt d) P (107, [(0, .ref 0), (1, .int (nI p)), (2, .int (nI t)), (3, .int (nI q))], [], rs m a) := by
    intro q hq e
    rw [e, if_neg (by omega), show q + 1 - 1 = q from rfl] at h1 h0
    exact wi_107 d m a p P (K q + 1) (nI q) ⟨q, ⟨rfl, by omega⟩, hb q hq⟩ h1 h0
  have no : plN W p = 0 → pv_go rq_T55 1 (pv_call rq_mt d) P (107, [(0, .ref 0), (1, .int (nI p)), (2, .int (nI t)), (3, .int (-1))], [], rs m a) := by
    intro e
    rw [e, if_pos rfl] at h0
    have h0 := h0 (by omega)
    exact wi_107 (t := t) d m a p P 0 (-1) rfl (fun u => by unfold wiN at u; omega) (fun _ => h0)
  unfold plN at yes no
  refine pv_run [78, 107] 40 ?_
  refine And.intro (fun z => ?_) (fun z => ?_)
  · have z : (1300 : Int32) ≤ nI p := z
    rw [show (1300 : Int32) = nI 1300 from rfl, nI_leI (by omega) (by omega)] at z
    rw [if_neg (by omega)] at yes no
    have tail : ¬ (1301 ≤ p ∧ p < 2100) → pv_go rq_T55 1 (pv_call rq_mt d) P (78, wiL p t, [], rs m a) := by
      intro n1
      rw [if_neg n1] at yes no
      refine pv_run [107] 30 ?_
      refine And.intro (fun y => ?_) (fun y => ?_)
      · have y : nI p < 2100 := y
        rw [show (2100 : Int32) = nI 2100 from rfl, nI_ltI (by omega) (by omega)] at y
        rw [if_neg (by omega)] at no
        exact no rfl
      · have y : ¬ nI p < 2100 := y
        rw [show (2100 : Int32) = nI 2100 from rfl, nI_ltI (by omega) (by omega)] at y
        refine And.intro (fun x => ?_) (fun x => ?_)
        · have x : (3599 : Int32) ≤ nI p := x
          rw [show (3599 : Int32) = nI 3599 from rfl, nI_leI (by omega) (by omega)] at x
          rw [if_neg (by omega)] at no
          exact no rfl
        · have x : ¬ (3599 : Int32) ≤ nI p := x
          rw [show (3599 : Int32) = nI 3599 from rfl, nI_leI (by omega) (by omega)] at x
          rw [if_pos (by omega)] at yes
          have hl : p - 2100 < W.length := by unfold vP at hp; omega
          obtain ⟨y, hy⟩ : ∃ y, W.reverse[p - 2100]? = some y := ⟨_, List.getElem?_eq_getElem (by rw [List.length_reverse]; exact hl)⟩
          have hyN := hWx y (List.mem_reverse.mp (List.mem_of_getElem? hy))
          rw [hy] at yes
          have hrow := (rowW_get W hW _ y hy).1
          have es : nI p - 2100 = nI (p - 2100) := nI_subn (k := 2100) (by omega)
          have i1 : vp_in (nI p - 2100) 1500 := by rw [es]; exact vp_in_nI (by omega) (by decide)
          have c1 : (nI p - 2100).toNatClampNeg = p - 2100 := by rw [es]; exact nI_clamp (by omega)
          refine And.intro i1 ?_
          show pv_go rq_T55 1 (pv_call rq_mt d) P (107, [(0, .ref 0), (1, .int (nI p)), (2, .int (nI t)), (3, .int (a r_wayOf (nI p - 2100).toNatClampNeg))], [], rs m a)
          rw [c1, hrow]
          exact yes y.1 hyN rfl
    refine And.intro (fun y => ?_) (fun y => ?_)
    · have y : nI p < 1301 := y
      rw [show (1301 : Int32) = nI 1301 from rfl, nI_ltI (by omega) (by omega)] at y
      exact tail (by omega)
    · have y : ¬ nI p < 1301 := y
      rw [show (1301 : Int32) = nI 1301 from rfl, nI_ltI (by omega) (by omega)] at y
      refine And.intro (fun x => ?_) (fun x => ?_)
      · have x : (2100 : Int32) ≤ nI p := x
        rw [show (2100 : Int32) = nI 2100 from rfl, nI_leI (by omega) (by omega)] at x
        exact tail (by omega)
      · have x : ¬ (2100 : Int32) ≤ nI p := x
        rw [show (2100 : Int32) = nI 2100 from rfl, nI_leI (by omega) (by omega)] at x
        rw [if_pos (by omega)] at yes
        have es : (nI p - 1301) / 3 = nI ((p - 1301) / 3) := by
          rw [show (1301 : Int32) = nI 1301 from rfl, nI_subn (by omega), div3 (by omega)]
        refine And.intro (by decide) ?_
        show pv_go rq_T55 1 (pv_call rq_mt d) P (107, [(0, .ref 0), (1, .int (nI p)), (2, .int (nI t)), (3, .int ((nI p - 1301) / 3))], [], rs m a)
        rw [es]
        exact yes _ (by unfold vP at hp; omega) rfl
  · have z : ¬ (1300 : Int32) ≤ nI p := z
    rw [show (1300 : Int32) = nI 1300 from rfl, nI_leI (by omega) (by omega)] at z
    rw [if_pos (by omega)] at yes
    refine And.intro (by decide) ?_
    show pv_go rq_T55 1 (pv_call rq_mt d) P (107, [(0, .ref 0), (1, .int (nI p)), (2, .int (nI t)), (3, .int (nI p / 5))], [], rs m a)
    rw [div5 (by omega)]
    exact yes _ (by unfold vP at hp; omega) rfl
set_option maxRecDepth 100000 in
theorem rc_isWithin (d : Nat) (m : Nat → Int32) (a : Nat → Nat → Int32) {N t p : Nat} {K : Nat → Nat} {W : wL_T} (hN : N ≤ 260) (ht : t < N) (hb : ∀ q, q < N → lnA a (K q) (a r_around q)) (hW : rowW a W) (hWl : W.length < 1500) (hWx : ∀ x ∈ W, x.1 < N) (hp : vP N W p) (P : pv_R) (h1 : wiF a K W t p = 1 → P (some (.int 1)) (rs m a)) (h0 : ¬ wiF a K W t p = 1 → P (some (.int 0)) (rs m a)) : pv_call rq_mt (d + 1) rq_m_R_isWithin [.ref 0, .int (nI p), .int (nI t)] (rs m a) P := by
  have hp2 : p < 3600 := by unfold vP at hp; omega
  unfold wiF at h1 h0
  have tail : ¬ ((1301 ≤ p ∧ p < 2100) ∧ (p - 1301) / 3 = t) → pv_go rq_T55 1 (pv_call rq_mt d) P (41, wiL p t, [], rs m a) := by
    intro n
    rw [if_neg n] at h1 h0
    exact wi_41 d m a hN hb hW hWl hWx hp P h1 h0
  refine pv_call_of rfl rfl rfl (pv_run [41] 40 ?_)
  refine And.intro (fun y => ?_) (fun y => ?_)
  · have y : nI p < 1301 := y
    rw [show (1301 : Int32) = nI 1301 from rfl, nI_ltI (by omega) (by omega)] at y
    exact tail (by omega)
  · have y : ¬ nI p < 1301 := y
    rw [show (1301 : Int32) = nI 1301 from rfl, nI_ltI (by omega) (by omega)] at y
    refine And.intro (fun x => ?_) (fun x => ?_)
    · have x : (2100 : Int32) ≤ nI p := x
      rw [show (2100 : Int32) = nI 2100 from rfl, nI_leI (by omega) (by omega)] at x
      exact tail (by omega)
    · have x : ¬ (2100 : Int32) ≤ nI p := x
      rw [show (2100 : Int32) = nI 2100 from rfl, nI_leI (by omega) (by omega)] at x
      have es : nI p - 1301 = nI (p - 1301) := nI_subn (k := 1301) (by omega)
      refine And.intro (by decide) ?_
      refine And.intro (fun w => ?_) (fun w => ?_)
      · have w : (nI p - 1301) / 3 = nI t := w
        rw [es, div3 (by omega), nI_eq (by omega) (by omega)] at w
        rw [if_pos ⟨⟨by omega, by omega⟩, w⟩] at h1 h0
        refine And.intro (by decide) ?_
        refine And.intro (fun v => ?_) (fun v => ?_)
        · have v : nI p - 1301 - (nI p - 1301) / 3 * 3 ≤ 0 := v
          rw [es, rem3 (by omega), show (0 : Int32) = nI 0 from rfl, nI_leI (by omega) (by omega)] at v
          rw [if_neg (by omega)] at h0
          exact And.intro (Or.inl rfl) (h0 (by omega))
        · have v : ¬ nI p - 1301 - (nI p - 1301) / 3 * 3 ≤ 0 := v
          rw [es, rem3 (by omega), show (0 : Int32) = nI 0 from rfl, nI_leI (by omega) (by omega)] at v
          rw [if_pos (by omega)] at h1
          exact And.intro (Or.inr rfl) (h1 rfl)
      · have w : ¬ (nI p - 1301) / 3 = nI t := w
        rw [es, div3 (by omega), nI_eq (by omega) (by omega)] at w
        exact tail (fun u => w u.2)
end RW2
