/-! the reference's order -/
def lnA (a : Nat → Nat → Int32) : Nat → Int32 → Prop
  | 0, x => x = -1
  | k + 1, x => ∃ p, (x = nI p ∧ p < 260) ∧ lnA a k (a r_around p)
theorem lnA_congr {a a' : Nat → Nat → Int32} (h : a' r_around = a r_around) : ∀ (k : Nat) (x : Int32), lnA a k x → lnA a' k x
  | 0, _, q => q
  | k + 1, x, ⟨p, h1, h2⟩ => ⟨p, h1, by rw [h]; exact lnA_congr h k _ h2⟩
theorem upa_up (a : Nat → Nat → Int32) (k i : Nat) (g : Nat → Int32) (x : Int32) : up2 (upa a k g) k i x = upa a k (upd g i x) := by
  funext j
  unfold up2 upa
  by_cases e : j = k
  · rw [if_pos e, if_pos e, if_pos rfl]
  · rw [if_neg e, if_neg e, if_neg e]
theorem upa_same (a : Nat → Nat → Int32) (k : Nat) : upa a k (a k) = a := by
  funext j
  unfold upa
  by_cases e : j = k
  · rw [if_pos e, e]
  · rw [if_neg e]
theorem upa_at (a : Nat → Nat → Int32) (k : Nat) (g : Nat → Int32) : upa a k g k = g := by unfold upa; rw [if_pos rfl]
theorem upa_ne (a : Nat → Nat → Int32) {k j : Nat} (g : Nat → Int32) (h : ¬ j = k) : upa a k g j = a j := by unfold upa; rw [if_neg h]
abbrev oL (p : Nat) (L : pv_L) : pv_L := [(0, .ref 0), (1, .int (nI p))] ++ L
abbrev oL3 (p : Nat) (x y : Int32) : pv_L := [(0, .ref 0), (1, .int (nI p)), (2, .int x), (3, .int y)]
def oOK (L : pv_L) : Prop := L = [] ∨ ∃ x y, L = [(2, .int x), (3, .int y)]
set_option maxRecDepth 100000 in
theorem ro_19 (d : Nat) (m : Nat → Int32) (a : Nat → Nat → Int32) (P : pv_R) (p : Nat) : ∀ (k e : Nat) (x : Int32), lnA a k x → pv_go rq_T40 3 (pv_call rq_mt d) P (37, oL3 p (nI (e + k)) (-1), [], rs m a) → pv_go rq_T40 3 (pv_call rq_mt d) P (19, oL3 p (nI e) x, [], rs m a) := by
  intro k
  induction k with
  | zero =>
    intro e x hx h
    have hx : x = -1 := hx
    subst hx
    refine pv_run [37] 40 ?_
    refine And.intro (fun _ => h) (fun q => absurd rfl q)
  | succ k ih =>
    intro e x hx h
    obtain ⟨r, ⟨rfl, hr⟩, h2⟩ := hx
    have hi : vp_in (nI r) 260 := vp_in_nI (by omega) (by decide)
    have hc : (nI r).toNatClampNeg = r := nI_clamp (by omega)
    refine pv_run [37, 19] 40 ?_
    refine And.intro (fun q => ?_) (fun _ => ?_)
    · have q : nI r = -1 := q
      exfalso
      exact absurd (q ▸ (show ¬ nI r < 0 from nI_pos (by omega))) (by decide)
    · refine And.intro hi ?_
      show pv_go rq_T40 3 (pv_call rq_mt d) P (19, oL3 p (nI e + 1) (a r_around (nI r).toNatClampNeg), [], rs m a)
      rw [nI_1, hc]
      refine ih (e + 1) _ h2 ?_
      rw [show e + 1 + k = e + (k + 1) by omega]
      exact h
set_option maxRecDepth 100000 in
theorem ro_37 (d : Nat) (m : Nat → Int32) (a : Nat → Nat → Int32) (P : pv_R) {p : Nat} (hp : p < 260) (x y : Int32) (h : pv_go rq_T40 3 (pv_call rq_mt d) P (2, oL3 (p + 1) x y, [], rs m (up2 a r_deep p x))) : pv_go rq_T40 3 (pv_call rq_mt d) P (37, oL3 p x y, [], rs m a) := by
  have hi : vp_in (nI p) 260 := vp_in_nI (by omega) (by decide)
  have hc : (nI p).toNatClampNeg = p := nI_clamp (by omega)
  refine pv_run [2] 40 ?_
  refine And.intro hi ?_
  show pv_go rq_T40 3 (pv_call rq_mt d) P (2, [(0, .ref 0), (1, .int (nI p + 1)), (2, .int x), (3, .int y)], [], rs m (up2 a r_deep (nI p).toNatClampNeg x))
  rw [nI_1, hc]
  exact h
set_option maxRecDepth 100000 in
theorem ro_2 (d : Nat) (m : Nat → Int32) (a : Nat → Nat → Int32) (P : pv_R) {N : Nat} (hN : N ≤ 260) (hs : m r_nodes = nI N) (D : Nat → Nat) (hD : ∀ p, p < N → lnA a (D p) (a r_around p))
    (h : ∀ L, oOK L → ∀ g : Nat → Int32, (∀ q, q < N → g q = nI (D q)) → pv_go rq_T40 3 (pv_call rq_mt d) P (50, oL N L, [], rs m (upa a r_deep g))) : ∀ (j p : Nat) (g : Nat → Int32), p + j = N → (∀ q, q < p → g q = nI (D q)) → ∀ L, oOK L → pv_go rq_T40 3 (pv_call rq_mt d) P (2, oL p L, [], rs m (upa a r_deep g)) := by
  intro j
  induction j with
  | zero =>
    intro p g hp hg L hL
    have e : p = N := by omega
    subst e
    refine pv_run [50] 40 ?_
    refine And.intro (fun _ => h L hL g hg) (fun q => ?_)
    exfalso
    have q : ¬ m 2 ≤ nI p := q
    rw [show m 2 = nI p from hs] at q
    exact q (Int32.le_refl _)
  | succ j ih =>
    intro p g hp hg L hL
    have hi : vp_in (nI p) 260 := vp_in_nI (by omega) (by decide)
    have hc : (nI p).toNatClampNeg = p := nI_clamp (by omega)
    have go : ∀ x, pv_go rq_T40 3 (pv_call rq_mt d) P (2, oL3 (p + 1) (nI (D p)) x, [], rs m (upa a r_deep (upd g p (nI (D p))))) := by
      intro x
      refine ih (p + 1) _ (by omega) (fun q hq => ?_) [(2, .int (nI (D p))), (3, .int x)] (Or.inr ⟨_, _, rfl⟩)
      unfold upd
      by_cases e : q = p
      · rw [if_pos e, e]
      · rw [if_neg e]; exact hg q (by omega)
    have g37 : pv_go rq_T40 3 (pv_call rq_mt d) P (19, oL3 p (nI 0) (a r_around p), [], rs m (upa a r_deep g)) := by
      refine ro_19 d m (upa a r_deep g) P p (D p) 0 _ (lnA_congr (upa_ne a g (by decide)) _ _ (hD p (by omega))) ?_
      rw [Nat.zero_add]
      refine ro_37 d m (upa a r_deep g) P (by omega) _ _ ?_
      rw [upa_up]
      exact go (-1)
    have nlt : ¬ m 2 ≤ nI p := by
      rw [show m 2 = nI N from hs, nI_leI (by omega) (by omega)]
      omega
    rcases hL with rfl | ⟨x, y, rfl⟩
    · refine pv_run [50, 19] 40 ?_
      refine And.intro (fun q => absurd q nlt) (fun _ => ?_)
      refine And.intro hi ?_
      have g37 : pv_go rq_T40 3 (pv_call rq_mt d) P (19, oL3 p (nI 0) (a r_around (nI p).toNatClampNeg), [], rs m (upa a r_deep g)) := by rw [hc]; exact g37
      exact g37
    · refine pv_run [50, 19] 40 ?_
      refine And.intro (fun q => absurd q nlt) (fun _ => ?_)
      refine And.intro hi ?_
      have g37 : pv_go rq_T40 3 (pv_call rq_mt d) P (19, oL3 p (nI 0) (a r_around (nI p).toNatClampNeg), [], rs m (upa a r_deep g)) := by rw [hc]; exact g37
      exact g37
abbrev kyf (F D : Nat → Nat) (p q : Nat) : Bool := decide (klt (F q, D q) (F p, D p))
theorem cnB_le (f : Nat → Bool) : ∀ (z b : Nat), cnB f b z ≤ z
  | 0, _ => Nat.le_refl _
  | z + 1, b => by
    have := cnB_le f z (b + 1)
    simp only [cnB]
    split <;> omega
set_option maxRecDepth 100000 in
theorem ro_64 (d : Nat) (m : Nat → Int32) (a : Nat → Nat → Int32) (P : pv_R) {N p : Nat} (hN : N ≤ 260) (hp : p < N) (hs : m r_nodes = nI N) (F D : Nat → Nat) (hF : ∀ q, q < N → a r_first q = nI (F q) ∧ F q < 2 ^ 20) (hD : ∀ q, q < N → a r_deep q = nI (D q) ∧ D q < 2 ^ 20) (n : Nat)
    (h : pv_go rq_T40 3 (pv_call rq_mt d) P (131, oL3 p (nI n) (nI N), [], rs m a)) : ∀ (j q e : Nat), q + j = N → e + cnB (kyf F D p) q j = n → pv_go rq_T40 3 (pv_call rq_mt d) P (64, oL3 p (nI e) (nI q), [], rs m a) := by
  intro j
  induction j with
  | zero =>
    intro q e hq he
    have e1 : q = N := by omega
    have e2 : e = n := by simp only [cnB] at he; omega
    subst e1 e2
    refine pv_run [131] 40 ?_
    refine And.intro (fun _ => h) (fun q => ?_)
    exfalso
    have q : ¬ m 2 ≤ nI _ := q
    rw [hs] at q
    exact q (Int32.le_refl _)
  | succ j ih =>
    intro q e hq he
    have nlt : ¬ m 2 ≤ nI q := by
      rw [show m 2 = nI N from hs, nI_leI (by omega) (by omega)]
      omega
    have hi : vp_in (nI q) 260 := vp_in_nI (by omega) (by decide)
    have hip : vp_in (nI p) 260 := vp_in_nI (by omega) (by decide)
    have hc : (nI q).toNatClampNeg = q := nI_clamp (by omega)
    have hcp : (nI p).toNatClampNeg = p := nI_clamp (by omega)
    have fq := hF q (by omega)
    have fp := hF p hp
    have dq := hD q (by omega)
    have dp := hD p hp
    have one : kyf F D p q = true → pv_go rq_T40 3 (pv_call rq_mt d) P (118, oL3 p (nI e) (nI q), [.int (nI e)], rs m a) := by
      intro hk
      refine pv_run [64] 20 ?_
      show pv_go rq_T40 3 (pv_call rq_mt d) P (64, oL3 p (nI e + 1) (nI q + 1), [], rs m a)
      rw [nI_1, nI_1]
      refine ih (q + 1) (e + 1) (by omega) ?_
      simp only [cnB] at he
      rw [if_pos hk] at he
      omega
    have zero : ¬ kyf F D p q = true → pv_go rq_T40 3 (pv_call rq_mt d) P (122, oL3 p (nI e) (nI q), [.int (nI e)], rs m a) := by
      intro hk
      refine pv_run [64] 20 ?_
      show pv_go rq_T40 3 (pv_call rq_mt d) P (64, oL3 p (nI e + 0) (nI q + 1), [], rs m a)
      rw [nI_1, Int32.add_zero]
      refine ih (q + 1) e (by omega) ?_
      simp only [cnB] at he
      rw [if_neg hk] at he
      omega
    refine pv_run [118, 122] 60 ?_
    refine And.intro (fun c => absurd c nlt) (fun _ => ?_)
    refine And.intro hi ?_
    refine And.intro hip ?_
    refine And.intro (fun c => ?_) (fun c => ?_)
    · have c : a r_first (nI q).toNatClampNeg < a r_first (nI p).toNatClampNeg := c
      rw [hc, hcp, fq.1, fp.1, nI_ltI (by omega) (by omega)] at c
      exact one (decide_eq_true (Or.inl c))
    · have c : ¬ a r_first (nI q).toNatClampNeg < a r_first (nI p).toNatClampNeg := c
      rw [hc, hcp, fq.1, fp.1, nI_ltI (by omega) (by omega)] at c
      refine And.intro hi ?_
      refine And.intro hip ?_
      refine And.intro (fun c2 => ?_) (fun c2 => ?_)
      · have c2 : a r_first (nI q).toNatClampNeg = a r_first (nI p).toNatClampNeg := c2
        rw [hc, hcp, fq.1, fp.1, nI_eq (by omega) (by omega)] at c2
        refine And.intro hi ?_
        refine And.intro hip ?_
        refine And.intro (fun c3 => ?_) (fun c3 => ?_)
        · have c3 : a r_deep (nI p).toNatClampNeg ≤ a r_deep (nI q).toNatClampNeg := c3
          rw [hc, hcp, dq.1, dp.1, nI_leI (by omega) (by omega)] at c3
          refine zero (fun k => ?_)
          have k : F q < F p ∨ (F q = F p ∧ D q < D p) := of_decide_eq_true k
          omega
        · have c3 : ¬ a r_deep (nI p).toNatClampNeg ≤ a r_deep (nI q).toNatClampNeg := c3
          rw [hc, hcp, dq.1, dp.1, nI_leI (by omega) (by omega)] at c3
          refine one (decide_eq_true (Or.inr ⟨c2, ?_⟩))
          show D q < D p
          omega
      · have c2 : ¬ a r_first (nI q).toNatClampNeg = a r_first (nI p).toNatClampNeg := c2
        rw [hc, hcp, fq.1, fp.1, nI_eq (by omega) (by omega)] at c2
        refine zero (fun k => ?_)
        have k : F q < F p ∨ (F q = F p ∧ D q < D p) := of_decide_eq_true k
        omega
set_option maxRecDepth 100000 in
theorem ro_131 (d : Nat) (m : Nat → Int32) (a : Nat → Nat → Int32) (P : pv_R) {p n : Nat} (hp : p < 260) (hn : n < 260) (y : Int32) (h : pv_go rq_T40 3 (pv_call rq_mt d) P (52, oL3 (p + 1) (nI n) y, [], rs m (up2 (up2 a r_number p (nI n)) r_byNumber n (nI p)))) : pv_go rq_T40 3 (pv_call rq_mt d) P (131, oL3 p (nI n) y, [], rs m a) := by
  have hi : vp_in (nI p) 260 := vp_in_nI (by omega) (by decide)
  have hc : (nI p).toNatClampNeg = p := nI_clamp (by omega)
  have hi2 : vp_in (nI n) 260 := vp_in_nI (by omega) (by decide)
  have hc2 : (nI n).toNatClampNeg = n := nI_clamp (by omega)
  refine pv_run [52] 40 ?_
  refine And.intro hi ?_
  refine And.intro hi2 ?_
  show pv_go rq_T40 3 (pv_call rq_mt d) P (52, [(0, .ref 0), (1, .int (nI p + 1)), (2, .int (nI n)), (3, .int y)], [], rs m (up2 (up2 a r_number (nI p).toNatClampNeg (nI n)) r_byNumber (nI n).toNatClampNeg (nI p)))
  rw [nI_1, hc, hc2]
  exact h
def numA (a : Nat → Nat → Int32) (g h : Nat → Int32) : Nat → Nat → Int32 := upa (upa a r_number g) r_byNumber h
theorem numA_up (a : Nat → Nat → Int32) (g h : Nat → Int32) (p n : Nat) (x y : Int32) : up2 (up2 (numA a g h) r_number p x) r_byNumber n y = numA a (upd g p x) (upd h n y) := by
  funext j
  unfold numA up2 upa
  by_cases e : j = r_byNumber
  · subst e; rfl
  · by_cases e2 : j = r_number
    · subst e2; rfl
    · simp only [if_neg e, if_neg e2]
set_option maxRecDepth 100000 in
theorem ro_52 (d : Nat) (m : Nat → Int32) (a : Nat → Nat → Int32) (P : pv_R) {N : Nat} (hN : N < 260) (hs : m r_nodes = nI N) (F D : Nat → Nat) (hF : ∀ q, q < N → a r_first q = nI (F q) ∧ F q < 2 ^ 20) (hD : ∀ q, q < N → a r_deep q = nI (D q) ∧ D q < 2 ^ 20) (inj : ∀ p q, p < N → q < N → cnB (kyf F D p) 0 N = cnB (kyf F D q) 0 N → p = q)
    (h : ∀ g k : Nat → Int32, (∀ q, q < N → g q = nI (cnB (kyf F D q) 0 N) ∧ k (cnB (kyf F D q) 0 N) = nI q) → P none (rs m (numA a g k))) : ∀ (j p : Nat) (g k : Nat → Int32), p + j = N → (∀ q, q < p → g q = nI (cnB (kyf F D q) 0 N) ∧ k (cnB (kyf F D q) 0 N) = nI q) → ∀ L, oOK L → pv_go rq_T40 3 (pv_call rq_mt d) P (52, oL p L, [], rs m (numA a g k)) := by
  intro j
  induction j with
  | zero =>
    intro p g k hp hg L hL
    have e : p = N := by omega
    subst e
    refine pv_run [] 40 ?_
    refine And.intro (fun _ => h g k hg) (fun q => ?_)
    exfalso
    have q : ¬ m 2 ≤ nI p := q
    rw [show m 2 = nI p from hs] at q
    exact q (Int32.le_refl _)
  | succ j ih =>
    intro p g k hp hg L hL
    have nlt : ¬ m 2 ≤ nI p := by
      rw [show m 2 = nI N from hs, nI_leI (by omega) (by omega)]
      omega
    have hle := cnB_le (kyf F D p) N 0
    have go : pv_go rq_T40 3 (pv_call rq_mt d) P (64, oL3 p (nI 0) (nI 0), [], rs m (numA a g k)) := by
      refine ro_64 d m (numA a g k) P (by omega) (by omega) hs F D hF hD (cnB (kyf F D p) 0 N) ?_ N 0 0 (by omega) (by omega)
      refine ro_131 d m (numA a g k) P (by omega) (by omega) _ ?_
      rw [numA_up]
      refine ih (p + 1) _ _ (by omega) (fun q hq => ?_) [(2, .int (nI (cnB (kyf F D p) 0 N))), (3, .int (nI N))] (Or.inr ⟨_, _, rfl⟩)
      unfold upd
      by_cases e : q = p
      · subst e; rw [if_pos rfl, if_pos rfl]; exact ⟨rfl, rfl⟩
      · rw [if_neg e, if_neg (fun e2 => e (inj q p (by omega) (by omega) e2))]
        exact hg q (by omega)
    rcases hL with rfl | ⟨x, y, rfl⟩
    · refine pv_run [64] 40 ?_
      exact And.intro (fun q => absurd q nlt) (fun _ => go)
    · refine pv_run [64] 40 ?_
      exact And.intro (fun q => absurd q nlt) (fun _ => go)
set_option maxRecDepth 100000 in
theorem ro_50 (d : Nat) (m : Nat → Int32) (a : Nat → Nat → Int32) (P : pv_R) (N : Nat) (L : pv_L) (hL : oOK L) (h : pv_go rq_T40 3 (pv_call rq_mt d) P (52, oL 0 L, [], rs m a)) : pv_go rq_T40 3 (pv_call rq_mt d) P (50, oL N L, [], rs m a) := by
  rcases hL with rfl | ⟨x, y, rfl⟩
  · exact pv_run [52] 10 h
  · exact pv_run [52] 10 h
set_option maxRecDepth 100000 in
theorem rc_order (d : Nat) (m : Nat → Int32) (a : Nat → Nat → Int32) {N : Nat} (hN : N < 260) (hs : m r_nodes = nI N) (F D : Nat → Nat) (hF : ∀ q, q < N → a r_first q = nI (F q) ∧ F q < 2 ^ 20) (hD : ∀ q, q < N → lnA a (D q) (a r_around q) ∧ D q < 2 ^ 20) (inj : ∀ p q, p < N → q < N → cnB (kyf F D p) 0 N = cnB (kyf F D q) 0 N → p = q) (P : pv_R)
    (h : ∀ f g k : Nat → Int32, (∀ q, q < N → g q = nI (cnB (kyf F D q) 0 N) ∧ k (cnB (kyf F D q) 0 N) = nI q) → P none (rs m (numA (upa a r_deep f) g k))) : pv_call rq_mt (d + 1) rq_m_R_order [.ref 0] (rs m a) P := by
  refine pv_call_of rfl rfl rfl (pv_run [2] 10 ?_)
  have key := ro_2 d m a P (N := N) (by omega) hs D (fun p hp => (hD p hp).1) (fun L hL f hf => ?_) N 0 (a r_deep) (by omega) (fun q hq => by omega) [] (Or.inl rfl)
  · rw [upa_same] at key
    exact key
  · refine ro_50 d m _ P N L hL ?_
    have k2 := ro_52 d m (upa a r_deep f) P hN hs F D (fun q hq => by rw [upa_ne a f (by decide)]; exact hF q hq) (fun q hq => by rw [upa_at]; exact ⟨hf q hq, (hD q hq).2⟩) inj (h f) N 0 ((upa a r_deep f) r_number) ((upa a r_deep f) r_byNumber) (by omega) (fun q hq => by omega) L hL
    have e : numA (upa a r_deep f) ((upa a r_deep f) r_number) ((upa a r_deep f) r_byNumber) = upa a r_deep f := by
      unfold numA
      rw [upa_same]
      have : (upa a r_deep f) r_byNumber = (upa (upa a r_deep f) r_number ((upa a r_deep f) r_number)) r_byNumber := by rw [upa_same]
      exact upa_same _ _
    rw [e] at k2
    exact k2
