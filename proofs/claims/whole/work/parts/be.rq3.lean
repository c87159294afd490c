/-! error and count of the reference -/
section RQ3
variable {m : Nat → Int32} {a : Nat → Nat → Int32}
/-- the ERROR at a node, as a number -/
def erF (a : Nat → Nat → Int32) (V p : Nat) : Int32 :=
  if ¬ a r_isStmt p = 0 then (if svR a V p 0 = 0 then 3 else 0)
  else if a r_sort p = 61 then (if ¬ a r_isFinal (dN (a r_variable p)) = 0 ∧ ¬ (a r_seen (3600 * dN (a r_variable p) + (5 * p + 3)) ||| a r_seen (3600 * dN (a r_variable p) + (5 * p + 4))) &&& 2 = 0 then 2 else 0)
  else if ¬ a r_variable p = -1 ∧ ¬ svR a (dN (a r_variable p)) p 0 &&& 1 = 0 then 1 else 0
theorem erR_F {V p : Nat} {r : Int32} (h : erR a V p r) : r = erF a V p := by
  unfold erF
  by_cases c : a r_isStmt p = 0
  · rw [if_neg (fun u => u c)]
    by_cases c2 : a r_sort p = 61
    · rw [if_pos c2]
      rcases h.2.1 c c2 with ⟨e, k⟩ | ⟨e, k⟩
      · rw [e]; exact (if_pos k).symm
      · rw [e]; exact (if_neg k).symm
    · rw [if_neg c2]
      rcases h.2.2 c c2 with ⟨e, k⟩ | ⟨e, k⟩
      · rw [e]; exact (if_pos k).symm
      · rw [e]; exact (if_neg k).symm
  · rw [if_pos c]
    rcases h.1 c with ⟨e, k⟩ | ⟨e, k⟩
    · rw [e]; exact (if_neg k).symm
    · rw [e]; exact (if_pos k).symm
theorem rc_errorAtX (d : Nat) {V p : Nat} {x : Int32} (hx : x = nI p) (hV : V ≤ 12) (hvs : m r_variables = nI V) (hp : p < 260) (hvr : vrOK a p) (P : pv_R) (h : P (some (.int (erF a V p))) (rs m a)) : pv_call rq_mt (d + 4) rq_m_R_errorAt [.ref 0, .int x] (rs m a) P := by
  rw [hx]
  exact rc_errorAt d hV hvs hp hvr P (fun r hr => by rw [erR_F hr]; exact h)
/-- the place of the ERROR number l from n on -/
def esN (K : Nat → Int32) : Nat → Nat → Nat → Option Nat
  | 0, _, _ => none
  | j + 1, n, l => if K n ≤ 0 then esN K j (n + 1) l else if l = 0 then some n else esN K j (n + 1) (l - 1)
def erA (K : Nat → Int32) (y : Int32) : Option Nat → Int32
  | none => -1
  | some n => if y = 0 then nI n else K n
def ctK (K : Nat → Int32) : Nat → Nat → Nat
  | 0, _ => 0
  | j + 1, n => (if K n ≤ 0 then 0 else 1) + ctK K j (n + 1)
theorem esN_none {K : Nat → Int32} : ∀ (j n l : Nat), esN K j n l = none ↔ ctK K j n ≤ l
  | 0, n, l => ⟨fun _ => Nat.zero_le _, fun _ => rfl⟩
  | j + 1, n, l => by
    unfold esN ctK
    by_cases c : K n ≤ 0
    · rw [if_pos c, if_pos c, esN_none j (n + 1) l]
      omega
    · rw [if_neg c, if_neg c]
      by_cases c2 : l = 0
      · rw [if_pos c2]
        constructor
        · intro e; cases e
        · intro e; omega
      · rw [if_neg c2, esN_none j (n + 1) (l - 1)]
        omega
abbrev erK (a : Nat → Nat → Int32) (V n : Nat) : Int32 := erF a V (dN (a r_byNumber n))
abbrev erL (i : Nat) (y : Int32) (l n : Nat) (L : pv_L) : pv_L := [(0, .ref 0), (1, .int (nI i)), (2, .int y), (3, .int (nI l)), (4, .int (nI n))] ++ L
def er5 (L : pv_L) : Prop := L = [] ∨ ∃ u, L = [(5, .int u)]
/-- what the reference's rows must be for its questions -/
def rqOK (m : Nat → Int32) (a : Nat → Nat → Int32) (N V : Nat) : Prop := (N ≤ 260 ∧ m r_nodes = nI N) ∧ (V ≤ 12 ∧ m r_variables = nI V) ∧ (∀ i, i < N → a r_byNumber i = nI (dN (a r_byNumber i)) ∧ dN (a r_byNumber i) < N) ∧ (∀ p, p < N → vrOK a p)
set_option maxRecDepth 100000 in
theorem er_17 (d : Nat) {N V : Nat} (hq : rqOK m a N V) {i : Nat} (hi : i < 2 ^ 31) (y : Int32) (P : pv_R) : ∀ (j n l : Nat) (L : pv_L), n + j = N → l < 2 ^ 31 → er5 L → P (some (.int (erA (erK a V) y (esN (erK a V) j n l)))) (rs m a) → pv_go rq_T67 0 (pv_call rq_mt (d + 4)) P (17, erL i y l n L, [], rs m a) := by
  obtain ⟨⟨hN, hs⟩, ⟨hV, hvs⟩, hb, hvr⟩ := hq
  intro j
  induction j with
  | zero =>
    intro n l L hj hl hL h
    have e : n = N := by omega
    subst e
    have c : m 2 ≤ nI n := by rw [show m 2 = nI n from hs]; exact Int32.le_refl _
    rcases hL with rfl | ⟨u, rfl⟩
    · refine pv_run [] 20 ?_
      exact And.intro (fun _ => h) (fun z => absurd c z)
    · refine pv_run [] 20 ?_
      exact And.intro (fun _ => h) (fun z => absurd c z)
  | succ j ih =>
    intro n l L hj hl hL h
    have c : ¬ m 2 ≤ nI n := by rw [show m 2 = nI N from hs, nI_leI (by omega) (by omega)]; omega
    have i1 : vp_in (nI n) 260 := vp_in_nI (by omega) (by decide)
    have c1 : (nI n).toNatClampNeg = n := nI_clamp (by omega)
    have b := hb n (by omega)
    have eb : a 45 (nI n).toNatClampNeg = nI (dN (a r_byNumber n)) := by rw [c1]; exact b.1
    have ge : ¬ nI i < 0 := nI_pos hi
    unfold esN at h
    have g43 : ∀ L', er5 L' → pv_go rq_T67 0 (pv_call rq_mt (d + 4)) P (43, erL i y l n [(5, .int (erK a V n))], [], rs m a) := by
      intro L' _
      refine pv_run [17] 60 ?_
      refine And.intro (fun z => ?_) (fun z => ?_)
      · have z : erK a V n ≤ 0 := z
        rw [if_pos z] at h
        have g := ih (n + 1) l [(5, .int (erK a V n))] (by omega) hl (Or.inr ⟨_, rfl⟩) h
        rw [erL, ← nI_1] at g
        exact g
      · have z : ¬ erK a V n ≤ 0 := z
        rw [if_neg z] at h
        refine And.intro (fun w => ?_) (fun w => ?_)
        · have w : nI l = 0 := w
          have w : l = 0 := by
            rw [show (0 : Int32) = nI 0 from rfl, nI_eq hl (by omega)] at w
            exact w
          rw [if_pos w] at h
          refine And.intro (fun q => ?_) (fun q => ?_)
          · have q : y = 0 := q
            have h : P (some (.int (if y = 0 then nI n else erK a V n))) (rs m a) := h
            rw [if_pos q] at h
            exact h
          · have q : ¬ y = 0 := q
            have h : P (some (.int (if y = 0 then nI n else erK a V n))) (rs m a) := h
            rw [if_neg q] at h
            exact h
        · have w : ¬ nI l = 0 := w
          have w : ¬ l = 0 := fun e => w (by rw [e]; rfl)
          rw [if_neg w] at h
          obtain ⟨l', rfl⟩ : ∃ l', l = l' + 1 := ⟨l - 1, by omega⟩
          have g := ih (n + 1) l' [(5, .int (erK a V n))] (by omega) (by omega) (Or.inr ⟨_, rfl⟩) h
          rw [erL, ← nI_1, ← oI_s l', ← oI_pred] at g
          exact g
    rcases hL with rfl | ⟨u, rfl⟩
    · refine pv_run [43] 60 ?_
      refine And.intro (fun z => absurd z c) (fun _ => ?_)
      refine And.intro (fun z => absurd z ge) (fun _ => ?_)
      refine And.intro i1 ?_
      refine rc_errorAtX (p := dN (a r_byNumber n)) d eb hV hvs (by omega) (hvr _ b.2) _ ?_
      exact g43 [] (Or.inl rfl)
    · refine pv_run [43] 60 ?_
      refine And.intro (fun z => absurd z c) (fun _ => ?_)
      refine And.intro (fun z => absurd z ge) (fun _ => ?_)
      refine And.intro i1 ?_
      refine rc_errorAtX (p := dN (a r_byNumber n)) d eb hV hvs (by omega) (hvr _ b.2) _ ?_
      exact g43 [] (Or.inl rfl)
set_option maxRecDepth 100000 in
theorem er_neg (d : Nat) (x y : Int32) (hx : x < 0) (P : pv_R) (h : P (some (.int (-1))) (rs m a)) : pv_go rq_T67 0 (pv_call rq_mt d) P (17, [(0, .ref 0), (1, .int x), (2, .int y), (3, .int x), (4, .int 0)], [], rs m a) := by
  refine pv_run [] 60 ?_
  refine And.intro (fun _ => h) (fun _ => ?_)
  exact And.intro (fun _ => h) (fun z => absurd hx z)
set_option maxRecDepth 100000 in
theorem rc_error (d : Nat) {N V : Nat} (hq : rqOK m a N V) (x y : Int32) (P : pv_R) (hb : ¬ (0 ≤ y ∧ y ≤ 1) → P (some (.int (-2))) (rs m a)) (h0 : (0 ≤ y ∧ y ≤ 1) → x < 0 → P (some (.int (-1))) (rs m a))
    (h1 : (0 ≤ y ∧ y ≤ 1) → ∀ i, x = nI i → i < 2 ^ 31 → P (some (.int (erA (erK a V) y (esN (erK a V) N 0 i)))) (rs m a)) : pv_call rq_mt (d + 5) rq_m_R_error [.ref 0, .int x, .int y] (rs m a) P := by
  refine pv_call_of rfl rfl rfl (pv_run [17] 60 ?_)
  refine rc_isIn (d + 3) (rs m a) y 0 1 _ ?_
  by_cases c : 0 ≤ y ∧ y ≤ 1
  · rw [if_pos c]
    refine And.intro (fun u => absurd u (by decide)) (fun _ => ?_)
    by_cases n : x < 0
    · exact er_neg (d + 4) x y n P (h0 c n)
    · obtain ⟨i, hi, rfl⟩ := nI_of n
      exact er_17 d hq hi y P N 0 i [] (by omega) hi (Or.inl rfl) (h1 c i rfl hi)
  · rw [if_neg c]
    refine And.intro (fun _ => ?_) (fun u => absurd rfl u)
    exact hb c
end RQ3
