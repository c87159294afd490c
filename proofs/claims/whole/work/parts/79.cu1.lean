/-! the class's questions -/
section CU1
variable {m : Nat → Int32} {a : Nat → Nat → Int32} {l : Nat → Nat → Int64} {w : Int64}
set_option maxRecDepth 100000 in
theorem cc_hasX (d : Nat) {N : Nat} (hN : N < 2 ^ 20) (hs : m c_P_size = nI N) (x : Int32) (P : pv_R) (h1 : ∀ p, x = nI p → p < N → P (some (.int 1)) (cs m a l w)) (h0 : (∀ p, p < N → ¬ x = nI p) → P (some (.int 0)) (cs m a l w)) : pv_call cq_mt (d + 1) cq_m_Places_has [.ref 2, .int x] (cs m a l w) P := by
  by_cases c : x < 0
  · refine pv_call_of rfl rfl rfl (pv_run [] 30 ?_)
    refine And.intro (fun _ => And.intro (Or.inl rfl) (h0 (fun p hp e => ?_))) (fun q => absurd c q)
    rw [e] at c
    exact absurd c (nI_pos (by omega))
  · obtain ⟨p, hp, rfl⟩ := nI_of c
    exact cc_has d m a hp (by omega) hs P (fun q => h1 p rfl q) (fun q => h0 (fun k hk e => by
      rw [nI_eq hp (by omega)] at e
      omega))
set_option maxRecDepth 100000 in
theorem cc_vhasX (d : Nat) {V : Nat} (hV : V ≤ 12) (hs : m c_V_size = nI V) (x : Int32) (P : pv_R) (h1 : ∀ p, x = nI p → p < V → P (some (.int 1)) (cs m a l w)) (h0 : (∀ p, p < V → ¬ x = nI p) → P (some (.int 0)) (cs m a l w)) : pv_call cq_mt (d + 1) cq_m_Variables_has [.ref 1, .int x] (cs m a l w) P := by
  refine pv_call_of rfl rfl rfl (pv_run [] 30 ?_)
  refine And.intro (fun c => ?_) (fun c => ?_)
  · have c : x < 0 := c
    refine And.intro (Or.inl rfl) (h0 (fun p hp e => ?_))
    rw [e] at c
    exact absurd c (nI_pos (by omega))
  · have c : ¬ x < 0 := c
    obtain ⟨p, hp, rfl⟩ := nI_of c
    refine And.intro (fun q => ?_) (fun q => ?_)
    · have q : m 10 ≤ nI p := q
      rw [show m 10 = nI V from hs, nI_leI (by omega) hp] at q
      refine And.intro (Or.inl rfl) (h0 (fun k hk e => ?_))
      rw [nI_eq hp (by omega)] at e
      omega
    · have q : ¬ m 10 ≤ nI p := q
      rw [show m 10 = nI V from hs, nI_leI (by omega) hp] at q
      exact And.intro (Or.inr rfl) (h1 p rfl (by omega))
set_option maxRecDepth 100000 in
theorem cc_Aforget (d : Nat) (P : pv_R) (h : P (some (.int (m c_A_collectedSize))) (cs (upd m c_A_collectedSize 0) a l w)) : pv_call cq_mt (d + 1) cq_m_A_forget [.ref 0] (cs m a l w) P := by
  refine pv_call_of rfl rfl rfl (pv_run [] 30 ?_)
  exact h
set_option maxRecDepth 100000 in
theorem cc_Afault (d : Nat) (P : pv_R) (h : P (some (.int (m c_A_faultAt))) (cs m a l w)) : pv_call cq_mt (d + 1) cq_m_A_fault [.ref 0] (cs m a l w) P := by
  refine pv_call_of rfl rfl rfl (pv_run [] 30 ?_)
  exact h
def plV (a : Nat → Nat → Int32) (p : Nat) (y : Int32) : Int32 := if y = 0 then a c_P_sort p else if y = 1 then a c_P_first p else if y = 2 then a c_P_around p else if y = 3 then a c_P_named p else -2
set_option maxRecDepth 100000 in
theorem cc_Aplace (d : Nat) {N : Nat} (hN : N ≤ 241) (hs : m c_P_size = nI N) (x y : Int32) (P : pv_R) (h1 : ∀ p, x = nI p → p < N → P (some (.int (plV a p y))) (cs m a l w)) (h0 : (∀ p, p < N → ¬ x = nI p) → P (some (.int (-2))) (cs m a l w)) : pv_call cq_mt (d + 2) cq_m_A_place [.ref 0, .int x, .int y] (cs m a l w) P := by
  refine pv_call_of rfl rfl rfl (pv_run [] 60 ?_)
  refine cc_hasX d (by omega) hs x _ (fun p e hp => ?_) (fun q => ?_)
  · have h := h1 p e hp
    subst e
    have i1 : vp_in (nI p) 241 := vp_in_nI (by omega) (by decide)
    have c1 : (nI p).toNatClampNeg = p := nI_clamp (by omega)
    unfold plV at h
    refine And.intro (fun z => absurd z (by decide)) (fun _ => ?_)
    refine And.intro (fun z => ?_) (fun z0 => ?_)
    · rw [if_pos (show y = 0 from z)] at h
      refine And.intro i1 ?_
      have h2 : P (some (.int (a c_P_sort (nI p).toNatClampNeg))) (cs m a l w) := by rw [c1]; exact h
      exact h2
    rw [if_neg (show ¬ y = 0 from z0)] at h
    refine And.intro (fun z => ?_) (fun z1 => ?_)
    · rw [if_pos (show y = 1 from z)] at h
      refine And.intro i1 ?_
      have h2 : P (some (.int (a c_P_first (nI p).toNatClampNeg))) (cs m a l w) := by rw [c1]; exact h
      exact h2
    rw [if_neg (show ¬ y = 1 from z1)] at h
    refine And.intro (fun z => ?_) (fun z2 => ?_)
    · rw [if_pos (show y = 2 from z)] at h
      refine And.intro i1 ?_
      have h2 : P (some (.int (a c_P_around (nI p).toNatClampNeg))) (cs m a l w) := by rw [c1]; exact h
      exact h2
    rw [if_neg (show ¬ y = 2 from z2)] at h
    refine And.intro (fun z => ?_) (fun z3 => ?_)
    · rw [if_pos (show y = 3 from z)] at h
      refine And.intro i1 ?_
      have h2 : P (some (.int (a c_P_named (nI p).toNatClampNeg))) (cs m a l w) := by rw [c1]; exact h
      exact h2
    rw [if_neg (show ¬ y = 3 from z3)] at h
    exact h
  · refine And.intro (fun _ => ?_) (fun z => absurd rfl z)
    exact h0 q
def taV (a : Nat → Nat → Int32) (p : Nat) : Int32 := if a c_P_sort p = 36 ∨ a c_P_sort p = 37 then a c_P_there p ||| (1 <<< (a c_P_named p &&& 31)) else a c_P_there p
set_option maxRecDepth 100000 in
theorem ta_38 (d : Nat) {p : Nat} (hp : p < 241) (P : pv_R) (g : Int32) (hg : (g = 1 ∧ (a c_P_sort p = 36 ∨ a c_P_sort p = 37)) ∨ (g = 0 ∧ ¬ (a c_P_sort p = 36 ∨ a c_P_sort p = 37))) (h : P (some (.int (taV a p))) (cs m a l w)) : pv_go cq_T29 0 (pv_call cq_mt d) P (38, [(0, .ref 2), (1, .int (nI p)), (2, .int g)], [], cs m a l w) := by
  have i1 : vp_in (nI p) 241 := vp_in_nI (by omega) (by decide)
  have c1 : (nI p).toNatClampNeg = p := nI_clamp (by omega)
  unfold taV at h
  refine pv_run [] 40 ?_
  refine And.intro (fun z => ?_) (fun z => ?_)
  · have z : g = 0 := z
    rcases hg with ⟨e, -⟩ | ⟨-, e⟩
    · rw [e] at z; exact absurd z (by decide)
    · rw [if_neg e] at h
      refine And.intro i1 ?_
      have h2 : P (some (.int (a c_P_there (nI p).toNatClampNeg))) (cs m a l w) := by rw [c1]; exact h
      exact h2
  · have z : ¬ g = 0 := z
    rcases hg with ⟨-, e⟩ | ⟨e, -⟩
    · rw [if_pos e] at h
      refine And.intro i1 ?_
      refine And.intro i1 ?_
      have h2 : P (some (.int (a c_P_there (nI p).toNatClampNeg ||| (1 <<< (a c_P_named (nI p).toNatClampNeg &&& 31))))) (cs m a l w) := by rw [c1]; exact h
      exact h2
    · exact absurd e z
set_option maxRecDepth 100000 in
theorem cc_thereAfter (d : Nat) {N p : Nat} (hN : N ≤ 241) (hp : p < N) (hs : m c_P_size = nI N) (P : pv_R) (h : P (some (.int (taV a p))) (cs m a l w)) : pv_call cq_mt (d + 2) cq_m_Places_thereAfter [.ref 2, .int (nI p)] (cs m a l w) P := by
  have i1 : vp_in (nI p) 241 := vp_in_nI (by omega) (by decide)
  have c1 : (nI p).toNatClampNeg = p := nI_clamp (by omega)
  refine pv_call_of rfl rfl rfl (pv_run [38] 60 ?_)
  refine cc_has d m a (p := p) (b := N) (by omega) (by omega) hs _ (fun _ => ?_) (fun y => absurd hp y)
  refine And.intro (fun z => absurd z (by decide)) (fun _ => ?_)
  refine And.intro i1 ?_
  refine And.intro (fun z => ?_) (fun z => ?_)
  · have z : a c_P_sort (nI p).toNatClampNeg = 36 := z
    rw [c1] at z
    exact ta_38 (d + 1) (by omega) P 1 (Or.inl ⟨rfl, Or.inl z⟩) h
  · have z : ¬ a c_P_sort (nI p).toNatClampNeg = 36 := z
    rw [c1] at z
    refine And.intro i1 ?_
    refine And.intro (fun y => ?_) (fun y => ?_)
    · have y : a c_P_sort (nI p).toNatClampNeg = 37 := y
      rw [c1] at y
      exact ta_38 (d + 1) (by omega) P 1 (Or.inl ⟨rfl, Or.inr y⟩) h
    · have y : ¬ a c_P_sort (nI p).toNatClampNeg = 37 := y
      rw [c1] at y
      exact ta_38 (d + 1) (by omega) P 0 (Or.inr ⟨rfl, fun e => e.elim z y⟩) h
def ctW (m : Nat → Int32) (w : Int64) (y : Int32) : Int32 := if y = 0 then m c_P_size else if y = 1 then m c_V_size else if y = 2 then m c_J_size else if y = 3 then m c_A_collectedSize else if y = 4 then (if rch w then 1 else 0) else if y = 5 then m c_P_thereAtEnd &&& (uOn w ^^^ (-1)) else -2
set_option maxRecDepth 100000 in
theorem cc_Acount (d : Nat) (y : Int32) (P : pv_R) (h : P (some (.int (ctW m w y))) (cs m a l w)) : pv_call cq_mt (d + 2) cq_m_A_count [.ref 0, .int y] (cs m a l w) P := by
  unfold ctW at h
  refine pv_call_of rfl rfl rfl (pv_run [] 60 ?_)
  refine And.intro (fun z => ?_) (fun z0 => ?_)
  · rw [if_pos (show y = 0 from z)] at h; exact h
  rw [if_neg (show ¬ y = 0 from z0)] at h
  refine And.intro (fun z => ?_) (fun z1 => ?_)
  · rw [if_pos (show y = 1 from z)] at h; exact h
  rw [if_neg (show ¬ y = 1 from z1)] at h
  refine And.intro (fun z => ?_) (fun z2 => ?_)
  · rw [if_pos (show y = 2 from z)] at h; exact h
  rw [if_neg (show ¬ y = 2 from z2)] at h
  refine And.intro (fun z => ?_) (fun z3 => ?_)
  · rw [if_pos (show y = 3 from z)] at h; exact h
  rw [if_neg (show ¬ y = 3 from z3)] at h
  refine And.intro (fun z => ?_) (fun z4 => ?_)
  · rw [if_pos (show y = 4 from z)] at h
    refine cc_isReached d (cs m a l w) w _ (fun q => ?_) (fun q => ?_)
    · rw [if_pos q] at h
      exact And.intro (fun e => absurd e (by decide)) (fun _ => h)
    · rw [if_neg q] at h
      exact And.intro (fun _ => h) (fun e => absurd rfl e)
  rw [if_neg (show ¬ y = 4 from z4)] at h
  refine And.intro (fun z => ?_) (fun z5 => ?_)
  · rw [if_pos (show y = 5 from z)] at h
    exact cc_uOn d (cs m a l w) w _ h
  rw [if_neg (show ¬ y = 5 from z5)] at h
  exact h
def vrV (a : Nat → Nat → Int32) (v : Nat) (y : Int32) : Int32 := if y = 0 then a c_V_name v else if y = 1 then (if a c_V_isFinal v = 0 then 0 else 1) else if y = 2 then a c_V_giver v else if y = 3 then (if a c_V_couldBeFinal v = 0 then 0 else 1) else if y = 4 then a c_V_uses v else if y = 5 then a c_V_assigns v else -2
set_option maxRecDepth 100000 in
theorem cc_Avariable (d : Nat) {V : Nat} (hV : V ≤ 12) (hs : m c_V_size = nI V) (x y : Int32) (P : pv_R) (h1 : ∀ v, x = nI v → v < V → P (some (.int (vrV a v y))) (cs m a l w)) (h0 : (∀ p, p < V → ¬ x = nI p) → P (some (.int (-2))) (cs m a l w)) : pv_call cq_mt (d + 2) cq_m_A_variable [.ref 0, .int x, .int y] (cs m a l w) P := by
  refine pv_call_of rfl rfl rfl (pv_run [] 60 ?_)
  refine cc_vhasX d hV hs x _ (fun p e hp => ?_) (fun q => ?_)
  · have h := h1 p e hp
    subst e
    have i1 : vp_in (nI p) 12 := vp_in_nI (by omega) (by decide)
    have c1 : (nI p).toNatClampNeg = p := nI_clamp (by omega)
    unfold vrV at h
    refine And.intro (fun z => absurd z (by decide)) (fun _ => ?_)
    refine And.intro (fun z => ?_) (fun z0 => ?_)
    · rw [if_pos (show y = 0 from z)] at h
      refine And.intro i1 ?_
      have h2 : P (some (.int (a c_V_name (nI p).toNatClampNeg))) (cs m a l w) := by rw [c1]; exact h
      exact h2
    rw [if_neg (show ¬ y = 0 from z0)] at h
    refine And.intro (fun z => ?_) (fun z1 => ?_)
    · rw [if_pos (show y = 1 from z)] at h
      refine And.intro i1 ?_
      refine And.intro (fun q => ?_) (fun q => ?_)
      · have q : a c_V_isFinal (nI p).toNatClampNeg = 0 := q
        rw [c1] at q
        rw [if_pos q] at h; exact h
      · have q : ¬ a c_V_isFinal (nI p).toNatClampNeg = 0 := q
        rw [c1] at q
        rw [if_neg q] at h; exact h
    rw [if_neg (show ¬ y = 1 from z1)] at h
    refine And.intro (fun z => ?_) (fun z2 => ?_)
    · rw [if_pos (show y = 2 from z)] at h
      refine And.intro i1 ?_
      have h2 : P (some (.int (a c_V_giver (nI p).toNatClampNeg))) (cs m a l w) := by rw [c1]; exact h
      exact h2
    rw [if_neg (show ¬ y = 2 from z2)] at h
    refine And.intro (fun z => ?_) (fun z3 => ?_)
    · rw [if_pos (show y = 3 from z)] at h
      refine And.intro i1 ?_
      refine And.intro (fun q => ?_) (fun q => ?_)
      · have q : a c_V_couldBeFinal (nI p).toNatClampNeg = 0 := q
        rw [c1] at q
        rw [if_pos q] at h; exact h
      · have q : ¬ a c_V_couldBeFinal (nI p).toNatClampNeg = 0 := q
        rw [c1] at q
        rw [if_neg q] at h; exact h
    rw [if_neg (show ¬ y = 3 from z3)] at h
    refine And.intro (fun z => ?_) (fun z4 => ?_)
    · rw [if_pos (show y = 4 from z)] at h
      refine And.intro i1 ?_
      have h2 : P (some (.int (a c_V_uses (nI p).toNatClampNeg))) (cs m a l w) := by rw [c1]; exact h
      exact h2
    rw [if_neg (show ¬ y = 4 from z4)] at h
    refine And.intro (fun z => ?_) (fun z5 => ?_)
    · rw [if_pos (show y = 5 from z)] at h
      refine And.intro i1 ?_
      have h2 : P (some (.int (a c_V_assigns (nI p).toNatClampNeg))) (cs m a l w) := by rw [c1]; exact h
      exact h2
    rw [if_neg (show ¬ y = 5 from z5)] at h
    exact h
  · refine And.intro (fun _ => ?_) (fun z => absurd rfl z)
    exact h0 q
end CU1
