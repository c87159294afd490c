/-! count of the reference -/
section RQ4
variable {m : Nat → Int32} {a : Nat → Nat → Int32}
def ctR (m : Nat → Int32) (a : Nat → Nat → Int32) (N V : Nat) (y : Int32) : Int32 :=
  if y = 0 then m r_nodes else if y = 1 then m r_variables else if y = 2 then nI (ctK (erK a V) N 0) else if y = 3 then m r_collected
  else if y = 4 then (if a r_seen (3600 * V + 1300) = 0 then 0 else 1) else if y = 5 then fsR (fun v => a r_seen (3600 * v + 1300)) 2 (m r_thereAtEnd) V 0 0 else -2
theorem ctK_le {K : Nat → Int32} : ∀ (j n : Nat), ctK K j n ≤ j
  | 0, _ => Nat.le_refl _
  | j + 1, n => by
    unfold ctK
    have := ctK_le (K := K) j (n + 1)
    split <;> omega
set_option maxRecDepth 100000 in
theorem ct_50 (d : Nat) {N V : Nat} (hq : rqOK m a N V) (x : Int32) (P : pv_R) (h : P (some (.int (nI (ctK (erK a V) N 0)))) (rs m a)) : ∀ (j k : Nat), k + j = ctK (erK a V) N 0 → pv_go rq_T69 0 (pv_call rq_mt (d + 5)) P (50, [(0, .ref 0), (1, .int x), (2, .int (nI k))], [], rs m a) := by
  have hl := ctK_le (K := erK a V) N 0
  have hN := hq.1.1
  intro j
  induction j with
  | zero =>
    intro k hk
    have e := (esN_none (K := erK a V) N 0 k).mpr (by omega)
    refine pv_run [] 20 ?_
    refine rc_error d hq (nI k) 0 _ (fun u => absurd ⟨by decide, by decide⟩ u) (fun _ u => absurd u (nI_pos (by omega))) (fun _ i ei hi => ?_)
    have : k = i := by rw [nI_eq (by omega) hi] at ei; exact ei
    subst this
    rw [e]
    refine And.intro (fun _ => ?_) (fun u => absurd rfl u)
    rw [show ctK (erK a V) N 0 = k by omega] at h
    exact h
  | succ j ih =>
    intro k hk
    refine pv_run [50] 20 ?_
    refine rc_error d hq (nI k) 0 _ (fun u => absurd ⟨by decide, by decide⟩ u) (fun _ u => absurd u (nI_pos (by omega))) (fun _ i ei hi => ?_)
    have : k = i := by rw [nI_eq (by omega) hi] at ei; exact ei
    subst this
    have bd : ∀ (j n l q : Nat), esN (erK a V) j n l = some q → q < n + j := by
      intro j
      induction j with
      | zero => intro n l q e; cases e
      | succ j ih =>
        intro n l q e
        unfold esN at e
        split at e
        · have := ih (n + 1) l q e; omega
        · split at e
          · cases e; omega
          · have := ih (n + 1) (l - 1) q e; omega
    cases e : esN (erK a V) N 0 k with
    | none =>
      have := (esN_none (K := erK a V) N 0 k).mp e
      omega
    | some n =>
      have bn := bd N 0 k n e
      have nn : ¬ nI n = -1 := nN n (by omega)
      refine And.intro (fun u => ?_) (fun _ => ?_)
      · have u : (if (0 : Int32) = 0 then nI n else erK a V n) = -1 := u
        rw [if_pos rfl] at u
        exact absurd u nn
      · have g := ih (k + 1) (by omega)
        rw [← nI_1] at g
        exact g
def ct4 (L : pv_L) : Prop := L = [] ∨ ∃ u, L = [(4, .int u)]
theorem ix13 {v : Nat} : (3600 : Int32) * nI v + 1300 = nI (3600 * v + 1300) := by rw [mul36, show (1300 : Int32) = nI 1300 from rfl, nI_add]
set_option maxRecDepth 100000 in
theorem ct_155 (d : Nat) (x s : Int32) (v : Nat) (u : Int32) (P : pv_R) (w : Int32) (h : pv_go rq_T69 0 (pv_call rq_mt d) P (101, [(0, .ref 0), (1, .int x), (2, .int (s ||| w)), (3, .int (nI (v + 1))), (4, .int u)], [], rs m a)) : pv_go rq_T69 0 (pv_call rq_mt d) P (156, [(0, .ref 0), (1, .int x), (2, .int s), (3, .int (nI v)), (4, .int u)], [.int w, .int s], rs m a) := by
  rw [← nI_1] at h
  refine pv_run [101] 20 ?_
  exact h
set_option maxRecDepth 100000 in
theorem ct_101 (d : Nat) {V : Nat} (hV : V ≤ 12) (hvs : m r_variables = nI V) (x : Int32) (P : pv_R) : ∀ (j v : Nat) (s : Int32) (L : pv_L), v + j = V → ct4 L → P (some (.int (fsR (fun v => a r_seen (3600 * v + 1300)) 2 (m r_thereAtEnd) j v s))) (rs m a) → pv_go rq_T69 0 (pv_call rq_mt d) P (101, [(0, .ref 0), (1, .int x), (2, .int s), (3, .int (nI v))] ++ L, [], rs m a) := by
  intro j
  induction j with
  | zero =>
    intro v s L hj hL h
    have e : v = V := by omega
    subst e
    have c : m 19 ≤ nI v := by rw [show m 19 = nI v from hvs]; exact Int32.le_refl _
    rcases hL with rfl | ⟨u, rfl⟩
    · refine pv_run [] 20 ?_
      exact And.intro (fun _ => h) (fun z => absurd c z)
    · refine pv_run [] 20 ?_
      exact And.intro (fun _ => h) (fun z => absurd c z)
  | succ j ih =>
    intro v s L hj hL h
    have c : ¬ m 19 ≤ nI v := by rw [show m 19 = nI V from hvs, nI_leI (by omega) (by omega)]; omega
    have i1 : vp_in ((3600 : Int32) * nI v + 1300) 46800 := by rw [ix13]; exact vp_in_nI (by omega) (by decide)
    have c1 : ((3600 : Int32) * nI v + 1300).toNatClampNeg = 3600 * v + 1300 := by rw [ix13]; exact nI_clamp (by omega)
    have h : P (some (.int (fsR (fun v => a r_seen (3600 * v + 1300)) 2 (m r_thereAtEnd) j (v + 1) (s ||| (if (a r_seen (3600 * v + 1300) = 0 ∨ a r_seen (3600 * v + 1300) = 2) ∧ m r_thereAtEnd >>> (nI v &&& 31) &&& 1 = 1 then (1 : Int32) <<< (nI v &&& 31) else 0))))) (rs m a) := h
    have g125 : pv_go rq_T69 0 (pv_call rq_mt d) P (125, [(0, .ref 0), (1, .int x), (2, .int s), (3, .int (nI v)), (4, .int (a r_seen (3600 * v + 1300)))], [], rs m a) := by
      have nx := fun w => ct_155 (m := m) (a := a) d x s v (a r_seen (3600 * v + 1300)) P w
      have fin : ∀ w, w = (if (a r_seen (3600 * v + 1300) = 0 ∨ a r_seen (3600 * v + 1300) = 2) ∧ m r_thereAtEnd >>> (nI v &&& 31) &&& 1 = 1 then (1 : Int32) <<< (nI v &&& 31) else 0) → pv_go rq_T69 0 (pv_call rq_mt d) P (156, [(0, .ref 0), (1, .int x), (2, .int s), (3, .int (nI v)), (4, .int (a r_seen (3600 * v + 1300)))], [.int w, .int s], rs m a) := fun w e => nx w (by rw [e]; exact ih (v + 1) _ [(4, .int (a r_seen (3600 * v + 1300)))] (by omega) (Or.inr ⟨_, rfl⟩) h)
      refine pv_run [156] 40 ?_
      refine And.intro (fun z => ?_) (fun z => ?_)
      · refine And.intro (fun q => ?_) (fun q => ?_)
        · exact fin _ (if_pos ⟨Or.inl z, q⟩).symm
        · exact fin _ (if_neg (fun u => q u.2)).symm
      · refine And.intro (fun y => ?_) (fun y => ?_)
        · refine And.intro (fun q => ?_) (fun q => ?_)
          · exact fin _ (if_pos ⟨Or.inr y, q⟩).symm
          · exact fin _ (if_neg (fun u => q u.2)).symm
        · exact fin _ (if_neg (fun u => u.1.elim z y)).symm
    rw [← c1] at g125
    rcases hL with rfl | ⟨u, rfl⟩
    · refine pv_run [125] 20 ?_
      refine And.intro (fun z => absurd z c) (fun _ => ?_)
      refine And.intro i1 ?_
      exact g125
    · refine pv_run [125] 20 ?_
      refine And.intro (fun z => absurd z c) (fun _ => ?_)
      refine And.intro i1 ?_
      exact g125
set_option maxRecDepth 100000 in
theorem rc_count (d : Nat) {N V : Nat} (hq : rqOK m a N V) (y : Int32) (P : pv_R) (h : P (some (.int (ctR m a N V y))) (rs m a)) : pv_call rq_mt (d + 6) rq_m_R_count [.ref 0, .int y] (rs m a) P := by
  have hV := hq.2.1
  unfold ctR at h
  refine pv_call_of rfl rfl rfl (pv_run [50, 101] 60 ?_)
  refine And.intro (fun z => ?_) (fun z => ?_)
  · rw [if_pos (show y = 0 from z)] at h
    exact h
  rw [if_neg (show ¬ y = 0 from z)] at h
  refine And.intro (fun z => ?_) (fun z => ?_)
  · rw [if_pos (show y = 1 from z)] at h
    exact h
  rw [if_neg (show ¬ y = 1 from z)] at h
  refine And.intro (fun z => ?_) (fun z => ?_)
  · rw [if_pos (show y = 2 from z)] at h
    exact ct_50 d hq y P h _ 0 (Nat.zero_add _)
  rw [if_neg (show ¬ y = 2 from z)] at h
  refine And.intro (fun z => ?_) (fun z => ?_)
  · rw [if_pos (show y = 3 from z)] at h
    exact h
  rw [if_neg (show ¬ y = 3 from z)] at h
  refine And.intro (fun z => ?_) (fun z => ?_)
  · rw [if_pos (show y = 4 from z)] at h
    have ex : (3600 : Int32) * m 19 + 1300 = nI (3600 * V + 1300) := by rw [show m 19 = nI V from hV.2]; exact ix13
    have i1 : vp_in ((3600 : Int32) * m 19 + 1300) 46800 := by rw [ex]; exact vp_in_nI (by omega) (by decide)
    have c1 : ((3600 : Int32) * m 19 + 1300).toNatClampNeg = 3600 * V + 1300 := by rw [ex]; exact nI_clamp (by omega)
    refine And.intro i1 ?_
    refine And.intro (fun q => ?_) (fun q => ?_)
    · have q : a 56 ((3600 : Int32) * m 19 + 1300).toNatClampNeg = 0 := q
      rw [c1] at q
      rw [if_pos q] at h
      exact h
    · have q : ¬ a 56 ((3600 : Int32) * m 19 + 1300).toNatClampNeg = 0 := q
      rw [c1] at q
      rw [if_neg q] at h
      exact h
  rw [if_neg (show ¬ y = 4 from z)] at h
  refine And.intro (fun z => ?_) (fun z => ?_)
  · rw [if_pos (show y = 5 from z)] at h
    exact ct_101 (d + 5) hV.1 hV.2 y P V 0 0 [] (by omega) (Or.inl rfl) h
  rw [if_neg (show ¬ y = 5 from z)] at h
  exact h
end RQ4
