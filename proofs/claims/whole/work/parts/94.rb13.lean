/-! how many edges there are -/
def cC (a : Nat → Nat → Int32) (p : Int32) : Nat → Nat → Nat
  | 0, _ => 0
  | j + 1, i => (if ¬ a r_isStmt (dN (a r_byNumber i)) = 0 ∧ a r_around (dN (a r_byNumber i)) = p then 1 else 0) + cC a p j (i + 1)
def sC (a : Nat → Nat → Int32) (j i : Nat) : Nat → Nat
  | 0 => 0
  | M + 1 => sC a j i M + cC a (nI M) j i
theorem sC_le (a : Nat → Nat → Int32) : ∀ (j i M : Nat), M ≤ 260 → sC a j i M ≤ j
  | 0, i, M, _ => by
    induction M with
    | zero => exact Nat.le_refl _
    | succ M ih =>
      show sC a 0 i M + 0 ≤ 0
      exact ih (by omega)
  | j + 1, i, M, hM => by
    have ih := sC_le a j (i + 1) M hM
    have key : ∀ M, M ≤ 260 → sC a (j + 1) i M ≤ sC a j (i + 1) M + (if ∃ x, x < M ∧ a r_around (dN (a r_byNumber i)) = nI x then 1 else 0) := by
      intro M
      induction M with
      | zero => intro _; exact Nat.le_add_right _ _
      | succ M ihM =>
        intro hM
        have h1 := ihM (by omega)
        show sC a (j + 1) i M + ((if ¬ a r_isStmt (dN (a r_byNumber i)) = 0 ∧ a r_around (dN (a r_byNumber i)) = nI M then 1 else 0) + cC a (nI M) j (i + 1)) ≤ (sC a j (i + 1) M + cC a (nI M) j (i + 1)) + (if ∃ x, x < M + 1 ∧ a r_around (dN (a r_byNumber i)) = nI x then 1 else 0)
        by_cases q : a r_around (dN (a r_byNumber i)) = nI M
        · have n : ¬ ∃ x, x < M ∧ a r_around (dN (a r_byNumber i)) = nI x := by
            rintro ⟨x, hx, e⟩
            rw [q, nI_eq (by omega) (by omega)] at e
            omega
          rw [if_neg n] at h1
          rw [if_pos (⟨M, Nat.lt_succ_self M, q⟩ : ∃ x, x < M + 1 ∧ a r_around (dN (a r_byNumber i)) = nI x)]
          split <;> omega
        · rw [if_neg (fun u => q u.2)]
          by_cases n : ∃ x, x < M ∧ a r_around (dN (a r_byNumber i)) = nI x
          · rw [if_pos n] at h1
            obtain ⟨x, hx, e⟩ := n
            rw [if_pos ⟨x, by omega, e⟩]
            omega
          · rw [if_neg n] at h1
            omega
    have h2 := key M hM
    split at h2 <;> omega
theorem cnG_len2 (a : Nat → Nat → Int32) (p pt : Int32) : ∀ (j i last : Nat) (E : eL_T), (cnG a p pt j i last E).2.length ≤ E.length + cC a p j i
  | 0, _, _, _ => Nat.le_refl _
  | j + 1, i, last, E => by
    unfold cnG cC
    split
    · rename_i h
      have h1 := cnG_len2 a p pt j (i + 1) (5 * dN (a r_byNumber i) + 3) (edF last (nI (5 * dN (a r_byNumber i) + 0)) 0 E)
      have h2 := edF_len last (nI (5 * dN (a r_byNumber i) + 0)) 0 E
      rw [if_pos ⟨h.1, h.2.1⟩]
      omega
    · have h1 := cnG_len2 a p pt j (i + 1) last E
      omega
theorem cnF_len2 (a : Nat → Nat → Int32) (N : Nat) (p pt : Int32) (f : Nat) (t : Int32) (E : eL_T) : (cnF a N p pt f t E).length ≤ E.length + cC a p N 0 + 1 := by
  unfold cnF
  have h1 := edF_len (cnG a p pt N 0 f E).1 t 0 (cnG a p pt N 0 f E).2
  have h2 := cnG_len2 a p pt N 0 f E
  omega
theorem bcG_len (a : Nat → Nat → Int32) (p e : Nat) : ∀ (j i last : Nat) (E : eL_T), (bcG a p e j i last E).2.length ≤ E.length + 3 * cC a (nI p) j i
  | 0, _, _, _ => Nat.le_refl _
  | j + 1, i, last, E => by
    unfold bcG cC
    split
    · rename_i h
      generalize dN (a r_byNumber i) = q at *
      have h0 : (if a r_isMarked q = 0 then E else enF e (nI (5 * q + 0)) (nI (5 * q + 0)) E).length ≤ E.length + 2 := by
        have := enF_len e (nI (5 * q + 0)) (nI (5 * q + 0)) E
        split <;> omega
      have h3 := edF_len (last - 1) (nI (5 * q + 0)) 0 (if a r_isMarked q = 0 then E else enF e (nI (5 * q + 0)) (nI (5 * q + 0)) E)
      have h1 := bcG_len a p e j (i + 1) (5 * q + 3 + 1) (if last = 0 then (if a r_isMarked q = 0 then E else enF e (nI (5 * q + 0)) (nI (5 * q + 0)) E) else edF (last - 1) (nI (5 * q + 0)) 0 (if a r_isMarked q = 0 then E else enF e (nI (5 * q + 0)) (nI (5 * q + 0)) E))
      have h2 : (if last = 0 then (if a r_isMarked q = 0 then E else enF e (nI (5 * q + 0)) (nI (5 * q + 0)) E) else edF (last - 1) (nI (5 * q + 0)) 0 (if a r_isMarked q = 0 then E else enF e (nI (5 * q + 0)) (nI (5 * q + 0)) E)).length ≤ E.length + 3 := by split <;> omega
      omega
    · have h1 := bcG_len a p e j (i + 1) last E
      omega
theorem bcF_len (a : Nat → Nat → Int32) (N p e : Nat) (af : Int32) (E : eL_T) : (bcF a N p e af E).length ≤ E.length + 3 * cC a (nI p) N 0 + 4 := by
  unfold bcF bcT
  have h1 := bcG_len a p e N 0 0 (edF (5 * p + 0) (nI (5 * e + 0)) 0 E)
  have h2 := edF_len (5 * p + 0) (nI (5 * e + 0)) 0 E
  have h3 := edF_len ((bcG a p e N 0 0 (edF (5 * p + 0) (nI (5 * e + 0)) 0 E)).1 - 1) af 0 (bcG a p e N 0 0 (edF (5 * p + 0) (nI (5 * e + 0)) 0 E)).2
  generalize hX : (if (bcG a p e N 0 0 (edF (5 * p + 0) (nI (5 * e + 0)) 0 E)).1 = 0 then (bcG a p e N 0 0 (edF (5 * p + 0) (nI (5 * e + 0)) 0 E)).2 else edF ((bcG a p e N 0 0 (edF (5 * p + 0) (nI (5 * e + 0)) 0 E)).1 - 1) af 0 (bcG a p e N 0 0 (edF (5 * p + 0) (nI (5 * e + 0)) 0 E)).2) = X
  have h4 : X.length ≤ E.length + 3 * cC a (nI p) N 0 + 2 := by
    rw [← hX]
    split <;> omega
  have h5 := enF_len e af af X
  split <;> omega
theorem ttF_len (a : Nat → Nat → Int32) (N p : Nat) (z : Int32) (E : eL_T) : (ttF a N p z E).length ≤ E.length + 3 * cC a (nI p) N 0 + 3 := by
  unfold ttF
  have h1 := cnF_len2 a N (nI p) 0 (5 * p + 0) z E
  generalize hX : (if a r_hasCatch p = 0 then cnF a N (nI p) 0 (5 * p + 0) z E else cnF a N (nI p) 1 (1301 + 3 * p) z (cnF a N (nI p) 0 (5 * p + 0) z E)) = X
  have h2 : X.length ≤ E.length + 2 * cC a (nI p) N 0 + 2 := by
    rw [← hX]
    have h3 := cnF_len2 a N (nI p) 1 (1301 + 3 * p) z (cnF a N (nI p) 0 (5 * p + 0) z E)
    split <;> omega
  show (if a r_hasEnd p = 0 then (if a r_hasCatch p = 0 then cnF a N (nI p) 0 (5 * p + 0) z E else cnF a N (nI p) 1 (1301 + 3 * p) z (cnF a N (nI p) 0 (5 * p + 0) z E)) else cnF a N (nI p) 2 (1301 + 3 * p + 1) (nI (1301 + 3 * p + 2)) (if a r_hasCatch p = 0 then cnF a N (nI p) 0 (5 * p + 0) z E else cnF a N (nI p) 1 (1301 + 3 * p) z (cnF a N (nI p) 0 (5 * p + 0) z E))).length ≤ _
  rw [hX]
  have h3 := cnF_len2 a N (nI p) 2 (1301 + 3 * p + 1) (nI (1301 + 3 * p + 2)) X
  split <;> omega
theorem ifF_len (p c0 o0 o1 : Nat) (E : eL_T) : (ifF p c0 o0 o1 E).length ≤ E.length + 5 := by
  unfold ifF
  have h1 := edF_len (5 * p + 0) (nI (5 * (c0 - 1) + 0)) 0 E
  have h2 := enF_len (c0 - 1) (nI (5 * (o0 - 1) + 0)) (if o1 = 0 then nI (5 * p + 3) else nI (5 * (o1 - 1) + 0)) (edF (5 * p + 0) (nI (5 * (c0 - 1) + 0)) 0 E)
  have h3 := edF_len (5 * (o0 - 1) + 3) (nI (5 * p + 3)) 0 (enF (c0 - 1) (nI (5 * (o0 - 1) + 0)) (if o1 = 0 then nI (5 * p + 3) else nI (5 * (o1 - 1) + 0)) (edF (5 * p + 0) (nI (5 * (c0 - 1) + 0)) 0 E))
  generalize edF (5 * (o0 - 1) + 3) (nI (5 * p + 3)) 0 (enF (c0 - 1) (nI (5 * (o0 - 1) + 0)) (if o1 = 0 then nI (5 * p + 3) else nI (5 * (o1 - 1) + 0)) (edF (5 * p + 0) (nI (5 * (c0 - 1) + 0)) 0 E)) = X at *
  have h4 := edF_len (5 * (o1 - 1) + 3) (nI (5 * p + 3)) 0 X
  show (if o1 = 0 then X else edF (5 * (o1 - 1) + 3) (nI (5 * p + 3)) 0 X).length ≤ _
  split <;> omega
theorem len_ite {c : Prop} [Decidable c] {A B : eL_T × wL_T} {n : Nat} (h1 : c → A.1.length ≤ n) (h2 : ¬ c → B.1.length ≤ n) : (if c then A else B).1.length ≤ n := by
  by_cases h : c
  · rw [if_pos h]; exact h1 h
  · rw [if_neg h]; exact h2 h
theorem bsF_len (a : Nat → Nat → Int32) (N k p c0 o0 c1 o1 : Nat) (E : eL_T) (W : wL_T) : (bsF a N k p c0 o0 c1 o1 E W).1.length ≤ E.length + 3 * cC a (nI p) N 0 + 8 := by
  unfold bsF
  refine len_ite (fun _ => ?_) (fun _ => ?_)
  · exact Nat.le_trans (edF_len _ _ _ _) (by omega)
  refine len_ite (fun _ => ?_) (fun _ => ?_)
  · exact Nat.le_trans (edF_len _ _ _ _) (Nat.le_trans (Nat.succ_le_succ (edF_len _ _ _ _)) (by omega))
  refine len_ite (fun _ => ?_) (fun _ => ?_)
  · exact Nat.le_trans (enF_len _ _ _ _) (Nat.le_trans (Nat.add_le_add_right (edF_len _ _ _ _) 2) (by omega))
  refine len_ite (fun _ => ?_) (fun _ => ?_)
  · exact Nat.le_trans (enF_len _ _ _ _) (Nat.le_trans (Nat.add_le_add_right (edF_len _ _ _ _) 2) (Nat.le_trans (Nat.add_le_add_right (Nat.add_le_add_right (edF_len _ _ _ _) 1) 2) (by omega)))
  refine len_ite (fun _ => ?_) (fun _ => ?_)
  · exact Nat.le_trans (enF_len _ _ _ _) (Nat.le_trans (Nat.add_le_add_right (edF_len _ _ _ _) 2) (Nat.le_trans (Nat.add_le_add_right (Nat.add_le_add_right (enF_len _ _ _ _) 1) 2) (Nat.le_trans (Nat.add_le_add_right (Nat.add_le_add_right (Nat.add_le_add_right (edF_len _ _ _ _) 2) 1) 2) (by omega))))
  refine len_ite (fun _ => ?_) (fun _ => ?_)
  · exact Nat.le_trans (ifF_len _ _ _ _ _) (by omega)
  refine len_ite (fun _ => ?_) (fun _ => ?_)
  · exact Nat.le_trans (bcF_len _ _ _ _ _ _) (by omega)
  refine len_ite (fun _ => ?_) (fun _ => ?_)
  · exact Nat.le_trans (ttF_len _ _ _ _ _) (by omega)
  refine len_ite (fun _ => ?_) (fun _ => ?_)
  · exact Nat.le_trans (edF_len _ _ _ _) (Nat.le_trans (Nat.add_le_add_right (enF_len _ _ _ _) 1) (Nat.le_trans (Nat.add_le_add_right (Nat.add_le_add_right (edF_len _ _ _ _) 2) 1) (by omega)))
  refine len_ite (fun _ => ?_) (fun _ => ?_)
  · exact Nat.le_trans (cnF_len2 _ _ _ _ _ _ _) (by omega)
  show (if c0 = 0 then _ else _ : eL_T).length ≤ _
  split
  · exact Nat.le_trans (edF_len _ _ _ _) (by omega)
  · exact Nat.le_trans (enF_len _ _ _ _) (Nat.le_trans (Nat.add_le_add_right (edF_len _ _ _ _) 2) (by omega))
theorem beF_len (a : Nat → Nat → Int32) (p c0 c1 c2 : Nat) (E : eL_T) : (beF a p c0 c1 c2 E).length ≤ E.length + 8 := by
  unfold beF
  split
  · exact Nat.le_trans (enF_len _ _ _ _) (Nat.le_trans (Nat.add_le_add_right (edF_len _ _ _ _) 2) (by omega))
  split
  · exact Nat.le_trans (enF_len _ _ _ _) (Nat.le_trans (Nat.add_le_add_right (enF_len _ _ _ _) 2) (Nat.le_trans (Nat.add_le_add_right (Nat.add_le_add_right (edF_len _ _ _ _) 2) 2) (by omega)))
  split
  · exact Nat.le_trans (edF_len _ _ _ _) (by omega)
  split
  · exact Nat.le_trans (edF_len _ _ _ _) (by omega)
  split
  · exact Nat.le_trans (edF_len _ _ _ _) (Nat.le_trans (Nat.add_le_add_right (edF_len _ _ _ _) 1) (Nat.le_trans (Nat.add_le_add_right (Nat.add_le_add_right (enF_len _ _ _ _) 1) 1) (Nat.le_trans (Nat.add_le_add_right (Nat.add_le_add_right (Nat.add_le_add_right (edF_len _ _ _ _) 2) 1) 1) (by omega))))
  split
  · exact Nat.le_trans (enF_len _ _ _ _) (Nat.le_trans (Nat.add_le_add_right (enF_len _ _ _ _) 2) (Nat.le_trans (Nat.add_le_add_right (Nat.add_le_add_right (enF_len _ _ _ _) 2) 2) (Nat.le_trans (Nat.add_le_add_right (Nat.add_le_add_right (Nat.add_le_add_right (edF_len _ _ _ _) 2) 2) 2) (by omega))))
  split
  · exact Nat.le_trans (enF_len _ _ _ _) (Nat.le_trans (Nat.add_le_add_right (enF_len _ _ _ _) 2) (Nat.le_trans (Nat.add_le_add_right (Nat.add_le_add_right (edF_len _ _ _ _) 2) 2) (by omega)))
  · exact Nat.le_trans (edF_len _ _ _ _) (Nat.le_trans (Nat.add_le_add_right (edF_len _ _ _ _) 1) (by omega))
def trN (a : Nat → Nat → Int32) : Nat → Int32 → Nat
  | 0, _ => 0
  | k + 1, x => if a r_sort (dN x) = 84 then 1 else trN a k (a r_around (dN x))
theorem trN_iff (a : Nat → Nat → Int32) : ∀ (k : Nat) (x : Int32), triF a k x ↔ trN a k x = 1
  | 0, _ => ⟨fun h => h.elim, fun h => by cases h⟩
  | k + 1, x => by
    unfold triF trN
    by_cases h : a r_sort (dN x) = 84
    · rw [if_pos h]; exact ⟨fun _ => rfl, fun _ => Or.inl h⟩
    · rw [if_neg h, ← trN_iff a k]; exact ⟨fun u => u.elim (fun v => absurd v h) id, Or.inr⟩
/-- the edges out of a place that a T holds -/
def trB (a : Nat → Nat → Int32) (N k p : Nat) (E : eL_T) (W : wL_T) : eL_T × wL_T :=
  if trN a k (a r_around p) = 1 then
    (if a r_sort p = 61 then
      (fun r1 => (fun r2 => (fun r3 : Int32 × wL_T => (edF (5 * p + 2) r3.1 0 (edF (5 * p + 1) r2.1 0 (edF (5 * p + 0) r1.1 0 E)), r3.2)) (lvR a N 2 k p (a r_around p) r2.2)) (lvR a N 2 k p (a r_around p) r1.2)) (lvR a N 2 k p (a r_around p) W)
    else (edF (5 * p + 0) (lvR a N 2 k p (a r_around p) W).1 0 E, (lvR a N 2 k p (a r_around p) W).2))
  else (E, W)
def trX (a : Nat → Nat → Int32) (N k p : Nat) (Wf : wL_T) (E : eL_T) : eL_T :=
  if trN a k (a r_around p) = 1 then
    (if a r_sort p = 61 then edF (5 * p + 2) (coW Wf 2 (lvA a N 2 k p (a r_around p))) 0 (edF (5 * p + 1) (coW Wf 2 (lvA a N 2 k p (a r_around p))) 0 (edF (5 * p + 0) (coW Wf 2 (lvA a N 2 k p (a r_around p))) 0 E))
    else edF (5 * p + 0) (coW Wf 2 (lvA a N 2 k p (a r_around p))) 0 E)
  else E
theorem trB_len (a : Nat → Nat → Int32) (N k p : Nat) (E : eL_T) (W : wL_T) : (trB a N k p E W).1.length ≤ E.length + 3 := by
  unfold trB
  split
  · split
    · exact Nat.le_trans (edF_len _ _ _ _) (Nat.le_trans (Nat.add_le_add_right (edF_len _ _ _ _) 1) (Nat.le_trans (Nat.add_le_add_right (Nat.add_le_add_right (edF_len _ _ _ _) 1) 1) (by omega)))
    · exact Nat.le_trans (edF_len _ _ _ _) (by omega)
  · exact Nat.le_add_right _ _
theorem trB_fin {a : Nat → Nat → Int32} {N k p : Nat} {E : eL_T} {W Wf : wL_T} (h : (trB a N k p E W).2 <:+ Wf) : (trB a N k p E W).1 = trX a N k p Wf E ∧ W <:+ Wf ∧ (trN a k (a r_around p) = 1 → inW Wf 2 (lvA a N 2 k p (a r_around p))) := by
  unfold trB at h ⊢
  unfold trX
  by_cases h1 : trN a k (a r_around p) = 1
  · rw [if_pos h1] at h ⊢
    rw [if_pos h1]
    by_cases h2 : a r_sort p = 61
    · rw [if_pos h2] at h ⊢
      rw [if_pos h2]
      simp only [lvR_go] at h ⊢
      have g3 := goW_fin h
      have g2 := goW_fin g3.2.2
      have g1 := goW_fin g2.2.2
      refine ⟨?_, g1.2.2, fun _ => g1.2.1⟩
      rw [g3.1, g2.1, g1.1]
    · rw [if_neg h2] at h ⊢
      rw [if_neg h2]
      rw [lvR_go] at h ⊢
      have g1 := goW_fin h
      refine ⟨?_, g1.2.2, fun _ => g1.2.1⟩
      rw [g1.1]
  · rw [if_neg h1] at h ⊢
    rw [if_neg h1]
    exact ⟨rfl, h, fun e => absurd e h1⟩
