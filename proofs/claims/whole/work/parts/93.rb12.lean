/-! where leaving walks go, ways apart: inl a point (or -1), inr the way of a T -/
def lvA (a : Nat → Nat → Int32) (N code : Nat) : Nat → Nat → Int32 → Int32 ⊕ Nat
  | 0, _, _ => .inl (-1)
  | k + 1, inner, x =>
    if a r_sort (dN x) = 84 ∧ code = 2 ∧ a r_part inner = 0 ∧ ¬ a r_hasCatch (dN x) = 0 then .inl (nI (1301 + 3 * dN x))
    else if a r_sort (dN x) = 84 ∧ ¬ a r_hasEnd (dN x) = 0 ∧ a r_part inner < 2 then .inr (dN x)
    else if 2 < code ∧ dN x = (code - 3) / 2 then .inl (if code % 2 = 1 then nI (5 * dN x + 3) else 5 * oI (rchG a (nI (dN x)) 0 N 0 (if a r_sort (dN x) = 70 then 1 else 0)) + 0)
    else lvA a N code k (dN x) (a r_around (dN x))
def coW (W : wL_T) (c : Nat) : Int32 ⊕ Nat → Int32
  | .inl v => v
  | .inr t => nI (2100 + (scW t c W.reverse 0 - 1))
def inW (W : wL_T) (c : Nat) : Int32 ⊕ Nat → Prop
  | .inl _ => True
  | .inr t => (t, c) ∈ W
def goW (c : Nat) (W : wL_T) : Int32 ⊕ Nat → Int32 × wL_T
  | .inl v => (v, W)
  | .inr t => (nI (wyF t c W).1, (wyF t c W).2)
theorem lvR_go (a : Nat → Nat → Int32) (N c : Nat) (W : wL_T) : ∀ (k inner : Nat) (x : Int32), lvR a N c k inner x W = goW c W (lvA a N c k inner x)
  | 0, _, _ => rfl
  | k + 1, inner, x => by
    unfold lvR lvA
    split
    · rfl
    · split
      · rfl
      · split
        · rfl
        · exact lvR_go a N c W k _ _
theorem scW_0 (t c : Nat) : ∀ (L : List (Nat × Nat)) (k : Nat), scW t c L k = 0 ↔ ¬ (t, c) ∈ L
  | [], k => ⟨fun _ h => (nomatch h), fun _ => rfl⟩
  | x :: r, k => by
    unfold scW
    split
    · rename_i h
      exact ⟨fun z => by omega, fun z => absurd (List.mem_cons.mpr (Or.inl (Prod.ext h.1.symm h.2.symm))) z⟩
    · rename_i h
      rw [scW_0 t c r (k + 1), List.mem_cons]
      exact ⟨fun z u => u.elim (fun e => h ⟨(congrArg Prod.fst e).symm, (congrArg Prod.snd e).symm⟩) z, fun z u => z (Or.inr u)⟩
theorem scW_app (t c : Nat) : ∀ (L M : List (Nat × Nat)) (k : Nat), (t, c) ∈ L → scW t c (L ++ M) k = scW t c L k
  | [], _, _, h => nomatch h
  | x :: r, M, k, h => by
    show scW t c (x :: (r ++ M)) k = scW t c (x :: r) k
    unfold scW
    split
    · rfl
    · rename_i n
      refine scW_app t c r M (k + 1) ((List.mem_cons.mp h).elim (fun e => absurd ⟨?_, ?_⟩ n) id)
      · rw [← e]
      · rw [← e]
theorem scW_get (t c : Nat) : ∀ (L : List (Nat × Nat)) (k : Nat), (t, c) ∈ L → ∃ i, L[i]? = some (t, c) ∧ scW t c L k = k + i + 1
  | [], _, h => nomatch h
  | x :: r, k, h => by
    unfold scW
    split
    · rename_i e
      exact ⟨0, by rw [List.getElem?_cons_zero, ← e.1, ← e.2], rfl⟩
    · rename_i n
      obtain ⟨i, h1, h2⟩ := scW_get t c r (k + 1) ((List.mem_cons.mp h).elim (fun e => absurd ⟨by rw [← e], by rw [← e]⟩ n) id)
      exact ⟨i + 1, by rw [List.getElem?_cons_succ]; exact h1, by omega⟩
theorem suf_rev {W W' : wL_T} (h : W <:+ W') : ∃ M, W'.reverse = W.reverse ++ M := by
  obtain ⟨Z, rfl⟩ := h
  exact ⟨Z.reverse, List.reverse_append⟩
theorem coW_mono {W W' : wL_T} (h : W <:+ W') {c : Nat} : ∀ {A : Int32 ⊕ Nat}, inW W c A → coW W' c A = coW W c A ∧ inW W' c A
  | .inl v, _ => ⟨rfl, trivial⟩
  | .inr t, hi => by
    obtain ⟨M, e⟩ := suf_rev h
    have hm : (t, c) ∈ W.reverse := List.mem_reverse.mpr hi
    refine ⟨?_, h.subset hi⟩
    show nI (2100 + (scW t c W'.reverse 0 - 1)) = nI (2100 + (scW t c W.reverse 0 - 1))
    rw [e, scW_app t c _ M 0 hm]
theorem wyF_ok (t c : Nat) (W : wL_T) : W <:+ (wyF t c W).2 ∧ (t, c) ∈ (wyF t c W).2 ∧ (wyF t c W).1 = 2100 + (scW t c (wyF t c W).2.reverse 0 - 1) := by
  unfold wyF
  by_cases h : scW t c W.reverse 0 = 0
  · rw [if_pos h]
    refine ⟨⟨[(t, c)], rfl⟩, List.mem_cons_self, ?_⟩
    show 2100 + W.length = 2100 + (scW t c ((t, c) :: W).reverse 0 - 1)
    have key : ∀ (L : List (Nat × Nat)) (k : Nat), scW t c L k = 0 → scW t c (L ++ [(t, c)]) k = k + L.length + 1 := by
      intro L
      induction L with
      | nil => intro k _; show (if t = t ∧ c = c then k + 1 else _) = _; rw [if_pos ⟨rfl, rfl⟩]; rfl
      | cons x r ih =>
        intro k h0
        have e : scW t c (x :: r) k = if x.1 = t ∧ x.2 = c then k + 1 else scW t c r (k + 1) := rfl
        rw [e] at h0
        by_cases q : x.1 = t ∧ x.2 = c
        · rw [if_pos q] at h0; omega
        · rw [if_neg q] at h0
          show (if x.1 = t ∧ x.2 = c then k + 1 else scW t c (r ++ [(t, c)]) (k + 1)) = _
          rw [if_neg q, ih (k + 1) h0, List.length_cons]
          omega
    rw [List.reverse_cons, key _ 0 h, List.length_reverse]
    omega
  · rw [if_neg h]
    have hm : (t, c) ∈ W.reverse := by
      apply Classical.byContradiction
      intro z
      exact h ((scW_0 t c W.reverse 0).mpr z)
    exact ⟨List.suffix_refl W, List.mem_reverse.mp hm, rfl⟩
theorem goW_ok (c : Nat) (W : wL_T) : ∀ (A : Int32 ⊕ Nat), W <:+ (goW c W A).2 ∧ inW (goW c W A).2 c A ∧ (goW c W A).1 = coW (goW c W A).2 c A
  | .inl v => ⟨List.suffix_refl W, trivial, rfl⟩
  | .inr t => ⟨(wyF_ok t c W).1, (wyF_ok t c W).2.1, congrArg nI (wyF_ok t c W).2.2⟩
theorem goW_fin {c : Nat} {W Wf : wL_T} {A : Int32 ⊕ Nat} (h : (goW c W A).2 <:+ Wf) : (goW c W A).1 = coW Wf c A ∧ inW Wf c A ∧ W <:+ Wf := by
  have h1 := goW_ok c W A
  have h2 := coW_mono h h1.2.1
  exact ⟨h1.2.2.trans h2.1.symm, h2.2, h1.1.trans h⟩
/-- the edges of a statement, the ways known -/
def bsX (a : Nat → Nat → Int32) (N k p c0 o0 c1 o1 : Nat) (Wf : wL_T) (E : eL_T) : eL_T :=
  if a r_sort p = 36 ∨ a r_sort p = 37 then edF (5 * p + 0) (nI (5 * p + 3)) (20 + a r_variable p) E
  else if a r_sort p = 58 then edF (5 * (o0 - 1) + 3) (nI (5 * p + 3)) 0 (edF (5 * p + 0) (nI (5 * (o0 - 1) + 0)) 0 E)
  else if a r_sort p = 59 then enF (c0 - 1) (nI (5 * p + 3)) (nI (5 * p + 3)) (edF (5 * p + 0) (nI (5 * (c0 - 1) + 0)) 0 E)
  else if a r_sort p = 68 then enF (c0 - 1) (nI (5 * (o0 - 1) + 0)) (nI (5 * p + 3)) (edF (5 * (o0 - 1) + 3) (nI (5 * (c0 - 1) + 0)) 0 (edF (5 * p + 0) (nI (5 * (o0 - 1) + 0)) 0 E))
  else if a r_sort p = 70 then enF (c1 - 1) (nI (5 * (c0 - 1) + 0)) (nI (5 * (c0 - 1) + 0)) (edF (5 * (o0 - 1) + 3) (nI (5 * (c1 - 1) + 0)) 0 (enF (c0 - 1) (nI (5 * (o0 - 1) + 0)) (nI (5 * p + 3)) (edF (5 * p + 0) (nI (5 * (c0 - 1) + 0)) 0 E)))
  else if a r_sort p = 73 then ifF p c0 o0 o1 E
  else if a r_sort p = 83 then bcF a N p (c0 - 1) (nI (5 * p + 3)) E
  else if a r_sort p = 84 then ttF a N p (if a r_hasEnd p = 0 then nI (5 * p + 3) else coW Wf 0 (.inr p)) E
  else if a r_sort p = 87 then edF (5 * (o0 - 1) + 3) (nI (5 * (c0 - 1) + 0)) 0 (enF (c0 - 1) (nI (5 * (o0 - 1) + 0)) (nI (5 * p + 3)) (edF (5 * p + 0) (nI (5 * (c0 - 1) + 0)) 0 E))
  else if a r_sort p = 123 then cnF a N (nI p) 0 (5 * p + 0) (nI (5 * p + 3)) E
  else if c0 = 0 then edF (5 * p + 0) (coW Wf (cdF a p) (lvA a N (cdF a p) k p (a r_around p))) 0 E else enF (c0 - 1) (coW Wf (cdF a p) (lvA a N (cdF a p) k p (a r_around p))) (coW Wf (cdF a p) (lvA a N (cdF a p) k p (a r_around p))) (edF (5 * p + 0) (nI (5 * (c0 - 1) + 0)) 0 E)
def isLv (s : Int32) : Prop := s = 82 ∨ s = 88 ∨ s = 66 ∨ s = 67
theorem bsF_fin {a : Nat → Nat → Int32} {N k p c0 o0 c1 o1 : Nat} {E : eL_T} {W Wf : wL_T} (h : (bsF a N k p c0 o0 c1 o1 E W).2 <:+ Wf) : (bsF a N k p c0 o0 c1 o1 E W).1 = bsX a N k p c0 o0 c1 o1 Wf E ∧ W <:+ Wf ∧ (a r_sort p = 84 → ¬ a r_hasEnd p = 0 → inW Wf 0 (.inr p)) ∧ (isLv (a r_sort p) → inW Wf (cdF a p) (lvA a N (cdF a p) k p (a r_around p))) := by
  unfold bsF at h ⊢
  unfold bsX
  unfold isLv
  by_cases h1 : a r_sort p = 36 ∨ a r_sort p = 37
  · rw [if_pos h1] at h ⊢
    refine ⟨by rw [if_pos h1], h, fun e => ?_, fun e => ?_⟩
    · rw [e] at h1; exact absurd h1 (by decide)
    · rcases e with e | e | e | e <;> rw [e] at h1 <;> exact absurd h1 (by decide)
  rw [if_neg h1] at h ⊢
  rw [if_neg h1]
  by_cases h2 : a r_sort p = 58
  · rw [if_pos h2] at h ⊢
    refine ⟨by rw [if_pos h2], h, fun e => ?_, fun e => ?_⟩
    · rw [e] at h2; exact absurd h2 (by decide)
    · rcases e with e | e | e | e <;> rw [e] at h2 <;> exact absurd h2 (by decide)
  rw [if_neg h2] at h ⊢
  rw [if_neg h2]
  by_cases h3 : a r_sort p = 59
  · rw [if_pos h3] at h ⊢
    refine ⟨by rw [if_pos h3], h, fun e => ?_, fun e => ?_⟩
    · rw [e] at h3; exact absurd h3 (by decide)
    · rcases e with e | e | e | e <;> rw [e] at h3 <;> exact absurd h3 (by decide)
  rw [if_neg h3] at h ⊢
  rw [if_neg h3]
  by_cases h4 : a r_sort p = 68
  · rw [if_pos h4] at h ⊢
    refine ⟨by rw [if_pos h4], h, fun e => ?_, fun e => ?_⟩
    · rw [e] at h4; exact absurd h4 (by decide)
    · rcases e with e | e | e | e <;> rw [e] at h4 <;> exact absurd h4 (by decide)
  rw [if_neg h4] at h ⊢
  rw [if_neg h4]
  by_cases h5 : a r_sort p = 70
  · rw [if_pos h5] at h ⊢
    refine ⟨by rw [if_pos h5], h, fun e => ?_, fun e => ?_⟩
    · rw [e] at h5; exact absurd h5 (by decide)
    · rcases e with e | e | e | e <;> rw [e] at h5 <;> exact absurd h5 (by decide)
  rw [if_neg h5] at h ⊢
  rw [if_neg h5]
  by_cases h6 : a r_sort p = 73
  · rw [if_pos h6] at h ⊢
    refine ⟨by rw [if_pos h6], h, fun e => ?_, fun e => ?_⟩
    · rw [e] at h6; exact absurd h6 (by decide)
    · rcases e with e | e | e | e <;> rw [e] at h6 <;> exact absurd h6 (by decide)
  rw [if_neg h6] at h ⊢
  rw [if_neg h6]
  by_cases h7 : a r_sort p = 83
  · rw [if_pos h7] at h ⊢
    refine ⟨by rw [if_pos h7], h, fun e => ?_, fun e => ?_⟩
    · rw [e] at h7; exact absurd h7 (by decide)
    · rcases e with e | e | e | e <;> rw [e] at h7 <;> exact absurd h7 (by decide)
  rw [if_neg h7] at h ⊢
  rw [if_neg h7]
  by_cases h8 : a r_sort p = 84
  · rw [if_pos h8] at h ⊢
    rw [if_pos h8]
    have hl : ¬ (a r_sort p = 82 ∨ a r_sort p = 88 ∨ a r_sort p = 66 ∨ a r_sort p = 67) := by rw [h8]; decide
    unfold tvF at h ⊢
    by_cases he : a r_hasEnd p = 0
    · rw [if_pos he] at h ⊢
      refine ⟨by rw [if_pos he], h, fun _ n => absurd he n, fun e => absurd e hl⟩
    · rw [if_neg he] at h ⊢
      have g := goW_fin (c := 0) (W := W) (A := .inr p) h
      refine ⟨?_, g.2.2, fun _ _ => g.2.1, fun e => absurd e hl⟩
      rw [if_neg he, ← g.1]
      rfl
  rw [if_neg h8] at h ⊢
  rw [if_neg h8]
  by_cases h9 : a r_sort p = 87
  · rw [if_pos h9] at h ⊢
    refine ⟨by rw [if_pos h9], h, fun e => absurd e h8, fun e => ?_⟩
    rcases e with e | e | e | e <;> rw [e] at h9 <;> exact absurd h9 (by decide)
  rw [if_neg h9] at h ⊢
  rw [if_neg h9]
  by_cases h10 : a r_sort p = 123
  · rw [if_pos h10] at h ⊢
    refine ⟨by rw [if_pos h10], h, fun e => absurd e h8, fun e => ?_⟩
    rcases e with e | e | e | e <;> rw [e] at h10 <;> exact absurd h10 (by decide)
  rw [if_neg h10] at h ⊢
  rw [if_neg h10]
  rw [lvR_go] at h ⊢
  have g := goW_fin h
  refine ⟨?_, g.2.2, fun e => absurd e h8, fun _ => g.2.1⟩
  rw [← g.1]
