/-- rows that bear a VARIABLE -/
def vRow (a : Nat → Nat → Int32) (p : Nat) : Prop := (a c_P_sort p = 36 ∨ a c_P_sort p = 37 ∨ a c_P_sort p = 61) → a c_P_named p = nI (dN (a c_P_named p)) ∧ dN (a c_P_named p) < 12
section CLS
variable (a : Nat → Nat → Int32) (N : Nat) (root : Int32) (M : Nat → Nat → Nat → Prop) (v : Nat) (Q : Nat → Nat → Prop)
/-- leaving p -/
abbrev lvp (FIN : Nat → Prop) (outer r : Int32) (p b : Nat) : Prop := lvq a N root M Q FIN outer r 20 (dO (a c_P_tryAround p)) (a c_P_tryPart p) b
def clS1 (p b : Nat) : Prop :=
  if a c_P_sort p = 36 then Q (241 + p) (if dN (a c_P_named p) = v then 0 else b)
  else if a c_P_sort p = 37 then Q (241 + p) (if dN (a c_P_named p) = v then 0 else b)
  else if a c_P_sort p = 48 then Q (482 + p) b
  else if a c_P_sort p = 49 then Q (241 + p) b
  else if a c_P_sort p = 66 then lvp a N root M Q (atP Q (a c_Y_beginTo p)) (a c_P_target p) 0 p b
  else if a c_P_sort p = 67 then lvp a N root M Q (atP Q (a c_Y_beginTo p)) (a c_P_target p) 0 p b
  else if a c_P_sort p = 35 ∨ (97 ≤ a c_P_sort p ∧ a c_P_sort p ≤ 122) then Q (241 + p) b ∧ Q (482 + p) b
  else if a c_P_sort p = 82 ∧ a c_Y_beginTo p = -1 then lvp a N root M Q (fun _ => True) (-1) 0 p b
  else atP Q (a c_Y_beginTo p) b
/-- a set closed where p begins -/
def clB (p : Nat) : Prop := ∀ b, b < 2 →
  (¬ a c_P_isEntered p = 0 → ¬ a c_P_around p = -1 → Q (723 + dN (a c_P_around p)) b → Q p b) ∧ (Q p b → lvp a N root M Q (fun _ => True) (-1) 1 p b) ∧ (Q p b → clS1 a N root M v Q p b)
def clI (p : Nat) : Prop := ∀ b, b < 2 → Q (723 + p) b →
  (¬ a c_P_finallyFrom p = -1 → atP Q (a c_Y_finallyTo p) b ∧ ∀ b', b' < 2 → M p b b' → Q (241 + p) b') ∧ (a c_P_finallyFrom p = -1 → ¬ a c_P_isSkipped p = 0 → Q (241 + p) b)
def clX (p q : Nat) : Prop := ∀ b, b < 2 →
  if a c_P_sort q = 61 then (Q (241 + p) b → atP Q (a c_Y_trueTo p) (if dN (a c_P_named q) = v then 1 else b) ∧ lvp a N root M Q (fun _ => True) (-1) 1 q (if dN (a c_P_named q) = v then 1 else b)) ∧ (Q (482 + p) b → atP Q (a c_Y_falseTo p) (if dN (a c_P_named q) = v then 1 else b) ∧ lvp a N root M Q (fun _ => True) (-1) 1 q (if dN (a c_P_named q) = v then 1 else b))
  else if a c_P_sort q = 82 then (Q (241 + p) b ∨ Q (482 + p) b) → lvp a N root M Q (fun _ => True) (-1) 0 q b
  else if a c_P_sort q = 88 then (Q (241 + p) b ∨ Q (482 + p) b) → lvp a N root M Q (fun _ => True) (-1) 1 q b
  else (Q (241 + p) b → atP Q (a c_Y_trueTo p) b) ∧ (Q (482 + p) b → atP Q (a c_Y_falseTo p) b)
/-- a set closed where p ends -/
def clO (p : Nat) : Prop := clI a M Q p ∧ (¬ (a c_Y_trueTo p = 964 ∧ ¬ a c_P_around p = root) →
  (a c_P_around p = -1 → ∀ b, b < 2 → (Q (241 + p) b → atP Q (a c_Y_trueTo p) b) ∧ (Q (482 + p) b → atP Q (a c_Y_falseTo p) b)) ∧ (¬ a c_P_around p = -1 → clX a N root M v Q p (dN (a c_P_around p))))
end CLS
section CLT
variable {v b0 : Nat} {a : Nat → Nat → Int32} {N : Nat} {root : Int32} {fm : Nat → Int64}
theorem lvP_sub (hv : v < 16) (hb0 : b0 < 2) {Q : Nat → Nat → Prop} {FIN : Nat → Prop} {p : Nat} {s : Int64} {outer r : Int32} {G : GF} (h : subF v b0 G.2 Q) (hs : ∀ b, b < 2 → LB v b0 s b → lvp a N root (MM v fm) Q FIN outer r p b) : subF v b0 (lvP a N root fm p s outer r G).2.2 Q ∧ ∀ b, b < 2 → LB v b0 (lvP a N root fm p s outer r G).1 b → FIN b := lvG_sub hv hb0 20 _ _ s G h hs
theorem lvP_inc (p : Nat) (s : Int64) (outer r : Int32) (G : GF) : incG G (lvP a N root fm p s outer r G).2 := lvG_inc a N root fm outer r 20 _ _ s G
theorem lvP_fix (hv : v < 16) (hb0 : b0 < 2) {p : Nat} {s : Int64} {outer r : Int32} {G : GF} (h : (lvP a N root fm p s outer r G).2 = G) (b : Nat) (hb : b < 2) (hs : LB v b0 s b) : lvp a N root (MM v fm) (CB v b0 G.2) (fun b' => LB v b0 (lvP a N root fm p s outer r G).1 b') outer r p b := lvG_fix hv hb0 20 _ _ s G h b hb hs
theorem uns_ex (hv : v < 16) (hb0 : b0 < 2) {k b : Nat} {s : Int64} (hk : k < 12) (hb : b < 2) : LB v b0 (sUns s (nI k)) b ↔ ∃ b1, b1 < 2 ∧ LB v b0 s b1 ∧ b = if k = v then 0 else b1 := by
  rw [LB_uns hv hb0 hb (by omega)]
  by_cases e : k = v
  · rw [if_pos e]
    constructor
    · rintro ⟨h1, h | h⟩
      · exact ⟨0, by omega, h, by rw [if_pos e]; exact h1⟩
      · exact ⟨1, by omega, h, by rw [if_pos e]; exact h1⟩
    · rintro ⟨b1, h1, h2, h3⟩
      rw [if_pos e] at h3
      have : b1 = 0 ∨ b1 = 1 := by omega
      rcases this with rfl | rfl
      · exact ⟨h3, Or.inl h2⟩
      · exact ⟨h3, Or.inr h2⟩
  · rw [if_neg e]
    constructor
    · intro h
      exact ⟨b, hb, h, (if_neg e).symm⟩
    · rintro ⟨b1, h1, h2, h3⟩
      rw [if_neg e] at h3
      rw [h3]; exact h2
theorem asg_ex (hv : v < 16) (hb0 : b0 < 2) {k b : Nat} {s : Int64} (hk : k < 12) (hb : b < 2) : LB v b0 (sAsg s (nI k)) b ↔ ∃ b1, b1 < 2 ∧ LB v b0 s b1 ∧ b = if k = v then 1 else b1 := by
  rw [LB_asg hv hb0 hb (by omega)]
  by_cases e : k = v
  · rw [if_pos e]
    constructor
    · rintro ⟨h1, h | h⟩
      · exact ⟨0, by omega, h, by rw [if_pos e]; exact h1⟩
      · exact ⟨1, by omega, h, by rw [if_pos e]; exact h1⟩
    · rintro ⟨b1, h1, h2, h3⟩
      rw [if_pos e] at h3
      have : b1 = 0 ∨ b1 = 1 := by omega
      rcases this with rfl | rfl
      · exact ⟨h3, Or.inl h2⟩
      · exact ⟨h3, Or.inr h2⟩
  · rw [if_neg e]
    constructor
    · intro h
      exact ⟨b, hb, h, (if_neg e).symm⟩
    · rintro ⟨b1, h1, h2, h3⟩
      rw [if_neg e] at h3
      rw [h3]; exact h2
theorem bgE_inc (p : Nat) (G : GF) : incG G (bgE a p G) := by
  unfold bgE
  split
  · exact flw_inc _ _ _
  · exact incG_rf G
theorem bgS_inc (p : Nat) (s : Int64) (G : GF) : incG G (bgS a N root fm p s G) := by
  unfold bgS
  split
  · exact flw_inc _ _ _
  · split
    · exact flw_inc _ _ _
    · split
      · exact flw_inc _ _ _
      · split
        · exact flw_inc _ _ _
        · split
          · exact incG_tr (lvP_inc _ _ _ _ _) (flw_inc _ _ _)
          · split
            · exact incG_tr (lvP_inc _ _ _ _ _) (flw_inc _ _ _)
            · split
              · exact incG_tr (flw_inc _ _ _) (flw_inc _ _ _)
              · split
                · exact lvP_inc _ _ _ _ _
                · exact flw_inc _ _ _
theorem bgF_inc (p : Nat) (G : GF) : incG G (bgF a N root fm p G) := incG_tr (bgE_inc p G) (incG_tr (lvP_inc _ _ _ _ _) (bgS_inc _ _ _))
theorem bgS_sub (hv : v < 16) (hb0 : b0 < 2) {Q : Nat → Nat → Prop} {p : Nat} (hp : p < 241) (hn : vRow a p) {s : Int64} {G : GF} (h : subF v b0 G.2 Q) (hs : ∀ b, b < 2 → LB v b0 s b → clS1 a N root (MM v fm) v Q p b) : subF v b0 (bgS a N root fm p s G).2 Q := by
  unfold bgS
  unfold clS1 at hs
  by_cases c1 : a c_P_sort p = 36
  · rw [if_pos c1]
    simp only [if_pos c1] at hs
    have n1 := hn (Or.inl c1)
    refine flw_sub h (fun b hb hl => (atP_n (by omega)).mpr ?_)
    rw [n1.1] at hl
    obtain ⟨b1, h1, h2, h3⟩ := (uns_ex hv hb0 n1.2 hb).mp hl
    rw [h3]
    exact hs b1 h1 h2
  · rw [if_neg c1]
    simp only [if_neg c1] at hs
    by_cases c2 : a c_P_sort p = 37
    · rw [if_pos c2]
      simp only [if_pos c2] at hs
      have n1 := hn (Or.inr (Or.inl c2))
      refine flw_sub h (fun b hb hl => (atP_n (by omega)).mpr ?_)
      rw [n1.1] at hl
      obtain ⟨b1, h1, h2, h3⟩ := (uns_ex hv hb0 n1.2 hb).mp hl
      rw [h3]
      exact hs b1 h1 h2
    · rw [if_neg c2]
      simp only [if_neg c2] at hs
      by_cases c3 : a c_P_sort p = 48
      · rw [if_pos c3]
        simp only [if_pos c3] at hs
        exact flw_sub h (fun b hb hl => (atP_n (by omega)).mpr (hs b hb hl))
      · rw [if_neg c3]
        simp only [if_neg c3] at hs
        by_cases c4 : a c_P_sort p = 49
        · rw [if_pos c4]
          simp only [if_pos c4] at hs
          exact flw_sub h (fun b hb hl => (atP_n (by omega)).mpr (hs b hb hl))
        · rw [if_neg c4]
          simp only [if_neg c4] at hs
          by_cases c5 : a c_P_sort p = 66
          · rw [if_pos c5]
            simp only [if_pos c5] at hs
            have q := lvP_sub hv hb0 h hs
            exact flw_sub q.1 q.2
          · rw [if_neg c5]
            simp only [if_neg c5] at hs
            by_cases c6 : a c_P_sort p = 67
            · rw [if_pos c6]
              simp only [if_pos c6] at hs
              have q := lvP_sub hv hb0 h hs
              exact flw_sub q.1 q.2
            · rw [if_neg c6]
              simp only [if_neg c6] at hs
              by_cases c7 : a c_P_sort p = 35 ∨ (97 ≤ a c_P_sort p ∧ a c_P_sort p ≤ 122)
              · rw [if_pos c7]
                simp only [if_pos c7] at hs
                exact flw_sub (flw_sub h (fun b hb hl => (atP_n (by omega)).mpr (hs b hb hl).1)) (fun b hb hl => (atP_n (by omega)).mpr (hs b hb hl).2)
              · rw [if_neg c7]
                simp only [if_neg c7] at hs
                by_cases c8 : a c_P_sort p = 82 ∧ a c_Y_beginTo p = -1
                · rw [if_pos c8]
                  simp only [if_pos c8] at hs
                  exact (lvP_sub hv hb0 h hs).1
                · rw [if_neg c8]
                  simp only [if_neg c8] at hs
                  exact flw_sub h hs
theorem bgF_sub (hv : v < 16) (hb0 : b0 < 2) {Q : Nat → Nat → Prop} {p : Nat} (hp : p < 241) (hn : vRow a p) {G : GF} (h : subF v b0 G.2 Q) (hc : clB a N root (MM v fm) v Q p) : subF v b0 (bgF a N root fm p G).2 Q := by
  have h1 : subF v b0 (bgE a p G).2 Q := by
    unfold bgE
    split
    · rename_i c
      exact flw_sub h (fun b hb hl => (atP_n (by omega)).mpr ((hc b hb).1 c.1 c.2 (h _ b hb hl)))
    · exact h
  have h2 := (lvP_sub hv hb0 (FIN := fun _ => True) (root := root) (fm := fm) (N := N) (a := a) (outer := -1) (r := 1) (p := p) h1 (fun b hb hl => (hc b hb).2.1 (h1 p b hb hl))).1
  exact bgS_sub hv hb0 hp hn h2 (fun b hb hl => (hc b hb).2.2 (h1 p b hb hl))
theorem bgS_fix (hv : v < 16) (hb0 : b0 < 2) {p : Nat} (hp : p < 241) (hn : vRow a p) {s : Int64} {G : GF} (h : bgS a N root fm p s G = G) (b : Nat) (hb : b < 2) (hs : LB v b0 s b) : clS1 a N root (MM v fm) v (CB v b0 G.2) p b := by
  unfold bgS at h
  unfold clS1
  by_cases c1 : a c_P_sort p = 36
  · rw [if_pos c1] at h ⊢
    have n1 := hn (Or.inl c1)
    have hb2 : (if dN (a c_P_named p) = v then 0 else b) < 2 := by split <;> omega
    have hu := (uns_ex hv hb0 n1.2 hb2).mpr ⟨b, hb, hs, rfl⟩
    rw [← n1.1] at hu
    exact (atP_n (Q := CB v b0 G.2) (by omega)).mp (flw_fix h _ hb2 hu)
  · rw [if_neg c1] at h ⊢
    by_cases c2 : a c_P_sort p = 37
    · rw [if_pos c2] at h ⊢
      have n1 := hn (Or.inr (Or.inl c2))
      have hb2 : (if dN (a c_P_named p) = v then 0 else b) < 2 := by split <;> omega
      have hu := (uns_ex hv hb0 n1.2 hb2).mpr ⟨b, hb, hs, rfl⟩
      rw [← n1.1] at hu
      exact (atP_n (Q := CB v b0 G.2) (by omega)).mp (flw_fix h _ hb2 hu)
    · rw [if_neg c2] at h ⊢
      by_cases c3 : a c_P_sort p = 48
      · rw [if_pos c3] at h ⊢
        exact (atP_n (Q := CB v b0 G.2) (by omega)).mp (flw_fix h b hb hs)
      · rw [if_neg c3] at h ⊢
        by_cases c4 : a c_P_sort p = 49
        · rw [if_pos c4] at h ⊢
          exact (atP_n (Q := CB v b0 G.2) (by omega)).mp (flw_fix h b hb hs)
        · rw [if_neg c4] at h ⊢
          by_cases c5 : a c_P_sort p = 66
          · rw [if_pos c5] at h ⊢
            have f1 := incG_fix (lvP_inc _ _ _ _ _) (flw_inc _ _ _) h
            rw [f1] at h
            exact lvq_mono (fun _ _ q => q) (fun b' hb' hl => flw_fix h b' hb' hl) _ _ _ _ hb (lvP_fix hv hb0 f1 b hb hs)
          · rw [if_neg c5] at h ⊢
            by_cases c6 : a c_P_sort p = 67
            · rw [if_pos c6] at h ⊢
              have f1 := incG_fix (lvP_inc _ _ _ _ _) (flw_inc _ _ _) h
              rw [f1] at h
              exact lvq_mono (fun _ _ q => q) (fun b' hb' hl => flw_fix h b' hb' hl) _ _ _ _ hb (lvP_fix hv hb0 f1 b hb hs)
            · rw [if_neg c6] at h ⊢
              by_cases c7 : a c_P_sort p = 35 ∨ (97 ≤ a c_P_sort p ∧ a c_P_sort p ≤ 122)
              · rw [if_pos c7] at h ⊢
                have f1 := incG_fix (flw_inc _ _ _) (flw_inc _ _ _) h
                rw [f1] at h
                exact ⟨(atP_n (Q := CB v b0 G.2) (by omega)).mp (flw_fix f1 b hb hs), (atP_n (Q := CB v b0 G.2) (by omega)).mp (flw_fix h b hb hs)⟩
              · rw [if_neg c7] at h ⊢
                by_cases c8 : a c_P_sort p = 82 ∧ a c_Y_beginTo p = -1
                · rw [if_pos c8] at h ⊢
                  exact lvq_mono (fun _ _ q => q) (fun _ _ _ => trivial) _ _ _ _ hb (lvP_fix hv hb0 h b hb hs)
                · rw [if_neg c8] at h ⊢
                  exact flw_fix h b hb hs
theorem bgF_fix (hv : v < 16) (hb0 : b0 < 2) {p : Nat} (hp : p < 241) (hn : vRow a p) {G : GF} (h : bgF a N root fm p G = G) : clB a N root (MM v fm) v (CB v b0 G.2) p := by
  have f1 : bgE a p G = G := incG_fix (bgE_inc p G) (incG_tr (lvP_inc _ _ _ _ _) (bgS_inc _ _ _)) h
  unfold bgF at h
  rw [f1] at h
  have f2 : (lvP a N root fm p (G.2 p) (-1) 1 G).2 = G := incG_fix (lvP_inc _ _ _ _ _) (bgS_inc _ _ _) h
  rw [f2] at h
  refine fun b hb => ⟨fun h1 h2 hq => ?_, fun hq => ?_, fun hq => bgS_fix hv hb0 hp hn h b hb hq⟩
  · unfold bgE at f1
    rw [if_pos ⟨h1, h2⟩] at f1
    exact (atP_n (Q := CB v b0 G.2) (by omega)).mp (flw_fix f1 b hb hq)
  · exact lvq_mono (fun _ _ q => q) (fun _ _ _ => trivial) _ _ _ _ hb (lvP_fix hv hb0 f2 b hb hq)
end CLT
