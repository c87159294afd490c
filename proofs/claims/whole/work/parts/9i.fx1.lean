/-! the class's walks: what they find is the least closed set -/
def leF (f g : Nat → Int64) : Prop := ∀ x k, tb (f x) k = true → tb (g x) k = true
theorem leF_rf (f : Nat → Int64) : leF f f := fun _ _ h => h
theorem leF_tr {f g h : Nat → Int64} (a : leF f g) (b : leF g h) : leF f h := fun x k q => b x k (a x k q)
theorem leF_as {f g : Nat → Int64} (a : leF f g) (b : leF g f) (x : Nat) : f x = g x := tb_ext (fun k _ => by
  cases h : tb (f x) k
  · cases h2 : tb (g x) k
    · rfl
    · rw [b x k h2] at h; cases h
  · exact (a x k h).symm)
def incG (G G' : GF) : Prop := G' = G ∨ (G'.1 = 1 ∧ leF G.2 G'.2 ∧ ∃ x, x < 965 ∧ ¬ G'.2 x = G.2 x)
theorem incG_rf (G : GF) : incG G G := Or.inl rfl
theorem incG_le {G G' : GF} (h : incG G G') : leF G.2 G'.2 := by
  rcases h with rfl | h
  · exact leF_rf _
  · exact h.2.1
theorem incG_tr {G G' G'' : GF} (h : incG G G') (k : incG G' G'') : incG G G'' := by
  rcases k with rfl | k
  · exact h
  · rcases h with rfl | h
    · exact Or.inr k
    · obtain ⟨x, hx, ne⟩ := h.2.2
      refine Or.inr ⟨k.1, leF_tr h.2.1 k.2.1, x, hx, fun e => ne ?_⟩
      refine tb_ext (fun i _ => ?_)
      cases q : tb (G'.2 x) i
      · cases q2 : tb (G.2 x) i
        · rfl
        · rw [h.2.1 x i q2] at q; cases q
      · have := k.2.1 x i q
        rw [e] at this
        exact this.symm
theorem incG_fix {G G' G'' : GF} (h : incG G G') (k : incG G' G'') (e : G'' = G) : G' = G := by
  rcases h with h | h
  · exact h
  · obtain ⟨x, hx, ne⟩ := h.2.2
    have k2 := incG_le k
    rw [e] at k2
    exact absurd (leF_as k2 h.2.1 x) ne
theorem flw_inc (x : Int32) (s : Int64) (G : GF) : incG G (flw x s G) := by
  unfold flw
  split
  · exact incG_rf G
  · rename_i hx
    split
    · exact incG_rf G
    · rename_i hs
      have hlt : x.toNatClampNeg < 965 := by
        have h1 : ¬ x < 0 := fun q => hx (Or.inl q)
        have h2 : ¬ 965 ≤ x := fun q => hx (Or.inr q)
        obtain ⟨j, hj, rfl⟩ := nI_of h1
        rw [nI_clamp hj]
        rw [show (965 : Int32) = nI 965 from rfl, nI_leI (by omega) hj] at h2
        omega
      refine Or.inr ⟨rfl, fun y k hk => ?_, x.toNatClampNeg, hlt, ?_⟩
      · show tb (if y = x.toNatClampNeg then _ else G.2 y) k = true
        by_cases e : y = x.toNatClampNeg
        · rw [if_pos e, tb_or, ← e, hk]; rfl
        · rw [if_neg e]; exact hk
      · show ¬ (if x.toNatClampNeg = x.toNatClampNeg then _ else G.2 x.toNatClampNeg) = _
        rw [if_pos rfl]
        exact hs
abbrev atP (Q : Nat → Nat → Prop) (x : Int32) (b : Nat) : Prop := ¬ (x < 0 ∨ 965 ≤ x) → Q x.toNatClampNeg b
theorem atP_n {Q : Nat → Nat → Prop} {k b : Nat} (hk : k < 965) : atP Q (nI k) b ↔ Q k b := by
  have h1 : ¬ (nI k < 0 ∨ 965 ≤ nI k) := by
    rintro (h | h)
    · exact absurd h (nI_pos (by omega))
    · rw [show (965 : Int32) = nI 965 from rfl, nI_leI (by omega) (by omega)] at h
      omega
  unfold atP
  rw [nI_clamp (by omega)]
  exact ⟨fun h => h h1, fun h _ => h⟩
theorem atP_m {Q R : Nat → Nat → Prop} {x : Int32} {b : Nat} (h : ∀ y, Q y b → R y b) (hq : atP Q x b) : atP R x b := fun hx => h _ (hq hx)
section LN
variable {v b0 : Nat}
def subF (v b0 : Nat) (f : Nat → Int64) (Q : Nat → Nat → Prop) : Prop := ∀ x b, b < 2 → LB v b0 (f x) b → Q x b
def CB (v b0 : Nat) (f : Nat → Int64) : Nat → Nat → Prop := fun x b => LB v b0 (f x) b
theorem flw_sub {x : Int32} {s : Int64} {G : GF} {Q : Nat → Nat → Prop} (h : subF v b0 G.2 Q) (hs : ∀ b, b < 2 → LB v b0 s b → atP Q x b) : subF v b0 (flw x s G).2 Q := by
  unfold flw
  split
  · exact h
  · rename_i hx
    split
    · exact h
    · intro y b hb hy
      have hy : LB v b0 (if y = x.toNatClampNeg then _ else G.2 y) b := hy
      by_cases e : y = x.toNatClampNeg
      · rw [if_pos e, LB_or] at hy
        rcases hy with hy | hy
        · rw [← e] at hy
          exact h y b hb hy
        · rw [e]
          exact hs b hb hy hx
      · rw [if_neg e] at hy
        exact h y b hb hy
theorem flw_fix {x : Int32} {s : Int64} {G : GF} (h : flw x s G = G) : ∀ b, b < 2 → LB v b0 s b → atP (CB v b0 G.2) x b := by
  intro b _ hs hx
  unfold flw at h
  rw [if_neg hx] at h
  by_cases e : G.2 x.toNatClampNeg ||| s = G.2 x.toNatClampNeg
  · show LB v b0 (G.2 x.toNatClampNeg) b
    rw [← e, LB_or]
    exact Or.inr hs
  · rw [if_neg e] at h
    have h2 := congrFun (congrArg Prod.snd h) x.toNatClampNeg
    have h3 : vp_updL G.2 x.toNatClampNeg (G.2 x.toNatClampNeg ||| s) x.toNatClampNeg = G.2 x.toNatClampNeg ||| s := if_pos rfl
    exact absurd (h3.symm.trans h2) e
end LN
/-- what leaving asks of a set -/
def lvq (a : Nat → Nat → Int32) (N : Nat) (root : Int32) (M : Nat → Nat → Nat → Prop) (Q : Nat → Nat → Prop) (FIN : Nat → Prop) (outer r : Int32) : Nat → Nat → Int32 → Nat → Prop
  | 0, _, _, b => FIN b
  | k + 1, t, pt, b =>
    if ¬ (1 ≤ t ∧ t ≤ N) ∨ oI t ≤ outer then FIN b
    else if oI t = root then True
    else if ¬ r = 0 ∧ pt = 0 ∧ ¬ a c_P_catchFrom (t - 1) = -1 then atP Q (a c_Y_catchTo (t - 1)) b
    else if ¬ pt = 2 ∧ ¬ a c_P_finallyFrom (t - 1) = -1 then atP Q (a c_Y_finallyTo (t - 1)) b ∧ ∀ b', b' < 2 → M (t - 1) b b' → lvq a N root M Q FIN outer r k (dO (a c_P_tryAround (t - 1))) (a c_P_tryPart (t - 1)) b'
    else lvq a N root M Q FIN outer r k (dO (a c_P_tryAround (t - 1))) (a c_P_tryPart (t - 1)) b
theorem lvq_mono {a : Nat → Nat → Int32} {N : Nat} {root : Int32} {M : Nat → Nat → Nat → Prop} {Q Q' : Nat → Nat → Prop} {FIN FIN' : Nat → Prop} {outer r : Int32} (hQ : ∀ x b, Q x b → Q' x b) (hF : ∀ b, b < 2 → FIN b → FIN' b) : ∀ (k t : Nat) (pt : Int32) (b : Nat), b < 2 → lvq a N root M Q FIN outer r k t pt b → lvq a N root M Q' FIN' outer r k t pt b
  | 0, _, _, b, hb, h => hF b hb h
  | k + 1, t, pt, b, hb, h => by
    unfold lvq at h ⊢
    by_cases c1 : ¬ (1 ≤ t ∧ t ≤ N) ∨ oI t ≤ outer
    · rw [if_pos c1] at h ⊢; exact hF b hb h
    · rw [if_neg c1] at h ⊢
      by_cases c2 : oI t = root
      · rw [if_pos c2]; trivial
      · rw [if_neg c2] at h ⊢
        by_cases c3 : ¬ r = 0 ∧ pt = 0 ∧ ¬ a c_P_catchFrom (t - 1) = -1
        · rw [if_pos c3] at h ⊢; exact atP_m (fun y => hQ y b) h
        · rw [if_neg c3] at h ⊢
          by_cases c4 : ¬ pt = 2 ∧ ¬ a c_P_finallyFrom (t - 1) = -1
          · rw [if_pos c4] at h ⊢
            exact ⟨atP_m (fun y => hQ y b) h.1, fun b' hb' hm => lvq_mono hQ hF k _ _ b' hb' (h.2 b' hb' hm)⟩
          · rw [if_neg c4] at h ⊢
            exact lvq_mono hQ hF k _ _ b hb h
theorem lvG_inc (a : Nat → Nat → Int32) (N : Nat) (root : Int32) (fm : Nat → Int64) (outer r : Int32) : ∀ (k t : Nat) (pt : Int32) (s : Int64) (G : GF), incG G (lvG a N root fm outer r k t pt s G).2
  | 0, _, _, _, G => incG_rf G
  | k + 1, t, pt, s, G => by
    unfold lvG
    split
    · exact incG_rf G
    · split
      · exact incG_rf G
      · split
        · exact flw_inc _ _ _
        · split
          · exact incG_tr (flw_inc _ _ _) (lvG_inc a N root fm outer r k _ _ _ _)
          · exact lvG_inc a N root fm outer r k _ _ _ _
section LN2
variable {v b0 : Nat} {a : Nat → Nat → Int32} {N : Nat} {root : Int32} {fm : Nat → Int64} {outer r : Int32}
/-- what an N makes -/
def MM (v : Nat) (fm : Nat → Int64) (t b b' : Nat) : Prop := LB v b (fm t) b'
theorem thr_ex {v b0 b : Nat} {c s : Int64} (hv : v < 16) (hb0 : b0 < 2) (hb : b < 2) : LB v b0 (sThr c s) b ↔ ∃ b1, b1 < 2 ∧ LB v b0 s b1 ∧ LB v b1 c b := by
  rw [LB_thr hv hb0 hb]
  constructor
  · rintro (h | h)
    · exact ⟨0, by omega, h.1, h.2⟩
    · exact ⟨1, by omega, h.1, h.2⟩
  · rintro ⟨b1, h1, h2, h3⟩
    have : b1 = 0 ∨ b1 = 1 := by omega
    rcases this with rfl | rfl
    · exact Or.inl ⟨h2, h3⟩
    · exact Or.inr ⟨h2, h3⟩
theorem lvG_sub (hv : v < 16) (hb0 : b0 < 2) {Q : Nat → Nat → Prop} {FIN : Nat → Prop} : ∀ (k t : Nat) (pt : Int32) (s : Int64) (G : GF), subF v b0 G.2 Q → (∀ b, b < 2 → LB v b0 s b → lvq a N root (MM v fm) Q FIN outer r k t pt b) → subF v b0 (lvG a N root fm outer r k t pt s G).2.2 Q ∧ ∀ b, b < 2 → LB v b0 (lvG a N root fm outer r k t pt s G).1 b → FIN b
  | 0, _, _, s, G, h, hs => ⟨h, fun b hb hl => hs b hb hl⟩
  | k + 1, t, pt, s, G, h, hs => by
    unfold lvq at hs
    unfold lvG
    by_cases c1 : ¬ (1 ≤ t ∧ t ≤ N) ∨ oI t ≤ outer
    · rw [if_pos c1]
      simp only [if_pos c1] at hs
      exact ⟨h, hs⟩
    · rw [if_neg c1]
      simp only [if_neg c1] at hs
      by_cases c2 : oI t = root
      · rw [if_pos c2]
        exact ⟨h, fun b _ hl => absurd hl LB_0⟩
      · rw [if_neg c2]
        simp only [if_neg c2] at hs
        by_cases c3 : ¬ r = 0 ∧ pt = 0 ∧ ¬ a c_P_catchFrom (t - 1) = -1
        · rw [if_pos c3]
          simp only [if_pos c3] at hs
          exact ⟨flw_sub h hs, fun b _ hl => absurd hl LB_0⟩
        · rw [if_neg c3]
          simp only [if_neg c3] at hs
          by_cases c4 : ¬ pt = 2 ∧ ¬ a c_P_finallyFrom (t - 1) = -1
          · rw [if_pos c4]
            simp only [if_pos c4] at hs
            refine lvG_sub hv hb0 k _ _ _ _ (flw_sub h (fun b hb hl => (hs b hb hl).1)) (fun b hb hl => ?_)
            obtain ⟨b1, h1, h2, h3⟩ := (thr_ex hv hb0 hb).mp hl
            exact (hs b1 h1 h2).2 b hb h3
          · rw [if_neg c4]
            simp only [if_neg c4] at hs
            exact lvG_sub hv hb0 k _ _ _ _ h hs
theorem lvG_fix (hv : v < 16) (hb0 : b0 < 2) : ∀ (k t : Nat) (pt : Int32) (s : Int64) (G : GF), (lvG a N root fm outer r k t pt s G).2 = G → ∀ b, b < 2 → LB v b0 s b → lvq a N root (MM v fm) (CB v b0 G.2) (fun b' => LB v b0 (lvG a N root fm outer r k t pt s G).1 b') outer r k t pt b
  | 0, _, _, s, G, h, b, hb, hs => hs
  | k + 1, t, pt, s, G, h, b, hb, hs => by
    unfold lvG at h
    unfold lvq lvG
    by_cases c1 : ¬ (1 ≤ t ∧ t ≤ N) ∨ oI t ≤ outer
    · simp only [if_pos c1]
      exact hs
    · simp only [if_neg c1] at h ⊢
      by_cases c2 : oI t = root
      · rw [if_pos c2]; trivial
      · simp only [if_neg c2] at h ⊢
        by_cases c3 : ¬ r = 0 ∧ pt = 0 ∧ ¬ a c_P_catchFrom (t - 1) = -1
        · rw [if_pos c3]
          rw [if_pos c3] at h
          exact flw_fix h b hb hs
        · simp only [if_neg c3] at h ⊢
          by_cases c4 : ¬ pt = 2 ∧ ¬ a c_P_finallyFrom (t - 1) = -1
          · simp only [if_pos c4] at h ⊢
            have f1 : flw (a c_Y_finallyTo (t - 1)) s G = G := incG_fix (flw_inc _ _ _) (lvG_inc a N root fm outer r k _ _ _ _) h
            rw [f1] at h ⊢
            refine ⟨flw_fix f1 b hb hs, fun b' hb' hm => ?_⟩
            exact lvG_fix hv hb0 k _ _ _ G h b' hb' ((thr_ex hv hb0 hb').mpr ⟨b, hb, hs, hm⟩)
          · simp only [if_neg c4] at h ⊢
            exact lvG_fix hv hb0 k _ _ _ G h b hb hs
end LN2
