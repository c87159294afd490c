/-- points that a walk over [fr, to) clears -/
def inRg (fr to x : Nat) : Prop := x = 964 ∨ ∃ i, (fr ≤ i ∧ i < to) ∧ (x = i ∨ x = 241 + i ∨ x = 482 + i ∨ x = 723 + i)
theorem clS_z {p x : Nat} {f : Nat → Int64} (h : f x = 0 ∨ x = p ∨ x = 241 + p ∨ x = 482 + p ∨ x = 723 + p) : clS p f x = 0 := by
  unfold clS vp_updL
  by_cases h4 : x = 723 + p
  · rw [if_pos h4]
  · rw [if_neg h4]
    by_cases h3 : x = 482 + p
    · rw [if_pos h3]
    · rw [if_neg h3]
      by_cases h2 : x = 241 + p
      · rw [if_pos h2]
      · rw [if_neg h2]
        by_cases h1 : x = p
        · rw [if_pos h1]
        · rw [if_neg h1]
          rcases h with h | h | h | h | h
          · exact h
          · exact absurd h h1
          · exact absurd h h2
          · exact absurd h h3
          · exact absurd h h4
theorem clZ_0 {x : Nat} : ∀ (j p : Nat) (f : Nat → Int64), f x = 0 → clZ j p f x = 0
  | 0, _, _, h => h
  | j + 1, p, f, h => clZ_0 j (p + 1) (clS p f) (clS_z (Or.inl h))
theorem clZ_z {x i : Nat} : ∀ (j p : Nat) (f : Nat → Int64), p ≤ i → i < p + j → (x = i ∨ x = 241 + i ∨ x = 482 + i ∨ x = 723 + i) → clZ j p f x = 0
  | 0, _, _, _, _, _ => by omega
  | j + 1, p, f, h1, h2, h => by
    by_cases e : i = p
    · exact clZ_0 j (p + 1) (clS p f) (clS_z (Or.inr (by rw [← e]; exact h)))
    · exact clZ_z j (p + 1) (clS p f) (by omega) (by omega) h
theorem cl0_z {fr to x : Nat} {f : Nat → Int64} (hft : fr ≤ to) (h : inRg fr to x) : vp_updL (clZ (to - fr) fr f) 964 0 x = 0 := by
  unfold vp_updL
  by_cases e : x = 964
  · rw [if_pos e]
  · rw [if_neg e]
    rcases h with h | ⟨i, h1, h2⟩
    · exact absurd h e
    · exact clZ_z _ _ _ h1.1 (by omega) h2
/-- the walk over [fr, to): the least closed set with the start -/
def leastC (a : Nat → Nat → Int32) (N : Nat) (root : Int32) (fm : Nat → Int64) (fr to : Nat) (s : Int64) (f : Nat → Int64) : Prop :=
  ∀ v b0, v < 16 → b0 < 2 → (∀ q, fr ≤ q → q < to → clB a N root (MM v fm) v (CB v b0 f) q ∧ clO a N root (MM v fm) v (CB v b0 f) q) ∧ (∀ b, b < 2 → LB v b0 s b → CB v b0 f (if to ≤ fr then 964 else fr) b) ∧
    (∀ Q : Nat → Nat → Prop, (∀ q, fr ≤ q → q < to → clB a N root (MM v fm) v Q q ∧ clO a N root (MM v fm) v Q q) → (∀ x b, ¬ inRg fr to x → Q x b) → (∀ b, b < 2 → LB v b0 s b → Q (if to ≤ fr then 964 else fr) b) → subF v b0 f Q)
theorem wkF_gen {a : Nat → Nat → Int32} {N : Nat} {root : Int32} {fm : Nat → Int64} {fr to : Nat} {s : Int64} {f : Nat → Int64} (hN : N ≤ 241) (hr : swR a N) (hft : fr ≤ to) (hto : to ≤ N) (hs : ¬ s = 0) (hcov : ∀ q, fr ≤ q → q < to → ∃ p, (fr ≤ p ∧ p < to) ∧ inCh a N fr p q 241 (p + 1)) {K : Nat} (hK : ∀ f, muF f ≤ K) : leastC a N root fm fr to s (wkL (swF a N root fm fr (to - fr) fr) K (flw (if to ≤ fr then 964 else nI fr) s (0, vp_updL (clZ (to - fr) fr f) 964 0))).2 := by
  have ex : (if to ≤ fr then (964 : Int32) else nI fr) = nI (if to ≤ fr then 964 else fr) := by split <;> rfl
  have hxl : (if to ≤ fr then 964 else fr) < 965 := by split <;> omega
  have hxr : inRg fr to (if to ≤ fr then 964 else fr) := by
    split
    · exact Or.inl rfl
    · exact Or.inr ⟨fr, ⟨Nat.le_refl _, by omega⟩, Or.inl rfl⟩
  unfold leastC
  rw [ex]
  generalize (if to ≤ fr then 964 else fr) = x0 at *
  have hz := fun x h => cl0_z (f := f) (x := x) hft h
  generalize vp_updL (clZ (to - fr) fr f) 964 0 = f0 at *
  have hinc := fun G => swF_inc (a := a) (N := N) (root := root) (fm := fm) fr (to - fr) fr G
  have c1 : (nI x0).toNatClampNeg = x0 := nI_clamp (by omega)
  have g1 : (flw (nI x0) s (0, f0)).1 = 1 ∧ leF f0 (flw (nI x0) s (0, f0)).2 ∧ muF f0 < muF (flw (nI x0) s (0, f0)).2 ∧ ∀ k, tb s k = true → tb ((flw (nI x0) s (0, f0)).2 x0) k = true := by
    have n1 : ¬ (nI x0 < 0 ∨ 965 ≤ nI x0) := by
      rintro (h | h)
      · exact absurd h (nI_pos (by omega))
      · rw [show (965 : Int32) = nI 965 from rfl, nI_leI (by omega) (by omega)] at h
        omega
    have e0 : f0 x0 = 0 := hz x0 hxr
    have n2 : ¬ f0 x0 ||| s = f0 x0 := by
      rw [e0, Int64.zero_or]
      exact hs
    have e : flw (nI x0) s (0, f0) = (1, vp_updL f0 x0 (f0 x0 ||| s)) := by
      unfold flw
      rw [if_neg n1, c1, if_neg n2]
    have hi := flw_inc (nI x0) s (0, f0)
    have hv : (vp_updL f0 x0 (f0 x0 ||| s)) x0 = f0 x0 ||| s := if_pos rfl
    have hl := incG_le hi
    rw [e] at hl ⊢
    dsimp only at hl ⊢
    refine ⟨rfl, hl, muF_lt hl hxl (by rw [hv]; exact n2), fun k hk => ?_⟩
    rw [hv, tb_or, hk, Bool.or_true]
  have hfx := wkL_fixB hK hinc K (flw (nI x0) s (0, f0)) g1.1 (by have := g1.2.2.1; omega)
  intro v b0 hv hb0
  refine ⟨fun q h1 h2 => ?_, fun b hb hl => ?_, fun Q hQ ho hst => ?_⟩
  · have h3 := fun p h1 h2 => swF_fix (v := v) (b0 := b0) hv hb0 hN hr hto (to - fr) fr _ (by omega) hfx.2 p h1 h2
    obtain ⟨p, hp, hc⟩ := hcov q h1 h2
    exact ⟨(h3 q h1 h2).1, (h3 p hp.1 hp.2).2 q hc⟩
  · have h4 := wkL_inc hinc K (flw (nI x0) s (0, f0))
    exact h4 x0 _ (g1.2.2.2 _ hl)
  · refine wkL_sub (fun G hG => swF_sub hv hb0 hN hr hto (fun q h1 h2 => (hQ q h1 h2).1) (fun q h1 h2 => (hQ q h1 h2).2) (to - fr) fr G (Nat.le_refl _) (by omega) hG) K _ (flw_sub (fun x b hb hl => ?_) (fun b hb hl => (atP_n hxl).mpr (hst b hb hl)))
    by_cases h : inRg fr to x
    · have hl : LB v b0 (f0 x) b := hl
      rw [hz x h] at hl
      exact absurd hl LB_0
    · exact ho x b h
theorem wkF_main {a : Nat → Nat → Int32} {N : Nat} {root : Int32} {fm : Nat → Int64} {fr to : Nat} {s : Int64} {f : Nat → Int64} (hN : N ≤ 241) (hr : swR a N) (hft : fr ≤ to) (hto : to ≤ N) (hs : ¬ s = 0) (hcov : ∀ q, fr ≤ q → q < to → ∃ p, (fr ≤ p ∧ p < to) ∧ inCh a N fr p q 241 (p + 1)) : leastC a N root fm fr to s (wkF a N root fm fr to s f).2 := by
  unfold wkF
  exact wkF_gen hN hr hft hto hs hcov muF_le
