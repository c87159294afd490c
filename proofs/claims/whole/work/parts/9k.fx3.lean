section CLU
variable {v b0 : Nat} {a : Nat → Nat → Int32} {N : Nat} {root : Int32} {fm : Nat → Int64}
theorem piF_inc (p : Nat) (G : GF) : incG G (piF a fm p G) := by
  unfold piF
  split
  · exact incG_tr (flw_inc _ _ _) (flw_inc _ _ _)
  · split
    · exact incG_rf G
    · exact flw_inc _ _ _
theorem paF_inc (p q : Nat) (G : GF) : incG G (paF a N root fm p q G) := incG_tr (flw_inc _ _ _) (incG_tr (flw_inc _ _ _) (lvP_inc _ _ _ _ _))
theorem poS_inc (p q : Nat) (G : GF) : incG G (poS a N root fm p q G) := by
  unfold poS
  split
  · exact paF_inc p q G
  · split
    · exact lvP_inc _ _ _ _ _
    · split
      · exact lvP_inc _ _ _ _ _
      · exact incG_tr (flw_inc _ _ _) (flw_inc _ _ _)
theorem poF_inc (p : Nat) (G : GF) : incG G (poF a N root fm p G) := by
  unfold poF
  split
  · exact piF_inc p G
  · split
    · exact incG_tr (piF_inc p G) (incG_tr (flw_inc _ _ _) (flw_inc _ _ _))
    · exact incG_tr (piF_inc p G) (poS_inc _ _ _)
theorem piF_sub (hv : v < 16) (hb0 : b0 < 2) {Q : Nat → Nat → Prop} {p : Nat} (hp : p < 241) {G : GF} (h : subF v b0 G.2 Q) (hc : clI a (MM v fm) Q p) : subF v b0 (piF a fm p G).2 Q := by
  unfold piF
  by_cases c : ¬ a c_P_finallyFrom p = -1
  · rw [if_pos c]
    refine flw_sub (flw_sub h (fun b hb hl => ((hc b hb (h _ b hb hl)).1 c).1)) (fun b hb hl => (atP_n (by omega)).mpr ?_)
    obtain ⟨b1, h1, h2, h3⟩ := (thr_ex hv hb0 hb).mp hl
    exact ((hc b1 h1 (h _ b1 h1 h2)).1 c).2 b hb h3
  · rw [if_neg c]
    split
    · exact h
    · rename_i c2
      exact flw_sub h (fun b hb hl => (atP_n (by omega)).mpr ((hc b hb (h _ b hb hl)).2 (Classical.byContradiction c) c2))
theorem poS_sub (hv : v < 16) (hb0 : b0 < 2) {Q : Nat → Nat → Prop} {p q : Nat} (hn : vRow a q) {G : GF} (h : subF v b0 G.2 Q) (hc : clX a N root (MM v fm) v Q p q) : subF v b0 (poS a N root fm p q G).2 Q := by
  unfold poS
  unfold clX at hc
  by_cases c1 : a c_P_sort q = 61
  · rw [if_pos c1]
    simp only [if_pos c1] at hc
    have n1 := hn (Or.inr (Or.inr c1))
    have ht : ∀ b, b < 2 → LB v b0 (sAsg (G.2 (241 + p)) (a c_P_named q)) b → atP Q (a c_Y_trueTo p) b ∧ lvp a N root (MM v fm) Q (fun _ => True) (-1) 1 q b := by
      intro b hb hl
      rw [n1.1] at hl
      obtain ⟨b1, h1, h2, h3⟩ := (asg_ex hv hb0 n1.2 hb).mp hl
      rw [h3]
      exact (hc b1 h1).1 (h _ b1 h1 h2)
    have hf : ∀ b, b < 2 → LB v b0 (sAsg (G.2 (482 + p)) (a c_P_named q)) b → atP Q (a c_Y_falseTo p) b ∧ lvp a N root (MM v fm) Q (fun _ => True) (-1) 1 q b := by
      intro b hb hl
      rw [n1.1] at hl
      obtain ⟨b1, h1, h2, h3⟩ := (asg_ex hv hb0 n1.2 hb).mp hl
      rw [h3]
      exact (hc b1 h1).2 (h _ b1 h1 h2)
    have h2 : subF v b0 (flw (a c_Y_falseTo p) (sAsg (G.2 (482 + p)) (a c_P_named q)) (flw (a c_Y_trueTo p) (sAsg (G.2 (241 + p)) (a c_P_named q)) G)).2 Q := flw_sub (flw_sub h (fun b hb hl => (ht b hb hl).1)) (fun b hb hl => (hf b hb hl).1)
    exact (lvP_sub hv hb0 h2 (FIN := fun _ => True) (fun b hb hl => by
      rw [LB_or] at hl
      rcases hl with hl | hl
      · exact (ht b hb hl).2
      · exact (hf b hb hl).2)).1
  · rw [if_neg c1]
    simp only [if_neg c1] at hc
    by_cases c2 : a c_P_sort q = 82
    · rw [if_pos c2]
      simp only [if_pos c2] at hc
      exact (lvP_sub hv hb0 h (FIN := fun _ => True) (fun b hb hl => hc b hb (by
        rw [LB_or] at hl
        exact hl.elim (fun u => Or.inl (h _ b hb u)) (fun u => Or.inr (h _ b hb u))))).1
    · rw [if_neg c2]
      simp only [if_neg c2] at hc
      by_cases c3 : a c_P_sort q = 88
      · rw [if_pos c3]
        simp only [if_pos c3] at hc
        exact (lvP_sub hv hb0 h (FIN := fun _ => True) (fun b hb hl => hc b hb (by
          rw [LB_or] at hl
          exact hl.elim (fun u => Or.inl (h _ b hb u)) (fun u => Or.inr (h _ b hb u))))).1
      · rw [if_neg c3]
        simp only [if_neg c3] at hc
        exact flw_sub (flw_sub h (fun b hb hl => (hc b hb).1 (h _ b hb hl))) (fun b hb hl => (hc b hb).2 (h _ b hb hl))
theorem poF_sub (hv : v < 16) (hb0 : b0 < 2) {Q : Nat → Nat → Prop} {p : Nat} (hp : p < 241) (hn : ¬ a c_P_around p = -1 → vRow a (dN (a c_P_around p))) {G : GF} (h : subF v b0 G.2 Q) (hc : clO a N root (MM v fm) v Q p) : subF v b0 (poF a N root fm p G).2 Q := by
  have h1 : subF v b0 (piF a fm p G).2 Q := piF_sub hv hb0 hp h hc.1
  unfold poF
  split
  · exact h1
  · rename_i c
    split
    · rename_i c2
      have hc := (hc.2 c).1 c2
      exact flw_sub (flw_sub h1 (fun b hb hl => (hc b hb).1 (h1 _ b hb hl))) (fun b hb hl => (hc b hb).2 (h1 _ b hb hl))
    · rename_i c2
      exact poS_sub hv hb0 (hn c2) h1 ((hc.2 c).2 c2)
theorem piF_fix (hv : v < 16) (hb0 : b0 < 2) {p : Nat} (hp : p < 241) {G : GF} (h : piF a fm p G = G) : clI a (MM v fm) (CB v b0 G.2) p := by
  unfold piF at h
  refine fun b hb hq => ⟨fun c => ?_, fun c c2 => ?_⟩
  · rw [if_pos c] at h
    have f1 := incG_fix (flw_inc _ _ _) (flw_inc _ _ _) h
    rw [f1] at h
    refine ⟨flw_fix f1 b hb hq, fun b' hb' hm => (atP_n (Q := CB v b0 G.2) (by omega)).mp (flw_fix h b' hb' ?_)⟩
    exact (thr_ex hv hb0 hb').mpr ⟨b, hb, hq, hm⟩
  · rw [if_neg (fun u => u c), if_neg c2] at h
    exact (atP_n (Q := CB v b0 G.2) (by omega)).mp (flw_fix h b hb hq)
theorem poS_fix (hv : v < 16) (hb0 : b0 < 2) {p q : Nat} (hn : vRow a q) {G : GF} (h : poS a N root fm p q G = G) : clX a N root (MM v fm) v (CB v b0 G.2) p q := by
  unfold poS at h
  unfold clX
  intro b hb
  by_cases c1 : a c_P_sort q = 61
  · rw [if_pos c1] at h ⊢
    have n1 := hn (Or.inr (Or.inr c1))
    have hb2 : (if dN (a c_P_named q) = v then 1 else b) < 2 := by split <;> omega
    unfold paF at h
    have f1 := incG_fix (flw_inc _ _ _) (incG_tr (flw_inc _ _ _) (lvP_inc _ _ _ _ _)) h
    rw [f1] at h
    have f2 := incG_fix (flw_inc _ _ _) (lvP_inc _ _ _ _ _) h
    rw [f2] at h
    refine ⟨fun hq => ?_, fun hq => ?_⟩
    · have hu := (asg_ex hv hb0 n1.2 hb2).mpr ⟨b, hb, hq, rfl⟩
      rw [← n1.1] at hu
      exact ⟨flw_fix f1 _ hb2 hu, lvq_mono (fun _ _ q => q) (fun _ _ _ => trivial) _ _ _ _ hb2 (lvP_fix hv hb0 h _ hb2 (LB_or.mpr (Or.inl hu)))⟩
    · have hu := (asg_ex hv hb0 n1.2 hb2).mpr ⟨b, hb, hq, rfl⟩
      rw [← n1.1] at hu
      exact ⟨flw_fix f2 _ hb2 hu, lvq_mono (fun _ _ q => q) (fun _ _ _ => trivial) _ _ _ _ hb2 (lvP_fix hv hb0 h _ hb2 (LB_or.mpr (Or.inr hu)))⟩
  · rw [if_neg c1] at h ⊢
    by_cases c2 : a c_P_sort q = 82
    · rw [if_pos c2] at h ⊢
      intro hq
      exact lvq_mono (fun _ _ q => q) (fun _ _ _ => trivial) _ _ _ _ hb (lvP_fix hv hb0 h _ hb (LB_or.mpr hq))
    · rw [if_neg c2] at h ⊢
      by_cases c3 : a c_P_sort q = 88
      · rw [if_pos c3] at h ⊢
        intro hq
        exact lvq_mono (fun _ _ q => q) (fun _ _ _ => trivial) _ _ _ _ hb (lvP_fix hv hb0 h _ hb (LB_or.mpr hq))
      · rw [if_neg c3] at h ⊢
        have f1 := incG_fix (flw_inc _ _ _) (flw_inc _ _ _) h
        rw [f1] at h
        exact ⟨fun hq => flw_fix f1 b hb hq, fun hq => flw_fix h b hb hq⟩
theorem poF_fix (hv : v < 16) (hb0 : b0 < 2) {p : Nat} (hp : p < 241) (hn : ¬ a c_P_around p = -1 → vRow a (dN (a c_P_around p))) {G : GF} (h : poF a N root fm p G = G) : clO a N root (MM v fm) v (CB v b0 G.2) p := by
  unfold poF at h
  by_cases c : a c_Y_trueTo p = 964 ∧ ¬ a c_P_around p = root
  · rw [if_pos c] at h
    exact ⟨piF_fix hv hb0 hp h, fun u => absurd c u⟩
  · rw [if_neg c] at h
    by_cases c2 : a c_P_around p = -1
    · rw [if_pos c2] at h
      have f0 := incG_fix (piF_inc p G) (incG_tr (flw_inc _ _ _) (flw_inc _ _ _)) h
      rw [f0] at h
      have f1 := incG_fix (flw_inc _ _ _) (flw_inc _ _ _) h
      rw [f1] at h
      exact ⟨piF_fix hv hb0 hp f0, fun _ => ⟨fun _ b hb => ⟨fun hq => flw_fix f1 b hb hq, fun hq => flw_fix h b hb hq⟩, fun u => absurd c2 u⟩⟩
    · rw [if_neg c2] at h
      have f0 := incG_fix (piF_inc p G) (poS_inc _ _ _) h
      rw [f0] at h
      exact ⟨piF_fix hv hb0 hp f0, fun _ => ⟨fun u => absurd u c2, fun _ => poS_fix hv hb0 (hn c2) h⟩⟩
end CLU
/-- q is ended at p -/
def inCh (a : Nat → Nat → Int32) (N fr p q : Nat) : Nat → Nat → Prop
  | 0, _ => False
  | k + 1, q' => ((fr + 1 ≤ q' ∧ q' ≤ N) ∧ a c_P_end (q' - 1) = nI (p + 1)) ∧ (q' = q + 1 ∨ inCh a N fr p q k (dO (a c_P_around (q' - 1))))
section CLV
variable {v b0 : Nat} {a : Nat → Nat → Int32} {N : Nat} {root : Int32} {fm : Nat → Int64}
theorem swI_inc (fr p : Nat) : ∀ (k q : Nat) (G : GF), incG G (swI a N root fm fr p k q G)
  | 0, _, G => incG_rf G
  | k + 1, q, G => by
    unfold swI
    split
    · exact incG_tr (poF_inc _ _) (swI_inc fr p k _ _)
    · exact incG_rf G
theorem swF_inc (fr : Nat) : ∀ (j p : Nat) (G : GF), incG G (swF a N root fm fr j p G)
  | 0, _, G => incG_rf G
  | j + 1, p, G => incG_tr (bgF_inc _ _) (incG_tr (swI_inc fr p _ _ _) (swF_inc fr j (p + 1) _))
/-- rows that a sweep needs -/
def swR (a : Nat → Nat → Int32) (N : Nat) : Prop := ∀ p, p < N → vRow a p ∧ (¬ a c_P_around p = -1 → vRow a (dN (a c_P_around p))) ∧ dO (a c_P_around p) ≤ p
theorem swI_sub (hv : v < 16) (hb0 : b0 < 2) (hN : N ≤ 241) (hr : swR a N) {Q : Nat → Nat → Prop} {fr p to : Nat} (hp : p < to) (hc : ∀ q, fr ≤ q → q < to → clO a N root (MM v fm) v Q q) : ∀ (k q : Nat) (G : GF), q ≤ p + 1 → subF v b0 G.2 Q → subF v b0 (swI a N root fm fr p k q G).2 Q
  | 0, _, G, _, h => h
  | k + 1, q, G, hq, h => by
    unfold swI
    split
    · rename_i c
      have h2 := hr (q - 1) (by omega)
      exact swI_sub hv hb0 hN hr hp hc k _ _ (by omega) (poF_sub hv hb0 (by omega) h2.2.1 h (hc (q - 1) (by omega) (by omega)))
    · exact h
theorem swF_sub (hv : v < 16) (hb0 : b0 < 2) (hN : N ≤ 241) (hr : swR a N) {Q : Nat → Nat → Prop} {fr to : Nat} (hto : to ≤ N) (hcB : ∀ q, fr ≤ q → q < to → clB a N root (MM v fm) v Q q) (hc : ∀ q, fr ≤ q → q < to → clO a N root (MM v fm) v Q q) : ∀ (j p : Nat) (G : GF), fr ≤ p → p + j = to → subF v b0 G.2 Q → subF v b0 (swF a N root fm fr j p G).2 Q
  | 0, _, G, _, _, h => h
  | j + 1, p, G, hf, hj, h => swF_sub hv hb0 hN hr hto hcB hc j (p + 1) _ (by omega) (by omega) (swI_sub hv hb0 hN hr (to := to) (by omega) hc _ _ _ (Nat.le_refl _) (bgF_sub hv hb0 (by omega) (hr p (by omega)).1 h (hcB p hf (by omega))))
theorem swI_fix (hv : v < 16) (hb0 : b0 < 2) (hN : N ≤ 241) (hr : swR a N) {fr p q : Nat} : ∀ (k q' : Nat) (G : GF), swI a N root fm fr p k q' G = G → inCh a N fr p q k q' → clO a N root (MM v fm) v (CB v b0 G.2) q
  | 0, _, _, _, h => h.elim
  | k + 1, q', G, hf, h => by
    unfold swI at hf
    unfold inCh at h
    rw [if_pos h.1] at hf
    have f1 := incG_fix (poF_inc _ _) (swI_inc fr p k _ _) hf
    rw [f1] at hf
    rcases h.2 with e | h2
    · subst e
      rw [Nat.add_sub_cancel] at f1
      exact poF_fix hv hb0 (by omega) (hr q (by omega)).2.1 f1
    · exact swI_fix hv hb0 hN hr k _ G hf h2
theorem swF_fix (hv : v < 16) (hb0 : b0 < 2) (hN : N ≤ 241) (hr : swR a N) {fr to : Nat} (hto : to ≤ N) : ∀ (j p : Nat) (G : GF), p + j = to → swF a N root fm fr j p G = G → ∀ q, p ≤ q → q < to → clB a N root (MM v fm) v (CB v b0 G.2) q ∧ ∀ x, inCh a N fr q x 241 (q + 1) → clO a N root (MM v fm) v (CB v b0 G.2) x
  | 0, _, _, _, _, q, _, _ => by omega
  | j + 1, p, G, hj, hf, q, h1, h2 => by
    have f1 : bgF a N root fm p G = G := incG_fix (bgF_inc _ _) (incG_tr (swI_inc fr p _ _ _) (swF_inc fr j (p + 1) _)) hf
    unfold swF at hf
    rw [f1] at hf
    have f2 : swI a N root fm fr p 241 (p + 1) G = G := incG_fix (swI_inc fr p _ _ _) (swF_inc fr j (p + 1) _) hf
    rw [f2] at hf
    by_cases e : q = p
    · subst e
      exact ⟨bgF_fix hv hb0 (by omega) (hr q (by omega)).1 f1, fun x hx => swI_fix hv hb0 hN hr 241 _ G f2 hx⟩
    · exact swF_fix hv hb0 hN hr hto j (p + 1) G (by omega) hf q (by omega) h2
end CLV
theorem cnB_mono {f g : Nat → Bool} (h : ∀ i, f i = true → g i = true) : ∀ (z b : Nat), cnB f b z ≤ cnB g b z
  | 0, _ => Nat.le_refl _
  | z + 1, b => by
    have ih := cnB_mono h z (b + 1)
    simp only [cnB]
    have := h b
    cases e : f b
    · rw [if_neg (by simp)]; omega
    · rw [if_pos rfl, this e, if_pos rfl]; omega
theorem cnB_lt {f g : Nat → Bool} (h : ∀ i, f i = true → g i = true) {x : Nat} (hx : f x = false) (hg : g x = true) : ∀ (z b : Nat), b ≤ x → x < b + z → cnB f b z < cnB g b z
  | 0, _, _, _ => by omega
  | z + 1, b, h1, h2 => by
    simp only [cnB]
    by_cases e : b = x
    · subst e
      have := cnB_mono h z (b + 1)
      rw [if_neg (by simp [hx]), if_pos hg]
      omega
    · have ih := cnB_lt h hx hg z (b + 1) (by omega) (by omega)
      have := h b
      cases e2 : f b
      · rw [if_neg (by simp)]; omega
      · rw [if_pos rfl, this e2, if_pos rfl]; omega
def muF (f : Nat → Int64) : Nat := cnB (fun i => tb (f (i / 64)) (i % 64)) 0 61760
theorem muF_lt {f g : Nat → Int64} (h : leF f g) {x : Nat} (hx : x < 965) (hn : ¬ g x = f x) : muF f < muF g := by
  have : ∃ k, k < 64 ∧ tb (f x) k = false ∧ tb (g x) k = true := by
    apply Classical.byContradiction
    intro hc
    apply hn
    refine tb_ext (fun k hk => ?_)
    cases e : tb (f x) k
    · cases e2 : tb (g x) k
      · rfl
      · exact absurd ⟨k, hk, e, e2⟩ hc
    · exact h x k e
  obtain ⟨k, hk, h1, h2⟩ := this
  have e1 : (64 * x + k) / 64 = x := by omega
  have e2 : (64 * x + k) % 64 = k := by omega
  refine cnB_lt (x := 64 * x + k) (fun i hi => h _ _ hi) ?_ ?_ _ _ (by omega) (by omega)
  · show tb (f ((64 * x + k) / 64)) ((64 * x + k) % 64) = false
    rw [e1, e2]; exact h1
  · show tb (g ((64 * x + k) / 64)) ((64 * x + k) % 64) = true
    rw [e1, e2]; exact h2
theorem muF_le (f : Nat → Int64) : muF f ≤ 61760 := by
  unfold muF
  exact cnB_le _ _ _
theorem wkL_fixB {step : GF → GF} {B : Nat} (hB : ∀ f, muF f ≤ B) (hi : ∀ G, incG G (step G)) (k : Nat) : ∀ (G : GF), G.1 = 1 → B < k + muF G.2 → (wkL step k G).1 = 0 ∧ step (wkL step k G) = wkL step k G := by
  induction k with
  | zero =>
    intro G _ h
    have q := hB G.2
    rw [Nat.zero_add] at h
    exact absurd h (Nat.not_lt.mpr q)
  | succ k ih =>
    intro G h1 h
    have e : wkL step (k + 1) G = if G.1 = 0 then G else wkL step k (step (0, G.2)) := rfl
    rw [e, if_neg (by rw [h1]; decide)]
    rcases hi (0, G.2) with h2 | ⟨h2, h3, x, h4, h5⟩
    · rw [h2]
      have e2 : wkL step k (0, G.2) = (0, G.2) := by
        cases k with
        | zero => rfl
        | succ k => exact if_pos rfl
      rw [e2]
      exact ⟨rfl, h2⟩
    · have h6 := muF_lt (f := G.2) h3 h4 h5
      refine ih (step (0, G.2)) h2 ?_
      generalize muF (step (0, G.2)).2 = m1 at *
      generalize muF G.2 = m2 at *
      omega
theorem wkL_sub {v b0 : Nat} {step : GF → GF} {Q : Nat → Nat → Prop} (hs : ∀ G, subF v b0 G.2 Q → subF v b0 (step G).2 Q) : ∀ (k : Nat) (G : GF), subF v b0 G.2 Q → subF v b0 (wkL step k G).2 Q
  | 0, _, h => h
  | k + 1, G, h => by
    have e : wkL step (k + 1) G = if G.1 = 0 then G else wkL step k (step (0, G.2)) := rfl
    rw [e]
    split
    · exact h
    · exact wkL_sub hs k _ (hs (0, G.2) h)
theorem wkL_inc {step : GF → GF} (hi : ∀ G, incG G (step G)) : ∀ (k : Nat) (G : GF), leF G.2 (wkL step k G).2
  | 0, G => leF_rf _
  | k + 1, G => by
    have e : wkL step (k + 1) G = if G.1 = 0 then G else wkL step k (step (0, G.2)) := rfl
    rw [e]
    split
    · exact leF_rf _
    · exact leF_tr (incG_le (G := (0, G.2)) (hi (0, G.2))) (wkL_inc hi k (step (0, G.2)))
