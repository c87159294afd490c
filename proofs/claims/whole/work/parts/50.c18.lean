section KU0
variable {l : Nat → Nat → Int64} {w : Int64}
set_option maxRecDepth 100000 in
theorem ru_44x (d : Nat) (m : Nat → Int32) (a : Nat → Nat → Int32) {n : Nat} (P : pv_R) (h : P (some (.int 1)) (cs (upd m c_P_thereAtEnd (m c_R_there)) a l w)) : pv_go cq_T30 1 (pv_call cq_mt (d + 1)) P (44, uL1 n 240, [], cs m a l w) := by
  refine pv_run [44, 75] 60 ?_
  refine And.intro (fun _ => ?_) (fun q => absurd (show (240 : Int32) ≤ nI 240 by decide) q)
  show pv_go cq_T30 1 (pv_call cq_mt (d + 1)) P (75, uL1 n 240, [], cs m a l w)
  refine pv_run [] 40 ?_
  exact And.intro (Or.inr rfl) h
end KU0
section KU
variable {l : Nat → Nat → Int64} {w : Int64} {tx : Nat → Int32} {n : Nat}
def uQ (l : Nat → Nat → Int64) (w : Int64) (tx : Nat → Int32) (n : Nat) (P : pv_R) (m : Nat → Int32) (a : Nat → Nat → Int32) (b V : Nat) (sc : sc_T) (q V1 : Nat) (sc1 : sc_T) (t : Std.Format) : Prop := ∀ (m' : Nat → Int32) (a' : Nat → Nat → Int32), Cms m m' → cSt tx n m' a' [] (b + sp_z t) q V1 sc1 → m' c_P_thereAtEnd = thOf sc1 → Cs a a' b 0 V → PrS a' V1 t b sc → cnR (a c_V_uses) (a c_V_assigns) V a' V1 t → P (some (.int 1)) (cs m' a' l w)
theorem sC3_all {P : pv_R} {D : Nat} (hD : 250 ≤ D) : ∀ (f b p V : Nat) (sc : sc_T) (i : Nat) (m : Nat → Int32) (a : Nat → Nat → Int32), cSt tx n m a [] b p V sc → b ≤ p → i ≤ p → 2 * (n - p) + 1 < f → rP (cFs l w P m a) (uQ l w tx n P m a b V sc) (st tx n f 3 [] b p V sc 0) → pv_go cq_T30 1 (pv_call cq_mt D) P (44, uL1 n i, [], cs m a l w) := by
  intro f
  induction f with
  | zero => intro b p V sc i m a hS hb hi hf; omega
  | succ f ih =>
    intro b p V sc i m a hS hb hi hf h
    obtain ⟨d, rfl⟩ := Nat.exists_eq_add_of_le' (show 1 ≤ D by omega)
    obtain ⟨p0, e1, e2, e3⟩ := hS.2.1.1
    have hp := cSt_p hS
    have hn := hS.1.1.1
    have htx := hS.2.2.1
    rw [st3] at h
    by_cases h240 : i = 240
    · have hpn : p = n := by omega
      have hc : sp_c tx n p = -1 := by unfold sp_c; rw [if_neg (by omega)]
      rw [if_pos hc] at h
      rw [h240]
      refine ru_44x d m a P ?_
      exact h _ a (Cms_up (Cms_refl _) _ (by decide)) ⟨hS.1, hS.2.1, hS.2.2⟩ hS.1.2.2.1 (Cs_refl _ _ _ _) trivial (cnR_0 (fun v => ⟨rfl, rfl⟩))
    · refine ru_44 d m a hn e2 e1 hS.1.2.1 (by omega) P (fun q => ?_) (fun q => ?_)
      · rw [htx, e3] at q ⊢
        rw [if_pos q] at h
        exact h _ a (Cms_up (Cms_up (Cms_refl _) _ (by decide)) _ (by decide)) ⟨hS.1, ⟨⟨p, rfl, hp.1, hp.2⟩, hS.2.1.2⟩, hS.2.2⟩ hS.1.2.2.1 (Cs_refl _ _ _ _) trivial (cnR_0 (fun v => ⟨rfl, rfl⟩))
      · rw [htx, e3] at q ⊢
        rw [if_neg q, rP_b] at h
        have hS1 : cSt tx n (upd m c_R_at (nI p)) a [] b p V sc := ⟨hS.1, ⟨⟨p, rfl, hp.1, hp.2⟩, hS.2.1.2⟩, hS.2.2⟩
        have hM1 : Cms m (upd m c_R_at (nI p)) := Cms_up (Cms_refl _) _ (by decide)
        refine (sC_all (l := l) (w := w) (tx := tx) (n := n) f).1 (d + 1) [] b p V sc 1 _ a _ hS1 hb ⟨by omega, by omega⟩ (by omega) (by simp only [List.length_nil]; omega) ?_
        refine rP_imp (fun q1 _ h => cFs_bq (cFs_tr h hM1 (Cs_refl a 0 0 0))) (fun q1 V1 sc1 t ht h => ?_) h
        have hV := st_V hS (by omega) ht
        have hA := (st_scA hn (by omega) hS.1.1.2 ht).1
        intro m' a' g1 g2 g3 g4 g5
        refine Or.inr ⟨rfl, m', a', rfl, ?_⟩
        have hP1 : PrS a' V1 t b sc := by
          have := g4.1
          rw [show nI (1 / 2) = a' c_P_isEntered b from g4.2.symm, up2_id rfl] at this
          exact this
        refine ih (b + sp_z t) q1 V1 sc1 (i + 1) m' a' g2 (by omega) (by omega) (by omega) ?_
        rw [rP_b] at h
        refine rP_imp (fun q2 _ h => cFs_tr h (Cms_trans hM1 g1) g3) (fun q2 V2 sc2 t2 ht2 h => ?_) h
        have hV2 := st_V g2 (by omega) ht2
        intro m2 a2 k1 k2 kt k3 k4 k5
        refine h m2 a2 (Cms_trans hM1 (Cms_trans g1 k1)) (by simp only [sp_z]; rw [← Nat.add_assoc]; exact k2) kt (Cs_trans g3 k3 (by omega) (Nat.le_refl _) hV.2.2.1) ⟨PrS_Cs k3 (Nat.le_refl _) hV2.2.2.1 (Nat.le_refl _) hP1, ?_⟩ (cnR_2 hV.2.2.1 hV2.2.2.1 g5 k5)
        rw [← hA]; exact k4
theorem cc_readUnit_ok (d : Nat) (m : Nat → Int32) (a : Nat → Nat → Int32) {n : Nat} (hn : n ≤ 240) (P : pv_R)
    (h0 : ∀ q, st (a c_A_collected) n 500 3 [] 0 (sp_x (a c_A_collected) n 0) 0 [] 0 = .inl q → cFs l w P (cm0 m n) a q)
    (h1 : ∀ q V sc t, st (a c_A_collected) n 500 3 [] 0 (sp_x (a c_A_collected) n 0) 0 [] 0 = .inr (q, V, sc, t) → ∀ (m' : Nat → Int32) (a' : Nat → Nat → Int32), Cms (cm0 m n) m' → cSt (a c_A_collected) n m' a' [] (sp_z t) q V sc → m' c_P_thereAtEnd = thOf sc → Cg a a' → PrS a' V t 0 [] → cnR (a c_V_uses) (a c_V_assigns) 0 a' V t → P (some (.int 1)) (cs m' a' l w)) : pv_call cq_mt (d + 252) cq_m_Reader_readUnit [.ref 3, .int (nI n)] (cs m a l w) P := by
  refine cc_readUnit (d + 250) m a hn P ?_
  refine sC3_all (tx := a c_A_collected) (n := n) (by omega) 500 0 (sp_x (a c_A_collected) n 0) 0 [] 0 _ a ⟨⟨⟨hn, by omega⟩, rfl, rfl, rfl⟩, ⟨⟨0, rfl, Nat.zero_le _, rfl⟩, rfl⟩, rfl, ⟨trivial, Nat.zero_le _⟩, trivial, trivial⟩ (Nat.zero_le _) (Nat.zero_le _) (by omega) ?_
  have key : ∀ r, st (a c_A_collected) n 500 3 [] 0 (sp_x (a c_A_collected) n 0) 0 [] 0 = r → rP (cFs l w P (cm0 m n) a) (uQ l w (a c_A_collected) n P (cm0 m n) a 0 0 []) r := by
    intro r hr
    rcases r with q | ⟨q, V, sc, t⟩
    · exact h0 q hr
    · intro m' a' g1 g2 g3 g4 g5 g6
      rw [Nat.zero_add] at g2
      exact h1 q V sc t hr m' a' g1 g2 g3 g4 g5 g6
  exact key _ rfl
end KU
