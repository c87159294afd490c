section CY
variable (l : Nat → Nat → Int64) (w : Int64) (tx : Nat → Int32) (n : Nat)
def sQ (P : pv_R) (m : Nat → Int32) (a : Nat → Nat → Int32) (cx : cx_T) (b V : Nat) (sc : sc_T) (x : Nat) (q V1 : Nat) (sc1 : sc_T) (t : Std.Format) : Prop := ∀ (m' : Nat → Int32) (a' : Nat → Nat → Int32), Cms m m' → cSt tx n m' a' cx (b + sp_z t) q V1 sc1 → Cs a a' b cx.length V → (PrS (up2 a' c_P_isEntered b (nI (x / 2))) V1 t b sc ∧ a' c_P_isEntered b = 0) → cnR (a c_V_uses) (a c_V_assigns) V a' V1 t → P (some (.int 1)) (cs m' a' l w)
def lQ (P : pv_R) (m : Nat → Int32) (a : Nat → Nat → Int32) (cx : cx_T) (b V : Nat) (sc sc0 : sc_T) (q V1 : Nat) (_ : sc_T) (t : Std.Format) : Prop := ∀ (m' : Nat → Int32) (a' : Nat → Nat → Int32), Cms m m' → cSt tx n m' a' cx (b + sp_z t) q V1 sc0 → Cs a a' b cx.length V → PrS a' V1 t b sc → cnR (a c_V_uses) (a c_V_assigns) V a' V1 t → P (some (.int 1)) (cs m' a' l w)
def sC0 (f : Nat) : Prop := ∀ (D : Nat) (cx : cx_T) (b p V : Nat) (sc : sc_T) (x : Nat) (m : Nat → Int32) (a : Nat → Nat → Int32) (P : pv_R), cSt tx n m a cx b p V sc → b ≤ p → (x < 4 ∧ (x % 2 = 0 → ¬ (sp_c tx n p = 36 ∨ sp_c tx n p = 37))) → 2 * (n - p) < f → 4 * (20 - cx.length) + 170 ≤ D → rP (cFs l w P m a) (sQ l w tx n P m a cx b V sc x) (st tx n f 0 cx b p V sc x) → pv_call cq_mt D cq_m_Reader_statement [.ref 3, .int (nI cx.length)] (cs m a l w) P
def sC1 (f : Nat) : Prop := ∀ (D : Nat) (cx : cx_T) (b p V : Nat) (sc sc0 : sc_T) (i : Nat) (m : Nat → Int32) (a : Nat → Nat → Int32) (P : pv_R), cSt tx n m a cx b p V sc → (scC a V sc0 ∧ scOK sc0) → b ≤ p → i < p → 2 * (n - p) + 1 < f → 4 * (20 - cx.length) + 170 ≤ D → rP (cFs l w P m a) (lQ l w tx n P m a cx b V sc sc0) (st tx n f 1 cx b p V sc 0) → pv_go cq_T43 1 (pv_call cq_mt D) P (18, bL cx.length (thOf sc0) i, [], cs m a l w)
end CY
section CZ
variable {l : Nat → Nat → Int64} {w : Int64} {tx : Nat → Int32} {n : Nat}
theorem rP_b {F : Nat → Prop} {Q : Nat → Nat → sc_T → Std.Format → Prop} {r : st_R} {g : Nat → Nat → sc_T → Std.Format → st_R} : rP F Q (st_b r g) ↔ rP F (fun q V s t => rP F Q (g q V s t)) r := by
  rcases r with q | ⟨q, V, s, t⟩ <;> exact Iff.rfl
theorem rP_imp {F F' : Nat → Prop} {Q Q' : Nat → Nat → sc_T → Std.Format → Prop} {r : st_R} (hF : ∀ q, r = .inl q → F q → F' q) (hQ : ∀ q V s t, r = .inr (q, V, s, t) → Q q V s t → Q' q V s t) (h : rP F Q r) : rP F' Q' r := by
  rcases r with q | ⟨q, V, s, t⟩
  · exact hF q rfl h
  · exact hQ q V s t rfl h
theorem up2_id {a : Nat → Nat → Int32} {j i : Nat} {x : Int32} (h : a j i = x) : up2 a j i x = a := by
  funext j2 i2
  unfold up2 upa upd
  by_cases e : j2 = j
  · rw [if_pos e]
    by_cases e2 : i2 = i
    · rw [if_pos e2, e, e2, h]
    · rw [if_neg e2, e]
  · rw [if_neg e]
theorem st_V {f g : Nat} {cx : cx_T} {b p V : Nat} {sc : sc_T} {x q V1 : Nat} {sc1 : sc_T} {t : Std.Format} {m : Nat → Int32} {a : Nat → Nat → Int32} {cx' : cx_T} {b' : Nat} (hS : cSt tx n m a cx' b' p V sc) (hg : g ≤ 3) (h : st tx n f g cx b p V sc x = .inr (q, V1, sc1, t)) : (p + sp_z t ≤ q ∧ q ≤ n) ∧ (g = 0 → 1 ≤ sp_z t ∧ p < q) ∧ (V ≤ V1 ∧ V1 ≤ 12) := by
  have hp := cSt_p hS
  have hG := st_good f g cx b p V sc x q V1 sc1 t hg hp.1 hp.2 h
  exact ⟨hG.1.1, hG.1.2.2, hG.2.1.1, (hG.2.2 hS.2.2.2.2.2 hS.1.1.2).2⟩
theorem sC1_step {f : Nat} (i0 : sC0 l w tx n f) (i1 : sC1 l w tx n f) : sC1 l w tx n (f + 1) := by
  intro D cx b p V sc sc0 i m a P hS hsc hb hi hf hD h
  obtain ⟨d, rfl⟩ := Nat.exists_eq_add_of_le' (show 1 ≤ D by omega)
  obtain ⟨p0, e1, e2, e3⟩ := hS.2.1.1
  have hp := cSt_p hS
  have hn := hS.1.1.1
  have htx := hS.2.2.1
  rw [st1] at h
  refine bk_18 d m a hn e2 e1 hS.1.2.1 (by omega) cx.length (thOf sc0) P (fun q => ?_) (fun q => ?_)
  · rw [htx, e3] at q ⊢
    rw [if_pos q] at h
    have hx := sp_c_x q (by decide)
    have h : lQ l w tx n P m a cx b V sc sc0 (sp_x tx n (p + 1)) V sc .nil := h
    refine bz_bq (l := l) (w := w) (x_expect (tx := tx) (n := n) (m0 := m) (a0 := a) (cx := cx) (b := b) (p := p) (V := V) (sc := sc0) (f := fun q => .inr (q, V, sc, .nil)) (Q := lQ l w tx n P m a cx b V sc sc0) (by omega) ?_ (by omega) (by decide) (Cms_up (Cms_up (Cms_refl _) _ (by decide)) _ (by decide)) (Cs_refl _ _ _ _) ?_ (fun m' h1 h2 h3 h4 => ?_))
    · refine ⟨⟨hS.1.1, hS.1.2.1, rfl, hS.1.2.2.2⟩, ⟨⟨p, rfl, hp.1, hp.2⟩, hS.2.1.2⟩, htx, hS.2.2.2.1, hsc⟩
    · unfold st_x
      rw [if_pos q]
      exact h
    · refine h m' a (Cms_trans (Cms_up (Cms_up (Cms_refl _) _ (by decide)) _ (by decide)) h1) h2 (Cs_refl _ _ _ _) trivial (cnR_0 (fun v => ⟨rfl, rfl⟩))
  · rw [htx, e3] at q ⊢
    rw [if_neg q] at h
    rw [rP_b] at h
    have hS1 : cSt tx n (upd m c_R_at (nI p)) a cx b p V sc := ⟨hS.1, ⟨⟨p, rfl, hp.1, hp.2⟩, hS.2.1.2⟩, hS.2.2⟩
    have hM1 : Cms m (upd m c_R_at (nI p)) := Cms_up (Cms_refl _) _ (by decide)
    refine i0 (d + 1) cx b p V sc 1 _ a _ hS1 hb ⟨by omega, by omega⟩ (by omega) hD ?_
    refine rP_imp (fun q1 _ h => cFs_bq (cFs_tr h hM1 (Cs_refl a 0 0 0))) (fun q1 V1 sc1 t ht h => ?_) h
    have hV := st_V hS (by omega) ht
    have hA := (st_scA hn (by omega) hS.1.1.2 ht).1
    have hgd := st_good f 0 cx b p V sc 1 q1 V1 sc1 t (by omega) hp.1 hp.2 ht
    intro m' a' g1 g2 g3 g4 g5
    refine Or.inr ⟨rfl, m', a', rfl, ?_⟩
    have hP1 : PrS a' V1 t b sc := by
      have := g4.1
      rw [show nI (1 / 2) = a' c_P_isEntered b from g4.2.symm, up2_id rfl] at this
      exact this
    have hsc' : scC a' V1 sc0 ∧ scOK sc0 := ⟨scC_mono hV.2.2.1 (fun v hv => Cs_vr g3 (by decide) hv) sc0 hsc.1, hsc.2⟩
    refine i1 (d + 1) cx (b + sp_z t) q1 V1 sc1 sc0 (i + 1) m' a' P g2 hsc' (by omega) (by omega) (by omega) hD ?_
    rw [rP_b] at h
    refine rP_imp (fun q2 _ h => cFs_tr h (Cms_trans hM1 g1) g3) (fun q2 V2 sc2 t2 ht2 h => ?_) h
    have hV2 := st_V g2 (by omega) ht2
    intro m2 a2 k1 k2 k3 k4 k5
    refine h m2 a2 (Cms_trans hM1 (Cms_trans g1 k1)) (by simp only [sp_z]; rw [← Nat.add_assoc]; exact k2) (Cs_trans g3 k3 (by omega) (Nat.le_refl _) hV.2.2.1) ⟨PrS_Cs k3 (Nat.le_refl _) hV2.2.2.1 (Nat.le_refl _) hP1, ?_⟩ (cnR_2 hV.2.2.1 hV2.2.2.1 g5 k5)
    rw [← hA]; exact k4
theorem rP_bq {P : pv_R} {m0 : Nat → Int32} {a0 : Nat → Nat → Int32} {T : (Nat → Int32) → (Nat → Nat → Int32) → Prop} {Q : Nat → Nat → sc_T → Std.Format → Prop} {r : st_R} (h : rP (cFs l w P m0 a0) Q r) : rP (cFs l w (bq l w (fun S => P (some (.int 0)) S) T) m0 a0) Q r :=
  rP_imp (fun _ _ h => cFs_bq h) (fun _ _ _ _ _ h => h) h
theorem x_block {f D : Nat} (i1 : sC1 l w tx n f) {P : pv_R} {m0 m : Nat → Int32} {a0 a : Nat → Nat → Int32} {cx : cx_T} {b p V : Nat} {sc : sc_T} {g : Nat → Nat → sc_T → Std.Format → st_R} {Q : Nat → Nat → sc_T → Std.Format → Prop} {T : (Nat → Int32) → (Nat → Nat → Int32) → Prop} (hD : 4 * (20 - cx.length) + 171 ≤ D) (hS : cSt tx n m a cx b p V sc) (hb : b ≤ p + 1) (hf : 2 * (n - p) ≤ f) (hm : Cms m0 m) (ha : Cg a0 a)
    (h : rP (cFs l w P m0 a0) Q (st_x tx n 123 p fun q => st_b (st tx n f 1 cx b q V sc 0) g))
    (k : ∀ q V1 sc1 t m' a', Cms m m' → cSt tx n m' a' cx (b + sp_z t) q V1 sc → Cs a a' b cx.length V → (p + 1 + sp_z t ≤ q ∧ q ≤ n ∧ V ≤ V1 ∧ V1 ≤ 12) → PrS a' V1 t b sc → cnR (a c_V_uses) (a c_V_assigns) V a' V1 t → rP (cFs l w P m0 a0) Q (g q V1 sc1 t) → T m' a') :
    pv_call cq_mt D cq_m_Reader_block [.ref 3, .int (nI cx.length)] (cs m a l w) (bq l w (fun S => P (some (.int 0)) S) T) := by
  obtain ⟨d, rfl⟩ := Nat.exists_eq_add_of_le' (show 1 ≤ D by omega)
  have hn := hS.1.1.1
  have hp := cSt_p hS
  refine cc_block d m a cx.length _ (x_expect (tx := tx) (n := n) (by omega) hS (by omega) (by decide) hm ha (rP_bq h) (fun m1 h1 h2 h3 h4 => ?_))
  rw [hS.1.2.2.1]
  refine i1 d cx b (sp_x tx n (p + 1)) V sc sc 0 m1 a _ h2 h2.2.2.2.2 (by omega) (by omega) (by omega) (by omega) ?_
  rw [rP_b] at h4
  refine rP_imp (fun q1 _ h => cFs_tr h (Cms_trans hm h1) ha) (fun q1 V1 sc1 t ht h => ?_) h4
  have hV := st_V h2 (by omega) ht
  intro m' a' g1 g2 g3 g4 g5
  refine Or.inr ⟨rfl, m', a', rfl, k q1 V1 sc1 t m' a' (Cms_trans h1 g1) g2 g3 (by omega) g4 g5 ?_⟩
  refine rP_imp (fun q2 _ h => ?_) (fun q2 V2 sc2 t2 ht2 h => h) h
  exact fun m2 a2 B u1 u2 u3 u4 => (h m2 a2 B u1 u2 u3 u4).elim (fun e => e.2) (fun e => by cases e.1)
theorem x_body {f D : Nat} (i0 : sC0 l w tx n f) {P : pv_R} {m0 m : Nat → Int32} {a0 a : Nat → Nat → Int32} {cx : cx_T} {b p V : Nat} {sc : sc_T} {g : Nat → Nat → sc_T → Std.Format → st_R} {Q : Nat → Nat → sc_T → Std.Format → Prop} {T : (Nat → Int32) → (Nat → Nat → Int32) → Prop} (hD : 4 * (20 - cx.length) + 171 ≤ D) (hS : cSt tx n m a cx b p V sc) (hb : b ≤ p) (hf : 2 * (n - p) < f) (hm : Cms m0 m) (ha : Cg a0 a)
    (h : rP (cFs l w P m0 a0) Q (st_b (st tx n f 0 cx b p V sc 0) g))
    (k : ∀ q V1 sc1 t m' a', Cms m m' → cSt tx n m' a' cx (b + sp_z t) q V1 sc → Cs a a' b cx.length V → (p + sp_z t ≤ q ∧ p < q ∧ q ≤ n ∧ V ≤ V1 ∧ V1 ≤ 12) → (PrS a' V1 t b sc ∧ scA sc t = sc) → cnR (a c_V_uses) (a c_V_assigns) V a' V1 t → rP (cFs l w P m0 a0) Q (g q V1 sc1 t) → T m' a') :
    pv_call cq_mt D cq_m_Reader_body [.ref 3, .int (nI cx.length)] (cs m a l w) (bq l w (fun S => P (some (.int 0)) S) T) := by
  obtain ⟨d, rfl⟩ := Nat.exists_eq_add_of_le' (show 2 ≤ D by omega)
  obtain ⟨p0, e1, e2, e3⟩ := hS.2.1.1
  have hp := cSt_p hS
  have hn := hS.1.1.1
  have htx := hS.2.2.1
  refine cc_body d m a hn e2 e1 hS.1.2.1 _ _ (fun q => ?_) (fun q => ?_)
  · rw [htx, e3] at q ⊢
    refine Or.inl ⟨rfl, ?_⟩
    have hF : cFs l w P m0 a0 p := by
      obtain ⟨f, rfl⟩ := Nat.exists_eq_add_of_le' (show 1 ≤ f by omega)
      rw [rP_b, st0] at h
      by_cases hc : 20 ≤ cx.length
      · rw [if_pos hc] at h; exact h
      · rw [if_neg hc, if_pos q, if_pos (Or.inl rfl)] at h; exact h
    exact hF _ _ b (Cms_up (Cms_up hm _ (by decide)) _ (by decide)) rfl ⟨hS.2.1.2, by omega⟩ ha
  · rw [htx, e3] at q ⊢
    have hS1 : cSt tx n (upd m c_R_at (nI p)) a cx b p V sc := ⟨hS.1, ⟨⟨p, rfl, hp.1, hp.2⟩, hS.2.1.2⟩, hS.2.2⟩
    have hM1 : Cms m (upd m c_R_at (nI p)) := Cms_up (Cms_refl _) _ (by decide)
    refine bz_bq (l := l) (w := w) (i0 (d + 1) cx b p V sc 0 _ a _ hS1 hb ⟨by omega, fun _ => q⟩ hf (by omega) ?_)
    rw [rP_b] at h
    refine rP_imp (fun q1 _ h => cFs_bq (cFs_bq (cFs_tr h (Cms_trans hm hM1) ha))) (fun q1 V1 sc1 t ht h => ?_) h
    have hV := st_V hS (by omega) ht
    have hA := st_scA hn (by omega) hS.1.1.2 ht
    have hs1 := hA.2 rfl
    intro m' a' g1 g2 g3 g4 g5
    have hP1 : PrS a' V1 t b sc := by
      have := g4.1
      rw [show nI (0 / 2) = a' c_P_isEntered b from g4.2.symm, up2_id rfl] at this
      exact this
    rw [hs1] at g2
    exact Or.inr ⟨rfl, m', a', rfl, Or.inr ⟨rfl, m', a', rfl, k q1 V1 sc1 t m' a' (Cms_trans hM1 g1) g2 g3 (by omega) ⟨hP1, hA.1.symm.trans hs1⟩ g5 h⟩⟩
theorem x_cond {D : Nat} {P : pv_R} {m0 m : Nat → Int32} {a0 a : Nat → Nat → Int32} {cx : cx_T} {b p V : Nat} {sc : sc_T} {f : Nat → Std.Format → st_R} {Q : Nat → Nat → sc_T → Std.Format → Prop} {T : (Nat → Int32) → (Nat → Nat → Int32) → Prop} (hD : 159 ≤ D) (hS : cSt tx n m a cx b p V sc) (hb : b ≤ p) (hm : Cms m0 m) (ha : Cg a0 a)
    (h : rP (cFs l w P m0 a0) Q (st_x tx n 40 p fun q => st_eb (st_e tx n sc q) fun q e => st_x tx n 41 q (fun q => f q e)))
    (k : ∀ q u m' a', Cms m m' → cSt tx n m' a' cx (b + sp_z u) q V sc → Ce a a' b → (p + 2 + sp_z u ≤ q ∧ q ≤ n ∧ 1 ≤ sp_z u) → (eW V u ∧ PrS a' V u b sc) → cnR (a c_V_uses) (a c_V_assigns) V a' V u → rP (cFs l w P m0 a0) Q (f q u) → T m' a') :
    pv_call cq_mt D cq_m_Reader_condition [.ref 3] (cs m a l w) (bq l w (fun S => P (some (.int 0)) S) T) := by
  obtain ⟨d, rfl⟩ := Nat.exists_eq_add_of_le' (show 1 ≤ D by omega)
  have hn := hS.1.1.1
  have hp := cSt_p hS
  refine cc_condition d m a _ (x_expect (tx := tx) (n := n) (by omega) hS (by omega) (by decide) hm ha (rP_bq h) (fun m1 h1 h2 h3 h4 => ?_))
  refine x_expr (by omega) h2 (by omega) (Cms_trans hm h1) ha h4 (fun q u m' a' k1 k2 k3 k4 k5 k6 k7 => ?_)
  refine bz_bq (l := l) (w := w) (x_expect (tx := tx) (n := n) (by omega) k2 (by omega) (by decide) (Cms_trans hm (Cms_trans h1 k1)) (Cs_trans ha (Cs_Ce k3) (Nat.zero_le _) (Nat.le_refl 0) (Nat.le_refl 0)) k7 (fun m2 j1 j2 j3 j4 => ?_))
  refine Or.inr ⟨rfl, m2, a', rfl, k _ u m2 a' (Cms_trans h1 (Cms_trans k1 j1)) j2 k3 (by omega) k5 k6 ?_⟩
  refine rP_imp (fun q2 _ h => ?_) (fun q2 V2 sc2 t2 ht2 h => h) j4
  exact fun m2 a2 B u1 u2 u3 u4 => (h m2 a2 B u1 u2 u3 u4).elim (fun e => e.2) (fun e => by cases e.1)
end CZ
