section CI2
variable (l : Nat → Nat → Int64) (w : Int64) (tx : Nat → Int32) (n : Nat)
def skV (z : Int32) (t : Std.Format) : Prop := (z = 1 ∧ fLine t) ∨ (z = 0 ∧ ¬ fLine t)
def iQ (P : pv_R) (m : Nat → Int32) (a : Nat → Nat → Int32) (cx : cx_T) (b V s0 : Nat) (sc sc0 : sc_T) (q V1 : Nat) (_ : sc_T) (t : Std.Format) : Prop := ∀ (m' : Nat → Int32) (a' : Nat → Nat → Int32) (z : Int32), Cms m m' → cSt tx n m' a' cx (b + sp_z t) q V1 sc0 → skV z t → Cs (up2 a c_P_isSkipped s0 z) a' b cx.length V → PrS a' V1 t b sc → cnR (a c_V_uses) (a c_V_assigns) V a' V1 t → P (some (.int 1)) (cs m' a' l w)
def sC2 (f : Nat) : Prop := ∀ (D : Nat) (cx : cx_T) (b p V s0 : Nat) (sc sc0 : sc_T) (i x : Nat) (L : pv_L) (m : Nat → Int32) (a : Nat → Nat → Int32) (P : pv_R), cSt tx n m a cx b p V sc → (scC a V sc0 ∧ scOK sc0) → b ≤ p → i < p → s0 < b → x < 8 → (L = [] ∨ ∃ c y, L = [(8, .int c), (9, .int y)]) → 2 * (n - p) + 1 < f → 4 * (20 - cx.length) + 170 ≤ D → rP (cFs l w P m a) (iQ l w tx n P m a cx b V s0 sc sc0) (st tx n f 2 cx b p V sc x) → pv_go cq_T44 1 (pv_call cq_mt D) P (17, iL s0 cx.length (thOf sc0) (nI (x / 4)) (nI (x % 2)) (nI (x / 2 % 2)) i ++ L, [], cs m a l w)
end CI2
section CI3
variable {l : Nat → Nat → Int64} {w : Int64} {tx : Nat → Int32} {n : Nat}
theorem Cs_u2 {a a' : Nat → Nat → Int32} {b k V j i : Nat} {x : Int32} (h : Cs a a' b k V) : Cs (up2 a j i x) (up2 a' j i x) b k V := by
  intro j2 i2 q
  by_cases e : j2 = j ∧ i2 = i
  · rw [e.1, e.2, up2_at, up2_at]
  · rw [up2_no e, up2_no e]; exact h j2 i2 q
theorem bit01 {k : Nat} (h : k < 2) : nI k = 0 ∨ nI k = 1 := by
  have : k = 0 ∨ k = 1 := by omega
  rcases this with rfl | rfl
  · exact Or.inl rfl
  · exact Or.inr rfl
theorem nI_z2 {k : Nat} (h : k < 2) : (nI k = 0) = (k = 0) := by
  rw [show (0 : Int32) = nI 0 from rfl, nI_eq (by omega) (by omega)]
theorem nI_one {k : Nat} (h : k < 2) : (nI k = 1) = (k = 1) := by
  rw [show (1 : Int32) = nI 1 from rfl, nI_eq (by omega) (by omega)]
theorem sC2_step {f : Nat} (i0 : sC0 l w tx n f) (i2 : sC2 l w tx n f) : sC2 l w tx n (f + 1) := by
  intro D cx b p V s0 sc sc0 i x L m a P hS hsc hb hi hs0 hx hL hf hD h
  obtain ⟨d, rfl⟩ := Nat.exists_eq_add_of_le' (show 3 ≤ D by omega)
  obtain ⟨p0, e1, e2, e3⟩ := hS.2.1.1
  have hp := cSt_p hS
  have hn := hS.1.1.1
  have htx := hS.2.2.1
  rw [st2] at h
  have hMu : Cms m (upd m c_R_at (nI p)) := Cms_up (Cms_refl _) _ (by decide)
  have hSu : cSt tx n (upd m c_R_at (nI p)) a cx b p V sc := ⟨hS.1, ⟨⟨p, rfl, hp.1, hp.2⟩, hS.2.1.2⟩, hS.2.2⟩
  refine it_17 (d + 2) m a (B := b) hn e2 e1 hS.1.2.1 (by omega) hS.2.1.2 s0 cx.length _ _ _ _ L hL P (fun q => ?_) (fun q => ?_)
  · rw [htx, e3] at q ⊢
    rw [if_pos q] at h
    have hxq := sp_c_x q (by decide)
    refine it_152 (d + 3) (upd m c_R_at (nI p)) a s0 cx.length _ _ _ _ (bit01 (by omega)) (bit01 (by omega)) L P ?_
    simp only [nI_one (show x / 2 % 2 < 2 by omega), nI_z2 (show x / 4 < 2 by omega)]
    generalize hz : (if x / 2 % 2 = 1 ∨ x / 4 = 0 then (1 : Int32) else 0) = z
    have hzz : z = 0 ∨ z = 1 := by rw [← hz]; split; exact Or.inr rfl; exact Or.inl rfl
    refine cc_skip (d + 1) (upd (upd m c_R_at (nI p)) c_R_there (thOf sc0)) a (p := s0) (b := b) hs0 (by omega) hS.2.1.2 z hzz _ ?_
    refine ⟨rfl, _, _, rfl, ?_⟩
    have h : iQ l w tx n P m a cx b V s0 sc sc0 (sp_x tx n (p + 1)) V sc (if x / 2 % 2 = 1 ∨ x / 4 = 0 then .line else .nil) := h
    have hsk : skV z (if x / 2 % 2 = 1 ∨ x / 4 = 0 then .line else .nil) := by
      rw [← hz]
      by_cases c : x / 2 % 2 = 1 ∨ x / 4 = 0
      · rw [if_pos c, if_pos c]; exact Or.inl ⟨rfl, trivial⟩
      · rw [if_neg c, if_neg c]; exact Or.inr ⟨rfl, id⟩
    have hz0 : sp_z (if x / 2 % 2 = 1 ∨ x / 4 = 0 then .line else .nil) = 0 := by split <;> rfl
    have hu0 : ∀ v, uS v (if x / 2 % 2 = 1 ∨ x / 4 = 0 then .line else .nil) = 0 ∧ aS v (if x / 2 % 2 = 1 ∨ x / 4 = 0 then .line else .nil) = 0 := by intro v; split <;> exact ⟨rfl, rfl⟩
    have hP0 : ∀ (a' : Nat → Nat → Int32) (V1 : Nat), PrS a' V1 (if x / 2 % 2 = 1 ∨ x / 4 = 0 then .line else .nil) b sc := by intro a' V1; split <;> trivial
    generalize (if x / 2 % 2 = 1 ∨ x / 4 = 0 then Std.Format.line else .nil) = tt at *
    have hCk : Cs a (up2 a c_P_isSkipped s0 z) 0 cx.length V := Cs_p (Cs_refl _ _ _ _) _ (by decide) (Nat.zero_le _)
    refine bz_bq (l := l) (w := w) (x_expect (tx := tx) (n := n) (m0 := m) (a0 := a) (cx := cx) (b := b) (p := p) (V := V) (sc := sc0) (f := fun q => .inr (q, V, sc, tt)) (Q := iQ l w tx n P m a cx b V s0 sc sc0) (by omega) ?_ (by omega) (by decide) (Cms_up hMu _ (by decide)) (Cs_le hCk (Nat.zero_le _) (Nat.zero_le _) (Nat.zero_le _)) ?_ (fun m' h1 h2 h3 h4 => ?_))
    · refine cSt_C (a := a) ⟨⟨hS.1.1, hS.1.2.1, rfl, hS.1.2.2.2⟩, ⟨⟨p, rfl, hp.1, hp.2⟩, hS.2.1.2⟩, htx, hS.2.2.2.1, hsc⟩ hCk (Nat.le_refl _) (Nat.le_refl _)
    · unfold st_x
      rw [if_pos q]
      exact h
    · refine h m' _ z (Cms_trans (Cms_up hMu _ (by decide)) h1) (by rw [hz0]; exact h2) hsk (Cs_refl _ _ _ _) (hP0 _ _) (cnR_a (a := a) (up2_row (by decide)) (up2_row (by decide)) (cnR_0 hu0))
  · rw [htx, e3] at q ⊢
    rw [if_neg q] at h
    refine it_49 (d + 2) (upd m c_R_at (nI p)) a (q := p) (B := b) rfl s0 cx.length _ _ _ _ _ (bit01 (by omega)) (bit01 (by omega)) P (fun c => ?_) (fun c cf => ?_) (fun c cf => ?_)
    · rw [nI_z2 (show x / 4 < 2 by omega)] at c
      rw [if_pos c] at h
      have hcp : p < n := by rcases c with c | c; exact sp_c_lt c (by decide); exact sp_c_lt c.1 (by decide)
      rw [show upd (upd m c_R_at (nI p)) c_R_at (nI (p + 1)) = upd m c_R_at (nI (p + 1)) from upd_upd _ _ _ _]
      have hx1 := sp_x_le (tx := tx) (n := n) (p := p + 1) (by omega)
      refine x_expect (tx := tx) (n := n) (by omega) (cSt_at hS (by omega)) (by omega) (by decide) (Cms_up (Cms_refl _) _ (by decide)) (Cs_refl _ _ _ _) h (fun m2 j1 j2 j3 j4 => ?_)
      have hM2 := Cms_trans (Cms_up (Cms_refl m) (k := c_R_at) (nI (p + 1)) (by decide)) j1
      have key : ∀ x', x' < 8 → (nI (x' / 4) = (if sp_c tx n p = 79 then 1 else nI (x / 4)) ∧ x' % 2 = 0 ∧ x' / 2 % 2 = 1) → rP (cFs l w P m a) (iQ l w tx n P m a cx b V s0 sc sc0) (st tx n f 2 cx b (sp_x tx n (sp_x tx n (p + 1) + 1)) V sc x') → pv_go cq_T44 1 (pv_call cq_mt (d + 3)) P (17, iL s0 cx.length (thOf sc0) (if sp_c tx n p = 79 then 1 else nI (x / 4)) 0 1 (i + 1) ++ [(8, .int (sp_c tx n p)), (9, .int (nI b))], [], cs m2 a l w) := by
        intro x' hx' hk hj
        have := i2 (d + 3) cx b (sp_x tx n (sp_x tx n (p + 1) + 1)) V s0 sc sc0 (i + 1) x' [(8, .int (sp_c tx n p)), (9, .int (nI b))] m2 a P j2 hsc (by omega) (by omega) hs0 hx' (Or.inr ⟨_, _, rfl⟩) (by omega) hD (rP_imp (fun q1 _ h => cFs_tr h hM2 (Cs_refl a 0 0 0)) (fun q1 V1 sc1 t _ h => ?_) hj)
        · rw [hk.1, hk.2.1, hk.2.2] at this
          exact this
        · intro m' a' z g1 g2 g3 g4 g5 g6
          exact h m' a' z (Cms_trans hM2 g1) g2 g3 g4 g5 g6
      by_cases c2 : sp_c tx n p = 79 ∨ ¬ x / 4 = 0
      · rw [if_pos c2] at j4
        refine key 6 (by omega) ⟨?_, rfl, rfl⟩ j4
        by_cases c3 : sp_c tx n p = 79
        · rw [if_pos c3]; rfl
        · rw [if_neg c3]
          have c4 := c2.resolve_left c3
          have : x / 4 = 1 := by omega
          rw [this]
      · rw [if_neg c2] at j4
        refine key 2 (by omega) ⟨?_, rfl, rfl⟩ j4
        have c3 : ¬ sp_c tx n p = 79 := fun e => c2 (Or.inl e)
        have c4 : x / 4 = 0 := Decidable.byContradiction fun e => c2 (Or.inr e)
        rw [if_neg c3, c4]
    · rw [nI_z2 (show x / 4 < 2 by omega)] at c
      rw [nI_one (show x % 2 < 2 by omega)] at cf
      rw [if_neg c, if_pos cf] at h
      exact h _ _ b (Cms_up hMu _ (by decide)) rfl ⟨hS.2.1.2, by omega⟩ (Cs_refl _ _ _ _)
    · rw [nI_z2 (show x / 4 < 2 by omega)] at c
      rw [nI_z2 (show x % 2 < 2 by omega)] at cf
      rw [if_neg c, if_neg (by omega), rP_b] at h
      refine i0 (d + 3) cx b p V sc (1 + 2 * (x / 2 % 2)) _ a _ hSu hb ⟨by omega, by omega⟩ (by omega) hD ?_
      refine rP_imp (fun q1 _ h => cFs_bq (cFs_tr h hMu (Cs_refl a 0 0 0))) (fun q1 V1 sc1 t ht h => ?_) h
      have hV := st_V hS (by omega) ht
      have hA := (st_scA hn (by omega) hS.1.1.2 ht).1
      intro m' a' g1 g2 g3 g4 g5
      refine Or.inr ⟨rfl, m', a', rfl, ?_⟩
      have hd2 : (1 + 2 * (x / 2 % 2)) / 2 = x / 2 % 2 := by omega
      rw [hd2] at g4
      have hz1 := hV.2.1 rfl
      refine cc_enter (d + 1) m' a' (p := b) (b := b + sp_z t) (by omega) (by omega) g2.2.1.2 (nI (x / 2 % 2)) (bit01 (by omega)) _ ⟨rfl, _, _, rfl, ?_⟩
      have hCe : Cs a' (up2 a' c_P_isEntered b (nI (x / 2 % 2))) b cx.length V1 := Cs_p (Cs_refl _ _ _ _) _ (by decide) (Nat.le_refl _)
      have g3' : Cs a (up2 a' c_P_isEntered b (nI (x / 2 % 2))) b cx.length V := Cs_trans g3 hCe (Nat.le_refl _) (Nat.le_refl _) hV.2.2.1
      have g2' := cSt_C g2 hCe (Nat.le_refl _) (Nat.le_refl _)
      have g5' : cnR (a c_V_uses) (a c_V_assigns) V (up2 a' c_P_isEntered b (nI (x / 2 % 2))) V1 t := cnR_a (up2_row (by decide)) (up2_row (by decide)) g5
      have g4' := g4.1
      generalize up2 a' c_P_isEntered b (nI (x / 2 % 2)) = a2 at *
      have hsc' : scC a2 V1 sc0 ∧ scOK sc0 := ⟨scC_mono hV.2.2.1 (fun v hv => Cs_vr g3' (by decide) hv) sc0 hsc.1, hsc.2⟩
      have hx4 : 4 * (x / 4) / 4 = x / 4 ∧ 4 * (x / 4) % 2 = 0 ∧ 4 * (x / 4) / 2 % 2 = 0 := by omega
      have := i2 (d + 3) cx (b + sp_z t) q1 V1 s0 sc1 sc0 (i + 1) (4 * (x / 4)) [(8, .int (sp_c tx n p)), (9, .int (nI b))] m' a2 P g2' hsc' (by omega) (by omega) (by omega) (by omega) (Or.inr ⟨_, _, rfl⟩) (by omega) hD ?_
      · rw [hx4.1, hx4.2.1, hx4.2.2] at this
        exact this
      · rw [rP_b] at h
        refine rP_imp (fun q2 _ h => cFs_tr h (Cms_trans hMu g1) g3') (fun q2 V2 sc2 t2 ht2 h => ?_) h
        have hV2 := st_V g2' (by omega) ht2
        intro m3 a3 z k1 k2 k3 k4 k5 k6
        have hF : PrF a2 (up2 a2 c_P_isSkipped s0 z) b 300 V1 := ⟨fun j i hj h1 h2 => up2_no (by omega), fun j i hj h1 => up2_no (by rintro ⟨e, -⟩; rw [e] at hj; exact absurd hj (by decide))⟩
        refine h m3 a3 z (Cms_trans hMu (Cms_trans g1 k1)) (by simp only [sp_z]; rw [← Nat.add_assoc]; exact k2) k3 (Cs_trans (Cs_u2 g3') k4 (by omega) (Nat.le_refl _) hV.2.2.1) ⟨PrS_Cs k4 (Nat.le_refl _) hV2.2.2.1 (Nat.le_refl _) (PrS_F hF (Nat.le_refl _) _ t (Nat.lt_succ_self _) b sc (Nat.le_refl _) (by omega) g4'), ?_⟩ (cnR_2 hV.2.2.1 hV2.2.2.1 g5' k6)
        rw [← hA]; exact k5
end CI3
