section KO
variable {l : Nat → Nat → Int64} {w : Int64} {tx : Nat → Int32} {n : Nat} {D : Nat} {P : pv_R} {m m1 : Nat → Int32} {a a1 : Nat → Nat → Int32} {cx : cx_T} {b p p1 V x f : Nat} {sc : sc_T}
theorem kc_given {s : Nat} (hs : s = 36 ∨ s = 37) (kp : kPre tx n m m1 a a1 cx b p p1 V sc s 0) (hpp : p + 1 ≤ p1) (hV : V < 12) (hx : x < 4) (hD : 4 * (20 - cx.length) + 168 ≤ D)
    (h : rP (cFs l w (kR l w (D + 1) b P) m a) (sQ l w tx n P m a cx b V sc x) (if sp_nm (sp_c tx n p1) ∧ nmOf sc (sp_c tx n p1 - 97).toNatClampNeg = -1 then
          st_x tx n 59 (sp_x tx n (p1 + 1)) fun q => .inr (q, V + 1, ((sp_c tx n p1 - 97).toNatClampNeg, V) :: sc, .tag (sp_n s p (2 * (V + 1 + 16 * (sp_c tx n p1 - 97).toNatClampNeg) + x / 2)) .nil)
        else .inl p1)) :
    pv_go cq_T39 1 (pv_call cq_mt D) (kR l w (D + 1) b P) (128, rL b (nI s) cx.length, [], cs m1 a1 l w) := by
  obtain ⟨d, rfl⟩ := Nat.exists_eq_add_of_le' (show 3 ≤ D by omega)
  have hk := kp.2.2
  have hS := kp.1.1
  have hn := hS.1.1.1
  have hp := cSt_p hS
  obtain ⟨p0, e1, e2, e3⟩ := hS.2.1.1
  have htx := hS.2.2.1
  have hfe : ∀ c, sp_nm c → fnd a1 c (m1 c_R_there) V 0 = nmOf sc (c - 97).toNatClampNeg := by
    intro c hc
    obtain ⟨u1, -, u3⟩ := nm_27 hc
    rw [hS.1.2.2.1, ← fnd_sc hS.1.1.2 hS.2.2.2.2.2 hS.2.2.2.2.1 u1, ← u3]
  refine r128 (d + 3) m1 a1 b _ cx.length _ ?_
  refine cc_given d m1 a1 (V := V) hn e2 e1 hS.1.2.1 hV hS.1.2.2.2 (b := b) (B := b + 1) (Nat.lt_succ_self _) (by omega) hS.2.1.2 (nI s) _ (fun q => ?_) (fun q q2 => ?_)
  · rw [htx, e3] at q ⊢
    refine Or.inl ⟨rfl, ?_⟩
    rw [if_neg (fun e => q ⟨e.1, (hfe _ e.1).trans e.2⟩)] at h
    exact h _ _ (b + 1) (Cms_trans kp.1.2.1 (Cms_up (Cms_up (Cms_refl _) _ (by decide)) _ (by decide))) rfl ⟨hS.2.1.2, by omega⟩ (kp_g kp)
  · rw [htx, e3] at q q2 ⊢
    have q : sp_nm (sp_c tx n p1) := q
    have hu := hfe _ q
    rw [q2] at hu
    obtain ⟨u1, -, u3⟩ := nm_27 q
    rw [if_pos ⟨q, hu.symm⟩] at h
    have hp1 := sp_nm_lt q
    generalize hc : sp_c tx n p1 = c at *
    generalize hue : (c - 97).toNatClampNeg = u at *
    obtain ⟨⟨k1, k2, k3⟩, ⟨k4, k5, k6⟩, k7, k8, k9⟩ := kp
    obtain ⟨⟨⟨h1, h2⟩, h3, h4⟩, ⟨h5, h6, h7⟩, h8, h9⟩ := k4
    generalize ha2 : up2 (gvC a1 V c (if nI s = 37 then 1 else 0) (nI b)) c_P_named b (nI V) = a2
    generalize hm2 : upd (upd (upd m1 c_R_at (nI p1)) c_V_size (nI (V + 1))) c_R_at (nI (p1 + 1)) = m2
    have hM2 : Cms m1 m2 := by
      rw [← hm2]
      exact Cms_up (Cms_up (Cms_up (Cms_refl _) _ (by decide)) _ (by decide)) _ (by decide)
    have hC : Cs a1 a2 b (cx.length + 1) V := by
      rw [← ha2]
      unfold gvC
      exact Cs_p (Cs_u (Cs_u (Cs_v (Cs_v (Cs_v (Cs_v (Cs_refl _ _ _ _) _ (by decide) (Nat.le_refl _)) _ (by decide) (Nat.le_refl _)) _ (by decide) (Nat.le_refl _)) _ (by decide) (Nat.le_refl _)) _ (by decide)) _ (by decide)) _ (by decide) (Nat.le_refl _)
    have hC0 : Cs a a2 b cx.length V := Cs_trans k3 hC (Nat.le_refl _) (Nat.le_succ _) (Nat.le_refl _)
    have hsc2 : scC a2 (V + 1) sc := scC_mono (Nat.le_succ _) (fun v hv => Cs_vr hC (by decide) hv) sc hS.2.2.2.2.1
    have hS2 : cSt tx n m2 a2 ((b, s, 0) :: cx) (b + 1) (sp_x tx n (p1 + 1)) (V + 1) sc := by
      refine cSt_fr hS ?_ ?_ ?_ ⟨Nat.le_succ _, by omega⟩ hC (by simp only [List.length_cons]; omega) ⟨p1 + 1, ?_, by omega, rfl⟩ ?_ (Nat.le_refl _) ⟨hsc2, hS.2.2.2.2.2⟩
      · rw [← hm2]; rfl
      · rw [← hm2]; exact hS.1.2.2.1
      · rw [← hm2]; rfl
      · rw [← hm2]; rfl
      · rw [← hm2]; exact hS.2.1.2
    have g1 : a2 c_V_name V = c ∧ a2 c_V_isFinal V = (if nI s = 37 then 1 else 0) ∧ a2 c_V_giver V = nI b ∧ a2 c_V_couldBeFinal V = 1 ∧ a2 c_V_uses V = 0 ∧ a2 c_V_assigns V = 0 := by
      rw [← ha2]
      unfold gvC
      refine ⟨?_, ?_, ?_, ?_, ?_, ?_⟩
      · rw [up2_row (by decide), up2_row (by decide), up2_row (by decide), up2_row (by decide), up2_row (by decide), up2_row (by decide), up2_at]
      · rw [up2_row (by decide), up2_row (by decide), up2_row (by decide), up2_row (by decide), up2_row (by decide), up2_at]
      · rw [up2_row (by decide), up2_row (by decide), up2_row (by decide), up2_row (by decide), up2_at]
      · rw [up2_row (by decide), up2_row (by decide), up2_row (by decide), up2_at]
      · rw [up2_row (by decide), up2_row (by decide), up2_at]
      · rw [up2_row (by decide), up2_at]
    have g2 : a2 c_P_named b = nI V := by rw [← ha2]; exact up2_at _ _ _ _
    have g3 : ∀ j, ((2 ≤ j ∧ j ≤ 6) ∨ (11 ≤ j ∧ j ≤ 15)) → ¬ j = 4 → a2 j b = a1 j b := by
      intro j hj hj4
      rw [← ha2]
      unfold gvC
      rw [up2_row hj4, up2_row (show ¬ j = 24 by omega), up2_row (show ¬ j = 23 by omega), up2_row (show ¬ j = 22 by omega), up2_row (show ¬ j = 21 by omega), up2_row (show ¬ j = 20 by omega), up2_row (show ¬ j = 19 by omega)]
    have g4 : ∀ v, ¬ v = V → a2 c_V_uses v = a1 c_V_uses v ∧ a2 c_V_assigns v = a1 c_V_assigns v := by
      intro v hv
      rw [← ha2]
      unfold gvC
      refine ⟨?_, ?_⟩
      · rw [up2_row (by decide), up2_row (by decide), up2_no (fun q => hv q.2), up2_row (by decide), up2_row (by decide), up2_row (by decide), up2_row (by decide)]
      · rw [up2_row (by decide), up2_no (fun q => hv q.2), up2_row (by decide), up2_row (by decide), up2_row (by decide), up2_row (by decide), up2_row (by decide)]
    refine pv_call_cm _ _ _ _ _ _ _ (fun o S h => h) (x_expect (tx := tx) (n := n) (P := bz (kR l w (d + 3 + 1) b P)) (m0 := m) (a0 := a) (Q := sQ l w tx n P m a cx b V sc x) (by omega) hS2 (by omega) (by decide) (Cms_trans k2 hM2) (Cs_le hC0 (Nat.zero_le _) (Nat.zero_le _) (Nat.zero_le _)) (rP_imp (fun q1 _ h => ?_) (fun _ _ _ _ _ h => h) h) (fun m3 j1 j2 j3 j4 => ?_))
    · exact fun m2 a2 B u1 u2 u3 u4 => Or.inl ⟨rfl, h m2 a2 B u1 u2 u3 u4⟩
    · refine Or.inr ⟨rfl, ?_⟩
      have pm : (V + 1 + 16 * u) % 16 = V + 1 ∧ (V + 1 + 16 * u) / 16 = u := by omega
      have n0 := pl_n (s := s) (p := p) (pl := V + 1 + 16 * u) (z := x / 2) (by omega) (by omega) (by omega)
      have hF : (nI s = 37) = (s = 37) := by rw [show (37 : Int32) = nI 37 from rfl, nI_eq (by omega) (by omega)]
      refine k_fin (cx' := (b, s, 0) :: cx) (by omega) ⟨_, rfl⟩ (by simp only [sp_z]; omega) j4 (Cms_trans k2 (Cms_trans hM2 (Cms_up j1 _ (by decide)))) ?_ hC0 ?_ ((g3 14 (by omega) (by omega)).trans h8) (cnR_t (by rw [n0.1]; unfold stS; omega) ?_)
      · refine cSt_fr j2 rfl ?_ j2.1.2.2.2 ⟨Nat.le_refl _, by omega⟩ (Cs_refl _ 0 20 0) j2.2.2.2.1.2 j2.2.1.1 j2.2.1.2 (Nat.le_refl _) ⟨⟨⟨g1.1.trans u3, Nat.lt_succ_self _⟩, hsc2⟩, ⟨hu.symm, u1, hV⟩, hS.2.2.2.2.2⟩
        show m3 c_R_there ||| (1 <<< (nI V &&& 31)) = thOf sc ||| (1 <<< (nI V &&& 31))
        rw [j2.1.2.2.1]
      · have nd := ndT_mk (a := a2) (W := V + 1) (b := b) (s := s) (p := p) (pl := V + 1 + 16 * u) (z := x / 2) (e := b + 1 + sp_z .nil) (sc := sc) (by omega) (by omega) (by omega) ⟨(g3 2 (by omega) (by omega)).trans h1, (g3 3 (by omega) (by omega)).trans h2⟩ ((g3 5 (by omega) (by omega)).trans h4) (fun _ => ?_) (fun q => absurd hs q) (fun q => by omega) (fun _ => (g3 11 (by omega) (by omega)).trans h5)
        · have r := fun j (hj : ¬ (j = 6 ∨ j = 14)) => clE_o (a := a2) (b := b) (e := nI (b + 1 + sp_z .nil)) (z := nI (x / 2)) (j := j) (i := b) (fun q => hj q.2)
          unfold PrS
          rw [if_pos (by rw [n0.1]; unfold stS; omega)]
          refine ⟨⟨nd, ?_⟩, ?_⟩
          · unfold skT
            rw [if_neg (by rw [n0.1]; omega), r c_P_isSkipped (by decide)]
            exact (g3 15 (by omega) (by omega)).trans h9
          · rw [if_neg (by rw [n0.1]; omega), r c_P_catchFrom (by decide), r c_P_finallyFrom (by decide)]
            exact ⟨⟨(g3 12 (by omega) (by omega)).trans h6, (g3 13 (by omega) (by omega)).trans h7⟩, trivial⟩
        · rw [pm.1, pm.2, Nat.add_sub_cancel]
          exact ⟨by omega, g2, ⟨g1.1.trans u3, by rw [g1.2.1]; simp only [hF]⟩, g1.2.2.1, g1.2.2.2.1⟩
      · intro v hv
        refine ⟨fun q => ?_, fun q q2 => ?_, fun _ => ⟨rfl, rfl⟩⟩
        · have := g4 v (by omega)
          rw [this.1, this.2, k5, k6]
          exact ⟨(i_add0 _).symm, (i_add0 _).symm⟩
        · have : v = V := by omega
          rw [this]
          exact ⟨g1.2.2.2.2.1, g1.2.2.2.2.2⟩
end KO
