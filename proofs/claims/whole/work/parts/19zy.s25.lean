section TL
variable {d n : Nat} {P : pv_R} {m0 : Nat → Int32} {a0 : Nat → Nat → Int32} {tx : Nat → Int32}
theorem rsA_label (a : Nat → Nat → Int32) (b : Nat) (s f th o pt e : Int32) : rsA a b s f th o pt e r_label b = -1 := (up2_ne _ _ (fun q => absurd q.1 (by decide))).trans ((up2_ne _ _ (fun q => absurd q.1 (by decide))).trans ((up2_ne _ _ (fun q => absurd q.1 (by decide))).trans (nodeA_label _ _ _ _ _ _)))
theorem kSt_of {m : Nat → Int32} {a : Nat → Nat → Int32} {cx : cx_T} {b p V : Nat} {sc : sc_T} {x pt : Nat} {S o : Int32} (hM : Ms m0 m) (hG : Fg a0 a) (hR : sRI tx n m a cx b p V sc (nI (x / 2))) (hb : b + (n - p) ≤ 240) (ho : o = oOf cx) (s : Nat) (hs : S = nI s) : kSt n m0 a0 tx a (upd (upd (upd m r_at (nI p)) r_nodes (nI (b + 1))) r_isCase 0) (rsA a b S (nI p) (thr (a r_scope) sc.length) o (nI pt) (nI (x / 2))) cx b p V sc s x pt := by
  have hF := rsA_Fr a b S (nI p) (thr (a r_scope) sc.length) o (nI pt) (nI (x / 2))
  have hN := rsA_nd1 a b S (nI p) (thr (a r_scope) sc.length) o (nI pt) (nI (x / 2))
  have hL := rsA_label a b S (nI p) (thr (a r_scope) sc.length) o (nI pt) (nI (x / 2))
  have hth := thr_sc sc hR.2.2.1.2.1.1
  refine ⟨⟨Ms_upd (Ms_upd (Ms_upd hM _ (by decide)) _ (by decide)) _ (by decide), Fg_Fr hG hF⟩, ⟨sRI_nd hR hF, rfl⟩, ⟨?_, hL⟩, Fs_Fr hF, hb, cxR_Fr hF (Nat.le_refl _) (Nat.le_refl _) cx hR.2.2.1.1.1⟩
  rw [hth, hs, ho] at hN ⊢
  exact hN
theorem sp_c_n {p : Nat} {c : Int32} (h : sp_c tx n p = c) {s : Nat} (hs : c = nI s) (hs2 : s < 256) : sp_c tx n p = nI s ∧ (sp_c tx n p).toNatClampNeg = s := by
  rw [h, hs]
  exact ⟨rfl, nI_clamp (by omega)⟩
theorem st_bad {f : Nat} {cx : cx_T} {b p V : Nat} {sc : sc_T} {x : Nat} (h : ¬ (kn (nI (x % 2)) (sp_c tx n p) ∧ cx.length < 20)) : st tx n (f + 1) 0 cx b p V sc x = .inl p := by
  rw [st0]
  by_cases h20 : 20 ≤ cx.length
  · rw [if_pos h20]
  rw [if_neg h20]
  have hk : ¬ kn (nI (x % 2)) (sp_c tx n p) := fun q => h ⟨q, by omega⟩
  by_cases h36 : sp_c tx n p = 36 ∨ sp_c tx n p = 37
  · rw [if_pos h36]
    have hx : x % 2 = 0 := by
      refine Decidable.byContradiction fun hq => hk ?_
      have e : x % 2 = 1 := by omega
      rw [e]
      exact Or.inr (Or.inr (Or.inr (Or.inr (Or.inr (Or.inr (Or.inr (Or.inr (Or.inr (Or.inr (Or.inr (Or.inr (Or.inr (Or.inr (Or.inr (Or.inr (Or.inr (Or.inr ⟨by decide, h36⟩)))))))))))))))))
    rw [if_pos (Or.inl hx)]
  rw [if_neg h36]
  have c1 : ¬ sp_c tx n p = 123 := fun q => hk (Or.inl q)
  have c2 : ¬ sp_lb (sp_c tx n p) := fun q => hk (Or.inr (Or.inl q))
  have c3 : ¬ sp_c tx n p = 73 := fun q => hk (Or.inr (Or.inr (Or.inl q)))
  have c4 : ¬ sp_c tx n p = 87 := fun q => hk (Or.inr (Or.inr (Or.inr (Or.inl q))))
  have c5 : ¬ sp_c tx n p = 68 := fun q => hk (Or.inr (Or.inr (Or.inr (Or.inr (Or.inl q)))))
  have c6 : ¬ sp_c tx n p = 70 := fun q => hk (Or.inr (Or.inr (Or.inr (Or.inr (Or.inr (Or.inl q))))))
  have c7 : ¬ sp_c tx n p = 83 := fun q => hk (Or.inr (Or.inr (Or.inr (Or.inr (Or.inr (Or.inr (Or.inl q)))))))
  have c8 : ¬ sp_c tx n p = 84 := fun q => hk (Or.inr (Or.inr (Or.inr (Or.inr (Or.inr (Or.inr (Or.inr (Or.inl q))))))))
  have c9 : ¬ (sp_c tx n p = 66 ∨ sp_c tx n p = 67) := fun q => hk (Or.inr (Or.inr (Or.inr (Or.inr (Or.inr (Or.inr (Or.inr (Or.inr (q.elim Or.inl (fun q => Or.inr (Or.inl q)))))))))))
  have c10 : ¬ (sp_c tx n p = 82 ∨ sp_c tx n p = 88) := fun q => hk (Or.inr (Or.inr (Or.inr (Or.inr (Or.inr (Or.inr (Or.inr (Or.inr (Or.inr (Or.inr (q.elim Or.inl (fun q => Or.inr (Or.inl q)))))))))))))
  have c11 : ¬ isEc (sp_c tx n p) := fun q => hk (Or.inr (Or.inr (Or.inr (Or.inr (Or.inr (Or.inr (Or.inr (Or.inr (Or.inr (Or.inr (Or.inr (Or.inr (q.elim Or.inl (fun q => Or.inr (q.elim Or.inl (fun q => Or.inr (q.elim Or.inl (fun q => Or.inr (q.elim Or.inl (fun q => Or.inr (q.elim Or.inl (fun q => Or.inr (Or.inl q)))))))))))))))))))))))
  rw [if_neg c1, if_neg c2, if_neg c3, if_neg c4, if_neg c5, if_neg c6, if_neg c7, if_neg c8, if_neg c9, if_neg c10, st_e_bad c11]
  rfl
theorem sT0_step {f : Nat} (i0 : sT0 (d + 10) n P m0 a0 tx f) (i1 : sT1 (d + 10) n P m0 a0 tx f) (i2 : sT2 d n P m0 a0 tx f) : sT0 (d + 10) n P m0 a0 tx (f + 1) := by
  intro e m a cx b p V sc x pt hpre hx hf hpost
  obtain ⟨⟨hM, hG⟩, hR, hb, hU⟩ := hpre
  have hp := sRI_p hR
  have hn : n ≤ 240 := hR.2.2.2.1.1
  have hcl : cx.length ≤ 20 := hR.2.2.1.1.2
  obtain ⟨p0, y1, y2, y3⟩ := hR.2.1
  obtain ⟨xo, ho1, ho2⟩ : ∃ xo : Nat, (0 < cx.length → a r_open (cx.length - 1) = nI xo) ∧ (if cx.length = 0 then -1 else nI xo) = oOf cx := by
    have hcx := hR.2.2.1.1.1
    cases cx with
    | nil => exact ⟨0, fun q => absurd q (by decide), rfl⟩
    | cons q r =>
      obtain ⟨i, s, l⟩ := q
      exact ⟨i, fun _ => hcx.1.1.1, rfl⟩
  have hE : nI (x / 2) = 0 ∨ nI (x / 2) = 1 := by
    by_cases q : x / 2 = 0
    · rw [q]; exact Or.inl rfl
    · rw [show x / 2 = 1 by omega]; exact Or.inr rfl
  refine rc_rs (e + 3) m a hn y2 y1 hR.1.1.1 hR.1.1.2 (sRI_len hR) hR.1.2.2.2.1 (by omega) hR.1.2.1.2 hcl hR.1.2.1.1 ho1 (nI (x / 2)) hR.1.2.2.2.2 hE (nI (x % 2)) (nI pt) _ (fun h0 => ?_) (fun hkn hk20 => ?_)
  · rw [sRI_nx hR, y3, sRI_ch hR] at h0
    rw [sRI_nx hR, y3]
    rw [st_bad h0] at hpost
    exact fSt_P ⟨⟨Ms_upd (Ms_upd hM _ (by decide)) _ (by decide), hG, hR.2.2.2.2.1⟩, ⟨rfl, by omega⟩, sc.length, sRI_len hR, hR.1.2.2.2.1⟩ hpost
  rw [sRI_nx hR, y3, sRI_ch hR] at hkn
  rw [sRI_nx hR, y3, sRI_ch hR]
  rw [st0, if_neg (by omega)] at hpost
  have ne : ∀ (s : Nat), s < 256 → ¬ (50 ≤ s ∧ s ≤ 57) → ¬ (97 ≤ s ∧ s ≤ 122) → ¬ (s = 48 ∨ s = 49 ∨ s = 35 ∨ s = 33 ∨ s = 40) → sp_c tx n p = nI s → (¬ isEc (sp_c tx n p) ∧ ¬ (50 ≤ sp_c tx n p ∧ sp_c tx n p ≤ 57)) := by
    intro s h1 h2 h3 h4 h5
    rw [h5]
    have nn : ∀ y : Nat, y < 256 → ¬ s = y → ¬ nI s = nI y := fun y hy hne q => hne ((nI_eq (by omega) (by omega)).mp q)
    refine ⟨fun q => ?_, fun q => h2 ⟨(nI_leI (a := 50) (by omega) (by omega)).mp q.1, (nI_leI (b := 57) (by omega) (by omega)).mp q.2⟩⟩
    rcases q with q | q | q | q | q | q
    · exact h3 ⟨(nI_leI (a := 97) (by omega) (by omega)).mp q.1, (nI_leI (b := 122) (by omega) (by omega)).mp q.2⟩
    · exact nn 48 (by decide) (by omega) q
    · exact nn 49 (by decide) (by omega) q
    · exact nn 35 (by decide) (by omega) q
    · exact nn 33 (by decide) (by omega) q
    · exact nn 40 (by decide) (by omega) q
  by_cases hc : sp_c tx n p = 36 ∨ sp_c tx n p = 37
  · rw [if_pos hc] at hpost
    obtain ⟨s, hs, hcs⟩ : ∃ s : Nat, (s = 36 ∨ s = 37) ∧ sp_c tx n p = nI s := by
      rcases hc with q | q
      · exact ⟨36, Or.inl rfl, q⟩
      · exact ⟨37, Or.inr rfl, q⟩
    obtain ⟨n1, n2⟩ := ne s (by omega) (by omega) (by omega) (by omega) hcs
    have hx1 : ¬ x % 2 = 0 := by
      intro q
      rw [q] at hkn
      rcases hkn with q | q | q | q | q | q | q | q | q | q | q | q | q | q | q | q | q | q | q
      · rw [q] at hc; exact absurd hc (by decide)
      · exact n2 q
      · rw [q] at hc; exact absurd hc (by decide)
      · rw [q] at hc; exact absurd hc (by decide)
      · rw [q] at hc; exact absurd hc (by decide)
      · rw [q] at hc; exact absurd hc (by decide)
      · rw [q] at hc; exact absurd hc (by decide)
      · rw [q] at hc; exact absurd hc (by decide)
      · rw [q] at hc; exact absurd hc (by decide)
      · rw [q] at hc; exact absurd hc (by decide)
      · rw [q] at hc; exact absurd hc (by decide)
      · rw [q] at hc; exact absurd hc (by decide)
      · exact n1 (Or.inl q)
      · rw [q] at hc; exact absurd hc (by decide)
      · rw [q] at hc; exact absurd hc (by decide)
      · rw [q] at hc; exact absurd hc (by decide)
      · rw [q] at hc; exact absurd hc (by decide)
      · rw [q] at hc; exact absurd hc (by decide)
      · exact q.1 rfl
    rw [if_neg n1, if_neg n1, if_neg n2]
    have hks := kSt_of (pt := pt) hM hG hR hb ho2 s hcs
    generalize rsA a b (sp_c tx n p) (nI p) (thr (a r_scope) sc.length) (if cx.length = 0 then -1 else nI xo) (nI pt) (nI (x / 2)) = a1 at *
    rw [hcs, nI_clamp (by omega)] at hpost
    rw [hcs]
    refine k_given e hx hs _ _ hcs hks ?_
    by_cases hV : V = 12
    · rw [if_pos hV]
      rw [if_pos (Or.inr hV)] at hpost
      exact hpost
    · rw [if_neg hV]
      rw [if_neg (fun q => q.elim hx1 hV)] at hpost
      exact hpost
  rw [if_neg hc] at hpost
  by_cases hc : sp_c tx n p = 123
  · rw [if_pos hc] at hpost
    obtain ⟨n1, n2⟩ := ne 123 (by omega) (by omega) (by omega) (by omega) hc
    rw [if_neg n1, if_neg n1, if_neg n2]
    have hks := kSt_of (pt := pt) hM hG hR hb ho2 123 hc
    generalize rsA a b (sp_c tx n p) (nI p) (thr (a r_scope) sc.length) (if cx.length = 0 then -1 else nI xo) (nI pt) (nI (x / 2)) = a1 at *
    rw [hc]
    exact k_block i1 e hx hk20 hU (by omega) _ _ hc hks hpost
  rw [if_neg hc] at hpost
  by_cases hc : sp_lb (sp_c tx n p)
  · rw [if_pos hc] at hpost
    obtain ⟨l, hl1, hl2, hl3⟩ := lb_u hc
    have n1 : ¬ isEc (sp_c tx n p) := by
      rw [hl3]
      have nn : ∀ y : Nat, y < 256 → ¬ l = y → ¬ nI l = nI y := fun y hy hne q => hne ((nI_eq (by omega) (by omega)).mp q)
      intro q
      rcases q with q | q | q | q | q | q
      · have := (nI_leI (a := 97) (by omega) (by omega)).mp q.1; omega
      · exact nn 48 (by decide) (by omega) q
      · exact nn 49 (by decide) (by omega) q
      · exact nn 35 (by decide) (by omega) q
      · exact nn 33 (by decide) (by omega) q
      · exact nn 40 (by decide) (by omega) q
    rw [if_neg n1, if_neg n1, if_pos hc]
    have hks := kSt_of (pt := pt) hM hG hR hb ho2 58 (S := 58) rfl
    generalize rsA a b 58 (nI p) (thr (a r_scope) sc.length) (if cx.length = 0 then -1 else nI xo) (nI pt) (nI (x / 2)) = a1 at *
    rw [hl3, nI_clamp (by omega)] at hpost
    rw [hl3]
    exact k_label i0 e hx hk20 hU (by omega) _ _ ⟨hl1, hl2⟩ hl3 hks hpost
  rw [if_neg hc] at hpost
  have hnlb := hc
  by_cases hc : sp_c tx n p = 73
  · rw [if_pos hc] at hpost
    obtain ⟨n1, n2⟩ := ne 73 (by omega) (by omega) (by omega) (by omega) hc
    rw [if_neg n1, if_neg n1, if_neg n2]
    have hks := kSt_of (pt := pt) hM hG hR hb ho2 73 hc
    generalize rsA a b (sp_c tx n p) (nI p) (thr (a r_scope) sc.length) (if cx.length = 0 then -1 else nI xo) (nI pt) (nI (x / 2)) = a1 at *
    rw [hc]
    exact k_I i0 e hx hk20 hU (by omega) _ _ hc hks hpost
  rw [if_neg hc] at hpost
  by_cases hc : sp_c tx n p = 87
  · rw [if_pos hc] at hpost
    obtain ⟨n1, n2⟩ := ne 87 (by omega) (by omega) (by omega) (by omega) hc
    rw [if_neg n1, if_neg n1, if_neg n2]
    have hks := kSt_of (pt := pt) hM hG hR hb ho2 87 hc
    generalize rsA a b (sp_c tx n p) (nI p) (thr (a r_scope) sc.length) (if cx.length = 0 then -1 else nI xo) (nI pt) (nI (x / 2)) = a1 at *
    rw [hc]
    exact k_W i0 e hx hk20 hU (by omega) _ _ hc hks hpost
  rw [if_neg hc] at hpost
  by_cases hc : sp_c tx n p = 68
  · rw [if_pos hc] at hpost
    obtain ⟨n1, n2⟩ := ne 68 (by omega) (by omega) (by omega) (by omega) hc
    rw [if_neg n1, if_neg n1, if_neg n2]
    have hks := kSt_of (pt := pt) hM hG hR hb ho2 68 hc
    generalize rsA a b (sp_c tx n p) (nI p) (thr (a r_scope) sc.length) (if cx.length = 0 then -1 else nI xo) (nI pt) (nI (x / 2)) = a1 at *
    rw [hc]
    exact k_D i0 e hx hk20 hU (by omega) _ _ hc hks hpost
  rw [if_neg hc] at hpost
  by_cases hc : sp_c tx n p = 70
  · rw [if_pos hc] at hpost
    obtain ⟨n1, n2⟩ := ne 70 (by omega) (by omega) (by omega) (by omega) hc
    rw [if_neg n1, if_neg n1, if_neg n2]
    have hks := kSt_of (pt := pt) hM hG hR hb ho2 70 hc
    generalize rsA a b (sp_c tx n p) (nI p) (thr (a r_scope) sc.length) (if cx.length = 0 then -1 else nI xo) (nI pt) (nI (x / 2)) = a1 at *
    rw [hc]
    exact k_F i0 e hx hk20 hU (by omega) _ _ hc hks hpost
  rw [if_neg hc] at hpost
  by_cases hc : sp_c tx n p = 83
  · rw [if_pos hc] at hpost
    obtain ⟨n1, n2⟩ := ne 83 (by omega) (by omega) (by omega) (by omega) hc
    rw [if_neg n1, if_neg n1, if_neg n2]
    have hks := kSt_of (pt := pt) hM hG hR hb ho2 83 hc
    generalize rsA a b (sp_c tx n p) (nI p) (thr (a r_scope) sc.length) (if cx.length = 0 then -1 else nI xo) (nI pt) (nI (x / 2)) = a1 at *
    rw [hc]
    exact k_S i2 e hx hk20 hU (by omega) _ _ hc hks hpost
  rw [if_neg hc] at hpost
  by_cases hc : sp_c tx n p = 84
  · rw [if_pos hc] at hpost
    obtain ⟨n1, n2⟩ := ne 84 (by omega) (by omega) (by omega) (by omega) hc
    rw [if_neg n1, if_neg n1, if_neg n2]
    have hks := kSt_of (pt := pt) hM hG hR hb ho2 84 hc
    generalize rsA a b (sp_c tx n p) (nI p) (thr (a r_scope) sc.length) (if cx.length = 0 then -1 else nI xo) (nI pt) (nI (x / 2)) = a1 at *
    rw [hc]
    exact k_T i1 e hx hk20 hU (by omega) _ _ hc hks hpost
  rw [if_neg hc] at hpost
  by_cases hc : sp_c tx n p = 66 ∨ sp_c tx n p = 67
  · rw [if_pos hc] at hpost
    obtain ⟨s, hs, hcs⟩ : ∃ s : Nat, (s = 66 ∨ s = 67) ∧ sp_c tx n p = nI s := by
      rcases hc with q | q
      · exact ⟨66, Or.inl rfl, q⟩
      · exact ⟨67, Or.inr rfl, q⟩
    obtain ⟨n1, n2⟩ := ne s (by omega) (by omega) (by omega) (by omega) hcs
    rw [if_neg n1, if_neg n1, if_neg n2]
    have hks := kSt_of (pt := pt) hM hG hR hb ho2 s hcs
    generalize rsA a b (sp_c tx n p) (nI p) (thr (a r_scope) sc.length) (if cx.length = 0 then -1 else nI xo) (nI pt) (nI (x / 2)) = a1 at *
    rw [hcs, nI_clamp (by omega)] at hpost
    rw [hcs]
    exact k_jump e hx hs _ _ hU hcs hks hpost
  rw [if_neg hc] at hpost
  by_cases hc : sp_c tx n p = 82 ∨ sp_c tx n p = 88
  · rw [if_pos hc] at hpost
    obtain ⟨s, hs, hcs⟩ : ∃ s : Nat, (s = 82 ∨ s = 88) ∧ sp_c tx n p = nI s := by
      rcases hc with q | q
      · exact ⟨82, Or.inl rfl, q⟩
      · exact ⟨88, Or.inr rfl, q⟩
    obtain ⟨n1, n2⟩ := ne s (by omega) (by omega) (by omega) (by omega) hcs
    rw [if_neg n1, if_neg n1, if_neg n2]
    have hks := kSt_of (pt := pt) hM hG hR hb ho2 s hcs
    generalize rsA a b (sp_c tx n p) (nI p) (thr (a r_scope) sc.length) (if cx.length = 0 then -1 else nI xo) (nI pt) (nI (x / 2)) = a1 at *
    rw [hcs, nI_clamp (by omega)] at hpost
    rw [hcs]
    exact k_ret e hx hs _ _ hcs hks hpost
  rw [if_neg hc] at hpost
  have hEc : isEc (sp_c tx n p) := by
    rename_i c36 c123 _ c73 c87 c68 c70 c83 c84 c66
    rcases hkn with q | q | q | q | q | q | q | q | q | q | q | q | q | q | q | q | q | q | q
    · exact absurd q c123
    · exact absurd q hnlb
    · exact absurd q c73
    · exact absurd q c87
    · exact absurd q c68
    · exact absurd q c70
    · exact absurd q c83
    · exact absurd q c84
    · exact absurd (Or.inl q) c66
    · exact absurd (Or.inr q) c66
    · exact absurd (Or.inl q) hc
    · exact absurd (Or.inr q) hc
    · exact Or.inl q
    · exact Or.inr (Or.inl q)
    · exact Or.inr (Or.inr (Or.inl q))
    · exact Or.inr (Or.inr (Or.inr (Or.inl q)))
    · exact Or.inr (Or.inr (Or.inr (Or.inr (Or.inl q))))
    · exact Or.inr (Or.inr (Or.inr (Or.inr (Or.inr q))))
    · exact absurd q.2 c36
  rw [if_pos hEc, if_pos hEc]
  have hks := kSt_of (pt := pt) hM hG hR hb ho2 59 (S := 59) rfl
  exact k_e e hx _ _ _ hks hpost
end TL
