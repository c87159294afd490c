section KQ
variable {l : Nat → Nat → Int64} {w : Int64} {tx : Nat → Int32} {n : Nat}
/-- a sign's number -/
theorem sg_n {c : Int32} {k : Nat} (h : c = nI k) (hk : k < 2 ^ 31) : c.toNatClampNeg = k := by rw [h, nI_clamp hk]
theorem k_ent {d s lb p2 pc0 : Nat} {lab : Int32} {R : pv_R} {m : Nat → Int32} {a : Nat → Nat → Int32} {cx : cx_T} {b p V : Nat} {sc : sc_T} (hS : cSt tx n m a cx b p V sc) (hb : b ≤ p) (hk : cx.length < 20) (hs : s < 256) (hl : lb < 256) (hlab : lab = if lb = 0 then -1 else nI lb) (hp2 : p2 ≤ n)
    (hpc : (if s = 36 then 128 else if s = 37 then 128 else if s = 58 then 142 else if s = 66 then 366 else if s = 67 then 366 else if s = 68 then 237 else if s = 70 then 268 else if s = 73 then 166 else if s = 82 then 374 else if s = 83 then 326 else if s = 84 then 358 else if s = 87 then 215 else if s = 88 then 374 else if s = 123 then 135 else 406) = pc0)
    (hgo : ∀ m1 a1, kPre tx n m m1 a a1 cx b p (sp_x tx n p2) V sc s lb → a1 c_R_sortAround cx.length = nI s → pv_go cq_T39 1 (pv_call cq_mt (d + 2)) R (pc0, rL b (nI s) cx.length, [], cs m1 a1 l w)) :
    pv_call cq_mt (d + 3) cq_m_Reader_statementRest [.ref 3, .int (nI b), .int (nI s), .int (nI cx.length)] (cs (upd (upd (upd m c_R_at (nI p)) c_P_size (nI (b + 1))) c_R_at (nI p2)) (apA (arA a cx.length (nI b) (nI s) lab) b (nI s) (nI p) (-1) (m c_R_there)) l w) R := by
  have kp := kp_mk (s := s) (lb := lb) (p2 := p2) (lab := lab) hS hb hk hs hl hlab hp2
  refine cc_rest (d + 2) _ b cx.length s hs _ (fun pc h => ?_)
  rw [h, hpc]
  exact hgo _ _ kp.1 kp.2
theorem sC0_step {f : Nat} (i0 : sC0 l w tx n f) (i1 : sC1 l w tx n f) (i2 : sC2 l w tx n f) : sC0 l w tx n (f + 1) := by
  intro D cx b p V sc x m a P hS hb hx hf hD h
  obtain ⟨d, rfl⟩ := Nat.exists_eq_add_of_le' (show 4 ≤ D by omega)
  obtain ⟨p0, e1, e2, e3⟩ := hS.2.1.1
  have hp := cSt_p hS
  have hn := hS.1.1.1
  have hV := hS.1.1.2
  have htx := hS.2.2.1
  have hcx := hS.2.2.2.1
  rw [st0] at h
  refine cc_stmt d m a hn e2 e1 hS.1.2.1 hcx.2 hV hS.1.2.2.2 (by omega) hS.2.1.2 (sp_c tx n p) _ (by rw [htx, e3]) rfl P (fun q => ?_) (fun q => ?_)
  · rw [htx, e3]
    have hF : cFs l w P m a p := by
      by_cases c0 : 20 ≤ cx.length
      · rw [if_pos c0] at h; exact h
      · rw [if_neg c0] at h
        rcases q with q | ⟨q, q2⟩ | ⟨q, q2⟩
        · exact absurd q c0
        · rw [if_pos q, if_pos (Or.inr q2)] at h; exact h
        · obtain ⟨l1, l2, l3⟩ := lb_nI q
          have n1 : ¬ (sp_c tx n p = 36 ∨ sp_c tx n p = 37) := by
            rintro (e | e) <;> · rw [e] at q; exact absurd q (by decide)
          have n2 : ¬ sp_c tx n p = 123 := by
            intro e; rw [e] at q; exact absurd q (by decide)
          have hlab : cx_lab cx (sp_c tx n p).toNatClampNeg := by
            refine Decidable.byContradiction fun hc => q2 ?_
            have := (dlb_cx l1 l2 cx hcx.1 hcx.2).mpr hc
            rw [← l3] at this
            exact this
          rw [if_neg n1, if_neg n2, if_pos q, if_pos hlab] at h
          exact h
    exact hF _ _ b (Cms_up (Cms_up (Cms_refl _) _ (by decide)) _ (by decide)) rfl ⟨hS.2.1.2, by omega⟩ (Cs_refl _ _ _ _)
  · rw [htx, e3]
    have c0 : ¬ 20 ≤ cx.length := fun e => q (Or.inl e)
    rw [if_neg c0] at h
    have hk : cx.length < 20 := by omega
    have hD2 : 4 * (20 - cx.length) + 168 ≤ d + 2 := by omega
    by_cases cg : sp_c tx n p = 36 ∨ sp_c tx n p = 37
    · have hV12 : ¬ V = 12 := fun e => q (Or.inr (Or.inl ⟨cg, e⟩))
      have hx0 : ¬ x % 2 = 0 := fun e => hx.2 e cg
      rw [if_pos cg, if_neg (fun e => e.elim hx0 hV12)] at h
      have hpn := sp_c_x (tx := tx) (n := n) (p := p) rfl (by rcases cg with e | e <;> · rw [e]; decide)
      obtain ⟨s, hs, hsI⟩ : ∃ s : Nat, (s = 36 ∨ s = 37) ∧ sp_c tx n p = nI s := by
        rcases cg with e | e
        · exact ⟨36, Or.inl rfl, e⟩
        · exact ⟨37, Or.inr rfl, e⟩
      rw [hsI, nI_clamp (by omega)] at h
      rw [hsI]
      have hnl : ¬ ((50 : Int32) ≤ nI s ∧ nI s ≤ 57) := by rcases hs with rfl | rfl <;> decide
      have hsort : (if (50 : Int32) ≤ nI s ∧ nI s ≤ 57 then 58 else if stI (nI s) ∧ ¬ nI s = 58 then nI s else 59) = nI s := by
        rw [if_neg hnl, if_pos (by rcases hs with rfl | rfl <;> decide)]
      have hat : ¬ (nI s = 59 ∨ nI s = 123) := by rcases hs with rfl | rfl <;> decide
      rw [hsort, if_neg hat, if_neg hnl]
      have kp := kp_mk (s := s) (lb := 0) (p2 := p + 1) (lab := -1) hS hb hk (by omega) (by omega) rfl (by omega)
      refine cc_rest (d + 2) _ b cx.length s (by omega) _ (fun pc hpc => ?_)
      have hpc : pc = 128 := by rcases hs with rfl | rfl <;> exact hpc
      rw [hpc]
      exact kc_given hs kp.1 (by omega) (by omega) hx.1 hD2 (rP_bq h)
    rw [if_neg cg] at h
    by_cases c123 : sp_c tx n p = 123
    · rw [if_pos c123] at h
      have hpn := sp_c_x c123 (by decide)
      rw [c123, show (if (50 : Int32) ≤ 123 ∧ ((123 : Int32)) ≤ 57 then 58 else if stI 123 ∧ ¬ (123 : Int32) = 58 then (123 : Int32) else 59) = nI 123 by decide, show (if nI 123 = 59 ∨ nI 123 = 123 then p else p + 1) = p by rw [if_pos (by decide)], show (if (50 : Int32) ≤ 123 ∧ (123 : Int32) ≤ 57 then (123 : Int32) else -1) = -1 by decide]
      refine k_ent (s := 123) (lb := 0) hS hb hk (by omega) (by omega) rfl (by omega) rfl (fun m1 a1 kp _ => ?_)
      rw [hp.2] at kp
      refine k_123 i1 kp (by omega) hx.1 hD2 ?_
      unfold st_x
      rw [if_pos c123]
      exact rP_bq h
    rw [if_neg c123] at h
    by_cases cl : sp_lb (sp_c tx n p)
    · obtain ⟨l1, l2, l3⟩ := lb_nI cl
      have hlab : ¬ cx_lab cx (sp_c tx n p).toNatClampNeg := by
        intro hc
        refine q (Or.inr (Or.inr ⟨cl, fun e => ?_⟩))
        rw [l3] at e
        exact (dlb_cx l1 l2 cx hcx.1 hcx.2).mp e hc
      rw [if_pos cl, if_neg hlab] at h
      have hpn := sp_c_x (tx := tx) (n := n) (p := p) rfl (sp_lb_c cl)
      have hl : (if (50 : Int32) ≤ sp_c tx n p ∧ sp_c tx n p ≤ 57 then (58 : Int32) else if stI (sp_c tx n p) ∧ ¬ sp_c tx n p = 58 then sp_c tx n p else 59) = nI 58 := if_pos cl
      rw [hl, show (if nI 58 = 59 ∨ nI 58 = 123 then p else p + 1) = p + 1 by rw [if_neg (by decide)], show (if (50 : Int32) ≤ sp_c tx n p ∧ sp_c tx n p ≤ 57 then sp_c tx n p else -1) = sp_c tx n p from if_pos cl]
      refine k_ent (s := 58) (lb := (sp_c tx n p).toNatClampNeg) hS hb hk (by omega) l1 (by rw [if_neg l2]; exact l3) (by omega) rfl (fun m1 a1 kp _ => ?_)
      exact k_58 i0 kp (by omega) (by omega) (by omega) hx.1 hD2 (rP_bq h)
    rw [if_neg cl] at h
    by_cases c73 : sp_c tx n p = 73
    · rw [if_pos c73] at h
      have hpn := sp_c_x c73 (by decide)
      rw [c73, show (if (50 : Int32) ≤ 73 ∧ ((73 : Int32)) ≤ 57 then 58 else if stI 73 ∧ ¬ (73 : Int32) = 58 then (73 : Int32) else 59) = nI 73 by decide, show (if nI 73 = 59 ∨ nI 73 = 123 then p else p + 1) = p + 1 by rw [if_neg (by decide)], show (if (50 : Int32) ≤ 73 ∧ (73 : Int32) ≤ 57 then (73 : Int32) else -1) = -1 by decide]
      refine k_ent (s := 73) (lb := 0) hS hb hk (by omega) (by omega) rfl (by omega) rfl (fun m1 a1 kp _ => ?_)
      exact k_73 i0 kp (by omega) (by omega) (by omega) hx.1 hD2 (rP_bq h)
    rw [if_neg c73] at h
    by_cases c87 : sp_c tx n p = 87
    · rw [if_pos c87] at h
      have hpn := sp_c_x c87 (by decide)
      rw [c87, show (if (50 : Int32) ≤ 87 ∧ ((87 : Int32)) ≤ 57 then 58 else if stI 87 ∧ ¬ (87 : Int32) = 58 then (87 : Int32) else 59) = nI 87 by decide, show (if nI 87 = 59 ∨ nI 87 = 123 then p else p + 1) = p + 1 by rw [if_neg (by decide)], show (if (50 : Int32) ≤ 87 ∧ (87 : Int32) ≤ 57 then (87 : Int32) else -1) = -1 by decide]
      refine k_ent (s := 87) (lb := 0) hS hb hk (by omega) (by omega) rfl (by omega) rfl (fun m1 a1 kp _ => ?_)
      exact k_87 i0 kp (by omega) (by omega) (by omega) hx.1 hD2 (rP_bq h)
    rw [if_neg c87] at h
    by_cases c68 : sp_c tx n p = 68
    · rw [if_pos c68] at h
      have hpn := sp_c_x c68 (by decide)
      rw [c68, show (if (50 : Int32) ≤ 68 ∧ ((68 : Int32)) ≤ 57 then 58 else if stI 68 ∧ ¬ (68 : Int32) = 58 then (68 : Int32) else 59) = nI 68 by decide, show (if nI 68 = 59 ∨ nI 68 = 123 then p else p + 1) = p + 1 by rw [if_neg (by decide)], show (if (50 : Int32) ≤ 68 ∧ (68 : Int32) ≤ 57 then (68 : Int32) else -1) = -1 by decide]
      refine k_ent (s := 68) (lb := 0) hS hb hk (by omega) (by omega) rfl (by omega) rfl (fun m1 a1 kp _ => ?_)
      exact k_68 i0 kp (by omega) (by omega) (by omega) hx.1 hD2 (rP_bq h)
    rw [if_neg c68] at h
    by_cases c70 : sp_c tx n p = 70
    · rw [if_pos c70] at h
      have hpn := sp_c_x c70 (by decide)
      rw [c70, show (if (50 : Int32) ≤ 70 ∧ ((70 : Int32)) ≤ 57 then 58 else if stI 70 ∧ ¬ (70 : Int32) = 58 then (70 : Int32) else 59) = nI 70 by decide, show (if nI 70 = 59 ∨ nI 70 = 123 then p else p + 1) = p + 1 by rw [if_neg (by decide)], show (if (50 : Int32) ≤ 70 ∧ (70 : Int32) ≤ 57 then (70 : Int32) else -1) = -1 by decide]
      refine k_ent (s := 70) (lb := 0) hS hb hk (by omega) (by omega) rfl (by omega) rfl (fun m1 a1 kp _ => ?_)
      exact k_70 i0 kp (by omega) (by omega) (by omega) hx.1 hD2 (rP_bq h)
    rw [if_neg c70] at h
    by_cases c83 : sp_c tx n p = 83
    · rw [if_pos c83] at h
      have hpn := sp_c_x c83 (by decide)
      rw [c83, show (if (50 : Int32) ≤ 83 ∧ ((83 : Int32)) ≤ 57 then 58 else if stI 83 ∧ ¬ (83 : Int32) = 58 then (83 : Int32) else 59) = nI 83 by decide, show (if nI 83 = 59 ∨ nI 83 = 123 then p else p + 1) = p + 1 by rw [if_neg (by decide)], show (if (50 : Int32) ≤ 83 ∧ (83 : Int32) ≤ 57 then (83 : Int32) else -1) = -1 by decide]
      refine k_ent (s := 83) (lb := 0) hS hb hk (by omega) (by omega) rfl (by omega) rfl (fun m1 a1 kp _ => ?_)
      exact k_83 i2 kp (by omega) (by omega) (by omega) hx.1 hD2 (rP_bq h)
    rw [if_neg c83] at h
    by_cases c84 : sp_c tx n p = 84
    · rw [if_pos c84] at h
      have hpn := sp_c_x c84 (by decide)
      rw [c84, show (if (50 : Int32) ≤ 84 ∧ ((84 : Int32)) ≤ 57 then 58 else if stI 84 ∧ ¬ (84 : Int32) = 58 then (84 : Int32) else 59) = nI 84 by decide, show (if nI 84 = 59 ∨ nI 84 = 123 then p else p + 1) = p + 1 by rw [if_neg (by decide)], show (if (50 : Int32) ≤ 84 ∧ (84 : Int32) ≤ 57 then (84 : Int32) else -1) = -1 by decide]
      refine k_ent (s := 84) (lb := 0) hS hb hk (by omega) (by omega) rfl (by omega) rfl (fun m1 a1 kp _ => ?_)
      exact k_84 i1 kp (by omega) (by omega) (by omega) hx.1 hD2 (rP_bq h)
    rw [if_neg c84] at h
    by_cases cj : sp_c tx n p = 66 ∨ sp_c tx n p = 67
    · rw [if_pos cj] at h
      have hpn := sp_c_x (tx := tx) (n := n) (p := p) rfl (by rcases cj with e | e <;> · rw [e]; decide)
      obtain ⟨s, hs, hsI⟩ : ∃ s : Nat, (s = 66 ∨ s = 67) ∧ sp_c tx n p = nI s := by
        rcases cj with e | e
        · exact ⟨66, Or.inl rfl, e⟩
        · exact ⟨67, Or.inr rfl, e⟩
      rw [hsI, nI_clamp (by omega)] at h
      rw [hsI]
      have hnl : ¬ ((50 : Int32) ≤ nI s ∧ nI s ≤ 57) := by rcases hs with rfl | rfl <;> decide
      have hsort : (if (50 : Int32) ≤ nI s ∧ nI s ≤ 57 then 58 else if stI (nI s) ∧ ¬ nI s = 58 then nI s else 59) = nI s := by
        rw [if_neg hnl, if_pos (by rcases hs with rfl | rfl <;> decide)]
      have hat : ¬ (nI s = 59 ∨ nI s = 123) := by rcases hs with rfl | rfl <;> decide
      rw [hsort, if_neg hat, if_neg hnl]
      refine k_ent (s := s) (lb := 0) hS hb hk (by omega) (by omega) rfl (by omega) (by rcases hs with rfl | rfl <;> rfl) (fun m1 a1 kp hrow => ?_)
      exact kc_jump hs kp (by omega) hrow hx.1 hD2 (rP_bq h)
    rw [if_neg cj] at h
    by_cases cr : sp_c tx n p = 82 ∨ sp_c tx n p = 88
    · rw [if_pos cr] at h
      have hpn := sp_c_x (tx := tx) (n := n) (p := p) rfl (by rcases cr with e | e <;> · rw [e]; decide)
      obtain ⟨s, hs, hsI⟩ : ∃ s : Nat, (s = 82 ∨ s = 88) ∧ sp_c tx n p = nI s := by
        rcases cr with e | e
        · exact ⟨82, Or.inl rfl, e⟩
        · exact ⟨88, Or.inr rfl, e⟩
      rw [hsI, nI_clamp (by omega)] at h
      rw [hsI]
      have hnl : ¬ ((50 : Int32) ≤ nI s ∧ nI s ≤ 57) := by rcases hs with rfl | rfl <;> decide
      have hsort : (if (50 : Int32) ≤ nI s ∧ nI s ≤ 57 then 58 else if stI (nI s) ∧ ¬ nI s = 58 then nI s else 59) = nI s := by
        rw [if_neg hnl, if_pos (by rcases hs with rfl | rfl <;> decide)]
      have hat : ¬ (nI s = 59 ∨ nI s = 123) := by rcases hs with rfl | rfl <;> decide
      rw [hsort, if_neg hat, if_neg hnl]
      refine k_ent (s := s) (lb := 0) hS hb hk (by omega) (by omega) rfl (by omega) (by rcases hs with rfl | rfl <;> rfl) (fun m1 a1 kp hrow => ?_)
      exact k_RX hs kp (by omega) (by omega) hx.1 hD2 (rP_bq h)
    rw [if_neg cr] at h
    have hsort : (if (50 : Int32) ≤ sp_c tx n p ∧ sp_c tx n p ≤ 57 then (58 : Int32) else if stI (sp_c tx n p) ∧ ¬ sp_c tx n p = 58 then sp_c tx n p else 59) = nI 59 := by
      rw [if_neg cl]
      by_cases e : stI (sp_c tx n p) ∧ ¬ sp_c tx n p = 58
      · rw [if_pos e]
        rcases e.1 with e1 | e1 | e1 | e1 | e1 | e1 | e1 | e1 | e1 | e1 | e1 | e1 | e1 | e1 | e1
        · exact absurd (Or.inl e1) cg
        · exact absurd (Or.inr e1) cg
        · exact absurd e1 e.2
        · exact e1
        · exact absurd (Or.inl e1) cj
        · exact absurd (Or.inr e1) cj
        · exact absurd e1 c68
        · exact absurd e1 c70
        · exact absurd e1 c73
        · exact absurd (Or.inl e1) cr
        · exact absurd e1 c83
        · exact absurd e1 c84
        · exact absurd e1 c87
        · exact absurd (Or.inr e1) cr
        · exact absurd e1 c123
      · rw [if_neg e]; rfl
    rw [hsort, if_pos (show nI 59 = 59 ∨ nI 59 = 123 from Or.inl rfl), if_neg cl]
    refine k_ent (s := 59) (lb := 0) hS hb hk (by omega) (by omega) rfl hp.1 rfl (fun m1 a1 kp _ => ?_)
    rw [hp.2] at kp
    exact k_59 kp hx.1 hD2 (rP_bq h)
theorem sC_all : ∀ f, sC0 l w tx n f ∧ sC1 l w tx n f ∧ sC2 l w tx n f := by
  intro f
  induction f with
  | zero =>
    refine ⟨?_, ?_, ?_⟩
    · intro D cx b p V sc x m a P hS hb hx hf; omega
    · intro D cx b p V sc sc0 i m a P hS hsc hb hi hf; omega
    · intro D cx b p V s0 sc sc0 i x L m a P hS hsc hb hi hs0 hx hL hf; omega
  | succ f ih => exact ⟨sC0_step ih.1 ih.2.1 ih.2.2, sC1_step ih.1 ih.2.1, sC2_step ih.1 ih.2.2⟩
end KQ
