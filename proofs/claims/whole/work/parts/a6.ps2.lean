section PSD
variable {a b : Nat → Nat → Int32} {V : Nat} {t : Std.Format} {K : Nat → Nat} {Wf : wL_T} {on : Nat → Int32} {E : eL_T} {root : Int32} {fr to : Nat} {I : Nat → Prop} {M : Nat → Nat → Nat → Prop} {en : Nat → Nat → Nat} {vr : Int32} {R : Nat → Nat → Prop}
/-- the way of leaving: where the reference comes, what the class asks for holds -/
theorem lv_Psi (w : WC a b V t K Wf on E) (hg : RGE a b t K Wf root fr to I) (hM : MEq t fr to M en) (hR : clR E Wf on en vr I R) (h0 : ∀ z, bt 0 vr z = z) {c : Nat} (hc0 : ¬ c = 0) (hcl : cdL t c) : ∀ (k i z : Nat), fr ≤ i → i < to → cdOK t c i → chl a k (TA a i) → inW Wf c (lvT a t (fnl b (sp_z t) c) c k (TA a i) (a c_P_tryPart i)) → z < 2 → (¬ coW Wf c (lvT a t (fnl b (sp_z t) c) c k (TA a i) (a c_P_tryPart i)) = -1 → R (dN (coW Wf c (lvT a t (fnl b (sp_z t) c) c k (TA a i) (a c_P_tryPart i)))) z) → LVQ a t root M (PsR t Wf root fr to R) c k (TA a i) (a c_P_tryPart i) z := by
  have h := w.1.1
  have hr := w.1.2
  have hch := w.2.1.1
  have hK := w.2.2.1.1
  have hN := CU_N h
  have hW := w.2.2.2.2
  have hcl2 := rg_cl h hg
  have fin : ∀ (i z : Nat), fr ≤ i → i < to → cdOK t c i → (¬ fnl b (sp_z t) c = -1 → R (dN (fnl b (sp_z t) c)) z) → FIN t (PsR t Wf root fr to R) c z := by
    intro i z h1 h2 h3 h4
    unfold FIN
    by_cases c2 : c ≤ 2
    · rw [if_pos c2]; trivial
    · rw [if_neg c2]
      have h6 := h3 (by omega)
      have hgN : tgc c < sp_z t := by omega
      have hp := fnl_pt h hr (c := c) (by omega) hgN h6.2.1 (fun e => hcl (by omega) e)
      by_cases c3 : c % 2 = 1
      · rw [if_pos c3]
        have hl := ID_lt hgN
        rw [hp.1 c3] at h4
        have h5 := h4 (nI_ne_m1 (by omega))
        have e1 : dN (nI (5 * ID t (tgc c) + 3)) = 5 * ID t (tgc c) + 3 := nI_clamp (by omega)
        rw [e1] at h5
        exact fun _ => jT1 hN hgN (fun _ => h5) (fun e => absurd h6.2.1 e)
      · rw [if_neg c3]
        obtain ⟨e, e1, e2, e3, e4⟩ := hp.2 (by omega)
        have hl := kid_lt hr hgN e2
        rw [e4] at h4
        have h5 := h4 (nI_ne_m1 (by omega))
        have e5 : dN (nI (5 * ID t e + 0)) = 5 * ID t e + 0 := nI_clamp (by omega)
        rw [e5] at h5
        rw [e1]
        show atP _ (oI (e + 1)) z
        rw [oI_s]
        exact (atP_n (by omega)).mpr (fun _ => jB hN hl.1 h5)
  intro k
  induction k with
  | zero =>
    intro i z h1 h2 h3 h4 h5 h6 h7
    exact fin i z h1 h2 h3 h7
  | succ k ih =>
    intro i z h1 h2 h3 h4 h5 h6 h7
    have hi : i < sp_z t := by omega
    have htl := TA_le h hi
    have htg : c ≤ 2 ∨ tgc c ≤ 300 := by
      by_cases c2 : c ≤ 2
      · exact Or.inl c2
      · have := (h3 (by omega)).1
        exact Or.inr (by omega)
    rcases rg_TA h hr hg _ i (Nat.lt_succ_self _) h1 h2 with e0 | ⟨T, eT, hTi, hs, hin⟩
    · rw [e0] at h5 h7 ⊢
      rw [lvT_0] at h7
      unfold LVQ lvq
      rw [if_pos (Or.inl (by omega))]
      exact fin i z h1 h2 h3 h7
    · have hTN : T < sp_z t := by omega
      have hst : stS (SO t T) := by rw [hs]; unfold stS; omega
      have hid := ID_st h.1.2.2 hTN hst
      rw [eT] at h4 h5 h7 ⊢
      have hch2 := h4.resolve_left (by omega)
      rw [Nat.add_sub_cancel] at hch2
      have ntg : 2 < c → ¬ T = tgc c := fun z1 z2 => (h3 z1).2.2 (by rw [← z2]; exact hs)
      have cO : (¬ (1 ≤ T + 1 ∧ T + 1 ≤ sp_z t) ∨ oI (T + 1) ≤ oC c) ↔ (T + 1 = 0 ∨ (2 < c ∧ T + 1 - 1 < tgc c)) := by
        rw [oC_le (by omega) htg]
        constructor
        · rintro (z1 | z1 | z1)
          · omega
          · omega
          · have := ntg z1.1
            exact Or.inr ⟨z1.1, by omega⟩
        · rintro (z1 | z1)
          · omega
          · exact Or.inr (Or.inr ⟨z1.1, by omega⟩)
      unfold LVQ lvq
      unfold lvT at h5 h7
      by_cases k1 : T + 1 = 0 ∨ (2 < c ∧ T + 1 - 1 < tgc c)
      · rw [if_pos k1] at h5 h7
        rw [if_pos (cO.mpr k1)]
        exact fin i z h1 h2 h3 h7
      · rw [if_neg k1] at h5 h7
        rw [if_neg (fun z1 => k1 (cO.mp z1))]
        rw [Nat.add_sub_cancel] at h5 h7 ⊢
        have cdT : cdOK t c T := fun z1 => by
          have z2 := h3 z1
          have z3 := ntg z1
          have z4 := EN_in (t := t) (i := tgc c) (r := T) (by omega) (by omega) (by omega)
          exact ⟨⟨by omega, by omega⟩, z2.2⟩
        have hcf := T_cf h hTN hs
        have rc : ¬ rC c = 0 ↔ c = 2 := by
          unfold rC
          by_cases c2 : c = 2
          · rw [if_pos c2]; exact ⟨fun _ => c2, fun _ => by decide⟩
          · rw [if_neg c2]; exact ⟨fun z1 => absurd rfl z1, fun z1 => absurd z1 c2⟩
        by_cases kr : oI (T + 1) = root
        · rw [if_pos kr]; trivial
        · rw [if_neg kr]
          have hTin : fr ≤ T ∧ T < to := by
            rcases hin with z1 | z1
            · exact z1
            · exact absurd (by rw [oI_s]; exact z1.1.symm) kr
          by_cases k2 : c = 2 ∧ a c_P_tryPart i = 0 ∧ hC t T
          · rw [if_pos k2] at h5 h7
            rw [if_pos ⟨rc.mpr k2.1, k2.2.1, hcf.1.mpr k2.2.2⟩]
            have h8 := h7 (by show ¬ nI (1301 + 3 * T) = -1; exact nI_ne_m1 (by omega))
            have e1 : dN (nI (1301 + 3 * T)) = 1301 + 3 * T + 0 := nI_clamp (by omega)
            have h8 : R (dN (nI (1301 + 3 * T))) z := h8
            rw [e1] at h8
            exact K_in w hg hR h0 hTN hs k2.2.2 hTin h6 h8
          · rw [if_neg k2] at h5 h7
            rw [if_neg (fun z1 => k2 ⟨rc.mp z1.1, z1.2.1, hcf.1.mp z1.2.2⟩)]
            by_cases k3 : hE t T ∧ ¬ a c_P_tryPart i = 2
            · rw [if_pos k3] at h5 h7
              rw [if_pos ⟨k3.2, hcf.2.mpr k3.1⟩]
              obtain ⟨y, y1, y2, y3⟩ := way_at (show (T, c) ∈ Wf from h5)
              rw [y3] at h7
              have h8 := h7 (nI_ne_m1 (by omega))
              have e1 : dN (nI (2100 + y)) = 2100 + y := nI_clamp (by omega)
              rw [e1] at h8
              have hI := (in_way h hr hK hg y1 hW.1 hTN hst).mpr hTin
              have hsu := (hR _ z h6 h8 hI).2 (T, c) (by omega) (by rw [Nat.add_sub_cancel_left]; exact y1)
              rw [Nat.add_sub_cancel_left] at hsu
              refine ⟨N_in w hg hR h0 hTN hs k3.1 hTin h6 hsu.1, fun b' hb' hm => ?_⟩
              have hen := (hM T hTin.1 hTin.2 hs k3.1 z b' h6 hb').mp hm
              have hwo := w.2.2.2.1.2 y y2 _ y1
              have ewo : woA b (sp_z t) K (T, c) = lvT a t (fnl b (sp_z t) c) c k (TA a T) (a c_P_tryPart T) := by
                unfold woA
                rw [if_neg hc0]
                have q := lvA_20 w hTN cdT
                rw [hid] at q
                show lvA b (sp_z t) c (K T) T (b r_around T) = _
                rw [q, lvT_fuel 20 _ _ k (hch T hTN), Nat.add_comm, ← lvT_fuel k _ _ 20 hch2]
              rw [ewo] at hwo
              have hwo2 : on y = coW Wf c (lvT a t (fnl b (sp_z t) c) c k (TA a T) (a c_P_tryPart T)) := hwo.2
              refine ih T b' hTin.1 hTin.2 cdT hch2 hwo.1 hb' (fun n => ?_)
              rw [← hwo2] at n ⊢
              exact hsu.2 b' hb' hen n
            · rw [if_neg k3] at h5 h7
              rw [if_neg (fun z1 => k3 ⟨hcf.2.mp z1.2, z1.1⟩)]
              exact ih T z hTin.1 hTin.2 cdT hch2 h5 h6 h7
end PSD
