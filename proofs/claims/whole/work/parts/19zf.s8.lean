section SV
variable {D n : Nat} {P : pv_R} {m0 : Nat → Int32} {a0 : Nat → Nat → Int32} {tx : Nat → Int32}
theorem scA_tag (sc : sc_T) (c : Nat) (y : Std.Format) : scA sc (.tag c y) = if sp_s c = 36 ∨ sp_s c = 37 then (sp_v c / 2 / 16, sp_v c / 2 % 16 - 1) :: sc else sc := rfl
theorem scA_n {sc : sc_T} {s p w : Nat} {y : Std.Format} (hs : s < 256) (hp : p < 256) (hk : ¬ (s = 36 ∨ s = 37)) : scA sc (.tag (sp_n s p w) y) = sc := by
  rw [scA_tag, sp_s_n hs hp, if_neg hk]
theorem st_scA (hn : n ≤ 240) {f : Nat} {cx : cx_T} {b p V : Nat} {sc : sc_T} {x q V1 : Nat} {sc1 : sc_T} {t : Std.Format} (hx : x < 4) (hV : V ≤ 12) (h : st tx n f 0 cx b p V sc x = .inr (q, V1, sc1, t)) : sc1 = scA sc t ∧ (x % 2 = 0 → sc1 = sc) := by
  cases f with
  | zero => cases h
  | succ f =>
    have hp : ∀ {c : Int32}, sp_c tx n p = c → ¬ c = -1 → p < 256 := fun e hc => by have := sp_c_lt e hc; omega
    rw [st0] at h
    by_cases hc : 20 ≤ cx.length
    · rw [if_pos hc] at h; cases h
    rw [if_neg hc] at h
    by_cases hc : sp_c tx n p = 36 ∨ sp_c tx n p = 37
    · rw [if_pos hc] at h
      have hp1 : p < 256 := by rcases hc with e | e <;> exact hp e (by decide)
      split at h
      · cases h
      next hV2 =>
      split at h
      · next hnm =>
        obtain ⟨e1, e2⟩ := st_x_inr h
        cases e2
        have hcn : (sp_c tx n p).toNatClampNeg = 36 ∨ (sp_c tx n p).toNatClampNeg = 37 := by
          rcases hc with e | e <;> rw [e] <;> decide
        refine ⟨?_, fun q => absurd (Or.inl q) hV2⟩
        rw [scA_tag, sp_s_n (by omega) hp1, sp_v_n (by omega) hp1, if_pos hcn]
        generalize (sp_c tx n (sp_x tx n (p + 1)) - 97).toNatClampNeg = u
        rw [show (2 * (V + 1 + 16 * u) + x / 2) / 2 = V + 1 + 16 * u by omega, show (V + 1 + 16 * u) / 16 = u by omega, show (V + 1 + 16 * u) % 16 - 1 = V by omega]
      · cases h
    rw [if_neg hc] at h
    by_cases hc : sp_c tx n p = 123
    · rw [if_pos hc] at h
      obtain ⟨q1, V2, s1, t1, e1, e2⟩ := st_b_inr h
      cases e2
      exact ⟨(scA_n (by decide) (hp hc (by decide)) (by decide)).symm, fun _ => rfl⟩
    rw [if_neg hc] at h
    by_cases hc : sp_lb (sp_c tx n p)
    · rw [if_pos hc] at h
      split at h
      · cases h
      obtain ⟨e0, h⟩ := st_x_inr h
      obtain ⟨q1, V2, s1, t1, e1, e2⟩ := st_b_inr h
      cases e2
      exact ⟨(scA_n (by decide) (hp rfl (sp_lb_c hc)) (by decide)).symm, fun _ => rfl⟩
    rw [if_neg hc] at h
    by_cases hc : sp_c tx n p = 73
    · rw [if_pos hc] at h
      obtain ⟨e0, h⟩ := st_x_inr h
      obtain ⟨q1, u1, e1, h⟩ := st_eb_inr h
      obtain ⟨e2, h⟩ := st_x_inr h
      obtain ⟨q2, V2, s1, t1, e3, h⟩ := st_b_inr h
      split at h
      · obtain ⟨q3, V3, s2, t2, e4, h⟩ := st_b_inr h
        cases h
        exact ⟨(scA_n (by decide) (hp hc (by decide)) (by decide)).symm, fun _ => rfl⟩
      · cases h
        exact ⟨(scA_n (by decide) (hp hc (by decide)) (by decide)).symm, fun _ => rfl⟩
    rw [if_neg hc] at h
    by_cases hc : sp_c tx n p = 87
    · rw [if_pos hc] at h
      obtain ⟨e0, h⟩ := st_x_inr h
      obtain ⟨q1, u1, e1, h⟩ := st_eb_inr h
      obtain ⟨e2, h⟩ := st_x_inr h
      obtain ⟨q2, V2, s1, t1, e3, h⟩ := st_b_inr h
      cases h
      exact ⟨(scA_n (by decide) (hp hc (by decide)) (by decide)).symm, fun _ => rfl⟩
    rw [if_neg hc] at h
    by_cases hc : sp_c tx n p = 68
    · rw [if_pos hc] at h
      obtain ⟨q2, V2, s1, t1, e3, h⟩ := st_b_inr h
      obtain ⟨e0, h⟩ := st_x_inr h
      obtain ⟨q1, u1, e1, h⟩ := st_eb_inr h
      obtain ⟨e2, h⟩ := st_x_inr h
      obtain ⟨e4, h⟩ := st_x_inr h
      cases h
      exact ⟨(scA_n (by decide) (hp hc (by decide)) (by decide)).symm, fun _ => rfl⟩
    rw [if_neg hc] at h
    by_cases hc : sp_c tx n p = 70
    · rw [if_pos hc] at h
      obtain ⟨e0, h⟩ := st_x_inr h
      obtain ⟨q1, u1, e1, h⟩ := st_eb_inr h
      obtain ⟨e2, h⟩ := st_x_inr h
      obtain ⟨q5, u5, e5, h⟩ := st_eb_inr h
      obtain ⟨e6, h⟩ := st_x_inr h
      obtain ⟨q2, V2, s1, t1, e3, h⟩ := st_b_inr h
      cases h
      exact ⟨(scA_n (by decide) (hp hc (by decide)) (by decide)).symm, fun _ => rfl⟩
    rw [if_neg hc] at h
    by_cases hc : sp_c tx n p = 83
    · rw [if_pos hc] at h
      obtain ⟨e0, h⟩ := st_x_inr h
      obtain ⟨q1, u1, e1, h⟩ := st_eb_inr h
      obtain ⟨e2, h⟩ := st_x_inr h
      obtain ⟨e6, h⟩ := st_x_inr h
      obtain ⟨q2, V2, s1, t1, e3, h⟩ := st_b_inr h
      cases h
      exact ⟨(scA_n (by decide) (hp hc (by decide)) (by decide)).symm, fun _ => rfl⟩
    rw [if_neg hc] at h
    by_cases hc : sp_c tx n p = 84
    · rw [if_pos hc] at h
      obtain ⟨e0, h⟩ := st_x_inr h
      obtain ⟨q2, V2, s1, t1, e3, h⟩ := st_b_inr h
      split at h
      · obtain ⟨e4, h⟩ := st_x_inr h
        obtain ⟨q3, V3, s2, t2, e5, h⟩ := st_b_inr h
        split at h
        · obtain ⟨e6, h⟩ := st_x_inr h
          obtain ⟨q4, V4, s3, t3, e7, h⟩ := st_b_inr h
          cases h
          exact ⟨(scA_n (by decide) (hp hc (by decide)) (by decide)).symm, fun _ => rfl⟩
        · cases h
          exact ⟨(scA_n (by decide) (hp hc (by decide)) (by decide)).symm, fun _ => rfl⟩
      · obtain ⟨e4, h⟩ := st_x_inr h
        obtain ⟨e5, h⟩ := st_x_inr h
        obtain ⟨q3, V3, s2, t2, e6, h⟩ := st_b_inr h
        cases h
        exact ⟨(scA_n (by decide) (hp hc (by decide)) (by decide)).symm, fun _ => rfl⟩
    rw [if_neg hc] at h
    by_cases hc : sp_c tx n p = 66 ∨ sp_c tx n p = 67
    · rw [if_pos hc] at h
      have hp1 : p < 256 := by rcases hc with e | e <;> exact hp e (by decide)
      have hcn : (sp_c tx n p).toNatClampNeg = 66 ∨ (sp_c tx n p).toNatClampNeg = 67 := by rcases hc with e | e <;> rw [e] <;> decide
      split at h
      · split at h
        · cases h
        obtain ⟨e4, h⟩ := st_x_inr h
        cases h
        exact ⟨(scA_n (by omega) hp1 (by omega)).symm, fun _ => rfl⟩
      · split at h
        · cases h
        obtain ⟨e4, h⟩ := st_x_inr h
        cases h
        exact ⟨(scA_n (by omega) hp1 (by omega)).symm, fun _ => rfl⟩
    rw [if_neg hc] at h
    by_cases hc : sp_c tx n p = 82 ∨ sp_c tx n p = 88
    · rw [if_pos hc] at h
      have hp1 : p < 256 := by rcases hc with e | e <;> exact hp e (by decide)
      have hcn : (sp_c tx n p).toNatClampNeg = 82 ∨ (sp_c tx n p).toNatClampNeg = 88 := by rcases hc with e | e <;> rw [e] <;> decide
      split at h
      · cases h
        exact ⟨(scA_n (by omega) hp1 (by omega)).symm, fun _ => rfl⟩
      · obtain ⟨q1, u1, e1, h⟩ := st_eb_inr h
        obtain ⟨e4, h⟩ := st_x_inr h
        cases h
        exact ⟨(scA_n (by omega) hp1 (by omega)).symm, fun _ => rfl⟩
    rw [if_neg hc] at h
    obtain ⟨q1, u1, e1, h⟩ := st_eb_inr h
    obtain ⟨e4, h⟩ := st_x_inr h
    have hp1 : p < 256 := by
      refine Decidable.byContradiction fun hq => ?_
      have e : sp_c tx n p = -1 := by unfold sp_c; rw [if_neg (by omega)]
      rw [st_e_bad (by rw [e]; decide)] at e1
      cases e1
    cases h
    exact ⟨(scA_n (by decide) hp1 (by decide)).symm, fun _ => rfl⟩
theorem sT1_step {f : Nat} (i0 : sT0 D n P m0 a0 tx f) (i1 : sT1 D n P m0 a0 tx f) : sT1 D n P m0 a0 tx (f + 1) := by
  intro m a cx b p V sc pt hpre hf hst hpost
  obtain ⟨⟨hM, hG⟩, hR, hb, hU⟩ := hpre
  have hp := sRI_p hR
  rw [st1] at hpost
  by_cases hc : sp_c tx n p = 125
  · rw [if_pos hc] at hpost
    exact hpost m a p hM hG hR ⟨hc, rfl⟩ (Fs_refl _ _ _ _ _) trivial
  · rw [if_neg hc] at hpost
    refine hst m a b p V [] hM hG hR (Fs_refl _ _ _ _ _) hc (fun m'' hM2 hR2 e => ?_)
    refine i0 e m'' a cx b p V sc 1 pt ⟨⟨hM2, hG⟩, hR2, hb, hU⟩ (by omega) (by omega) ?_
    cases hr : st tx n f 0 cx b p V sc 1 with
    | inl q => rw [hr] at hpost; exact hpost
    | inr z =>
      obtain ⟨q, V1, sc1, t⟩ := z
      rw [hr] at hpost
      obtain ⟨⟨⟨g1, g2⟩, g3, g3'⟩, ⟨g4, ext, g5, -⟩, -⟩ := st_good f 0 cx b p V sc 1 q V1 sc1 t (by omega) hp.1 hp.2 hr
      have hsc := (st_scA hR.2.2.2.1.1 (by omega) hR.2.2.2.2.2.2 hr).1
      intro m1 a1 k1 k2 k3 k4 k5
      have g3' := g3' rfl
      refine i1 m1 a1 cx (b + sp_z t) q V1 sc1 pt ⟨⟨k1, k2⟩, k3, by omega, hU⟩ (by omega) (by rw [g5]; exact lStep_base hst k4 (by omega) g4) ?_
      cases hr2 : st tx n f 1 cx (b + sp_z t) q V1 sc1 0 with
      | inl q2 => rw [show st_b (.inr (q, V1, sc1, t)) (fun q V1 sc1 t => st_b (st tx n f 1 cx (b + sp_z t) q V1 sc1 0) fun q V2 sc2 t2 => .inr (q, V2, sc2, .append t t2)) = st_b (st tx n f 1 cx (b + sp_z t) q V1 sc1 0) (fun q V2 sc2 t2 => .inr (q, V2, sc2, .append t t2)) from rfl, hr2] at hpost; exact hpost
      | inr z2 =>
        obtain ⟨q2, V2, sc2, t2⟩ := z2
        rw [show st_b (.inr (q, V1, sc1, t)) (fun q V1 sc1 t => st_b (st tx n f 1 cx (b + sp_z t) q V1 sc1 0) fun q V2 sc2 t2 => .inr (q, V2, sc2, .append t t2)) = st_b (st tx n f 1 cx (b + sp_z t) q V1 sc1 0) (fun q V2 sc2 t2 => .inr (q, V2, sc2, .append t t2)) from rfl, hr2] at hpost
        obtain ⟨-, ⟨h4, -⟩, -⟩ := st_good f 1 cx _ q V1 sc1 0 q2 V2 sc2 t2 (by omega) g2 g3 hr2
        intro m2 a2 p2 j1 j2 j3 j4 j5 j6
        refine hpost m2 a2 p2 j1 j2 ?_ j4 (Fs_trans k4 j5 (by omega) (Nat.le_refl _) g4 (by rw [g5, List.length_append]; omega)) ⟨BlkS_mono j5 (Nat.le_refl _) h4 _ t (Nat.lt_succ_self _) b _ pt sc (Nat.le_refl _) k5, ?_⟩
        · rw [show b + sp_z (.append t t2) = b + sp_z t + sp_z t2 by simp only [sp_z]; omega]
          exact j3
        · rw [← hsc]
          exact j6
end SV
