section TH
variable {d n : Nat} {P : pv_R} {m0 : Nat → Int32} {a0 : Nat → Nat → Int32} {tx : Nat → Int32}
/-- the rows of an S while its items are read: its O, its state may have changed -/
def iFs (a a' : Nat → Nat → Int32) (b0 k B V s : Nat) : Prop := ∃ y z, Fs (up2 (up2 a r_hasOther b0 y) r_state k z) a' B (k + 1) V s
theorem iFs_refl (a : Nat → Nat → Int32) (b0 k B V s : Nat) : iFs a a b0 k B V s := ⟨a r_hasOther b0, a r_state k, by rw [up2_same rfl, up2_same rfl]; exact Fs_refl _ _ _ _ _⟩
theorem iFs_Fs {a a' a'' : Nat → Nat → Int32} {b0 k B V s B' V' s' : Nat} (h : iFs a a' b0 k B V s) (h2 : Fs a' a'' B' (k + 1) V' s') (hB : B ≤ B') (hV : V ≤ V') (hs : s ≤ s') : iFs a a'' b0 k B V s := by
  obtain ⟨y, z, h⟩ := h
  exact ⟨y, z, Fs_trans h h2 hB (Nat.le_refl _) hV hs⟩
theorem iFs_up {a a' : Nat → Nat → Int32} {b0 k B V s : Nat} (h : iFs a a' b0 k B V s) (y z : Int32) : iFs a (up2 (up2 a' r_hasOther b0 y) r_state k z) b0 k B V s := by
  obtain ⟨y0, z0, h⟩ := h
  refine ⟨y, z, fun j i q => ?_⟩
  by_cases e1 : j = r_state ∧ i = k
  · rw [e1.1, e1.2, up2_eq, up2_eq]
  · rw [up2_ne _ _ e1, up2_ne _ _ e1]
    by_cases e2 : j = r_hasOther ∧ i = b0
    · rw [e2.1, e2.2, up2_eq, up2_eq]
    · rw [up2_ne _ _ e2, up2_ne _ _ e2]
      have := h j i q
      rw [up2_ne _ _ e1, up2_ne _ _ e2] at this
      exact this
/-- rows that the items of an S leave as they are -/
theorem iFs_row {a a' : Nat → Nat → Int32} {b0 k B V s j i : Nat} (h : iFs a a' b0 k B V s) (hq : sIn B (k + 1) V s j i) (h1 : ¬ (j = 14 ∧ i = b0)) (h2 : ¬ (j = 38 ∧ i = k)) : a' j i = a j i := by
  obtain ⟨y, z, h⟩ := h
  rw [h j i hq, up2_ne _ _ h2, up2_ne _ _ h1]
def iPost (d n : Nat) (P : pv_R) (m0 : Nat → Int32) (a0 : Nat → Nat → Int32) (tx : Nat → Int32) (a : Nat → Nat → Int32) (cx : cx_T) (b0 B V : Nat) (sc : sc_T) (r : st_R) : Prop := match r with
  | .inl q => sFk P m0 a0 q
  | .inr (q, V1, sc1, t) => ∀ (m' : Nat → Int32) (a' : Nat → Nat → Int32) (p' o e : Nat), Ms m0 m' → Fg a0 a' → sRI tx n m' a' ((b0, 83, 0) :: cx) (B + sp_z t) p' V1 sc1 (nI e) → (sp_c tx n p' = 125 ∧ q = sp_x tx n (p' + 1)) → ((a' r_hasOther b0 = nI o ∧ o ≤ 1 ∧ e ≤ 1) ∧ (fLine t ↔ (e = 1 ∨ o = 0)) ∧ ∃ x, a' r_state cx.length = nI x ∧ 0 < x ∧ x < 3) → iFs a a' b0 cx.length B V sc.length → BlkS a' V1 t B (nI b0) 9 sc → Hd (d + 10) P n m' a'
def sT2 (d n : Nat) (P : pv_R) (m0 : Nat → Int32) (a0 : Nat → Nat → Int32) (tx : Nat → Int32) (f : Nat) : Prop := ∀ (m : Nat → Int32) (a : Nat → Nat → Int32) (cx : cx_T) (b0 B p V : Nat) (sc : sc_T) (x : Nat), sPre n m0 a0 tx m a ((b0, 83, 0) :: cx) B p V sc (nI (x / 2 % 2)) → x < 8 → (a r_state cx.length = nI (if x % 2 = 1 then 1 else 2) ∧ a r_hasOther b0 = nI (x / 4)) → b0 < B → 2 * (n - p) + 2 < f → iPost d n P m0 a0 tx a cx b0 B V sc (st tx n f 2 ((b0, 83, 0) :: cx) B p V sc x) → Hd (d + 10) P n m a
theorem iPost_base {a a' : Nat → Nat → Int32} {cx : cx_T} {b0 B V : Nat} {sc : sc_T} {r : st_R} (h : iPost d n P m0 a0 tx a cx b0 B V sc r) (y z : Int32) (e : a' = up2 (up2 a r_hasOther b0 y) r_state cx.length z) : iPost d n P m0 a0 tx a' cx b0 B V sc r := by
  rcases r with q | ⟨q, V1, sc1, t⟩
  · exact h
  · intro m1 a1 p1 o e1 k1 k2 k3 k4 k5 k6 k7
    refine h m1 a1 p1 o e1 k1 k2 k3 k4 k5 ?_ k7
    obtain ⟨y1, z1, h1⟩ := k6
    refine ⟨y1, z1, fun j i q => ?_⟩
    rw [h1 j i q]
    subst e
    by_cases e1 : j = r_state ∧ i = cx.length
    · rw [e1.1, e1.2, up2_eq, up2_eq]
    · rw [up2_ne _ _ e1, up2_ne _ _ e1]
      by_cases e2 : j = r_hasOther ∧ i = b0
      · rw [e2.1, e2.2, up2_eq, up2_eq]
      · rw [up2_ne _ _ e2, up2_ne _ _ e2, up2_ne _ _ e1, up2_ne _ _ e2]
theorem sT2_step {f : Nat} (i0 : sT0 (d + 10) n P m0 a0 tx f) (i2 : sT2 d n P m0 a0 tx f) : sT2 d n P m0 a0 tx (f + 1) := by
  intro m a cx b0 B p V sc x hpre hx hrow hb0 hf hpost
  obtain ⟨⟨hM, hG⟩, hR, hb, hU⟩ := hpre
  have hp := sRI_p hR
  have hn : n ≤ 240 := hR.2.2.2.1.1
  have hcl : cx.length + 1 ≤ 20 := hR.2.2.1.1.2
  rw [st2] at hpost
  have hst2 : ∃ y, a r_state cx.length = nI y ∧ 0 < y ∧ y < 3 ∧ (y = 1 ↔ x % 2 = 1) := by
    rw [hrow.1]
    by_cases e : x % 2 = 1
    · rw [if_pos e]; exact ⟨1, rfl, by decide, by decide, fun _ => e, fun _ => rfl⟩
    · rw [if_neg e]; exact ⟨2, rfl, by decide, by decide, fun q => absurd q (by decide), fun q => absurd q e⟩
  obtain ⟨y, hy, hy0, hy3, hy1⟩ := hst2
  by_cases hc : sp_c tx n p = 125
  · rw [if_pos hc] at hpost
    refine hpost m a p (x / 4) (x / 2 % 2) hM hG ?_ ⟨hc, rfl⟩ ⟨⟨hrow.2, by omega, by omega⟩, ?_, y, hy, hy0, hy3⟩ (iFs_refl _ _ _ _ _ _) ?_
    · have e0 : sp_z (if x / 2 % 2 = 1 ∨ x / 4 = 0 then Std.Format.line else Std.Format.nil) = 0 := by split <;> rfl
      rw [e0]
      exact hR
    · by_cases e : x / 2 % 2 = 1 ∨ x / 4 = 0
      · rw [if_pos e]; exact ⟨fun _ => e, fun _ => trivial⟩
      · rw [if_neg e]; exact ⟨fun q => q.elim, fun q => absurd q e⟩
    · split <;> trivial
  rw [if_neg hc] at hpost
  obtain ⟨p0, y1, y2, y3⟩ := hR.2.1
  have hnx := fun q => sRI_nx hR q
  have hch := fun q => sRI_ch hR q
  have hO : ∃ o : Int32, a r_hasOther b0 = o ∧ (o = 0 ∨ o = 1) ∧ (o = 0 ↔ x / 4 = 0) := by
    rw [hrow.2]
    by_cases e : x / 4 = 0
    · rw [e]; exact ⟨_, rfl, Or.inl rfl, fun _ => rfl, fun _ => rfl⟩
    · rw [show x / 4 = 1 by omega]; exact ⟨_, rfl, Or.inr rfl, fun q => absurd q (by decide), fun q => by omega⟩
  obtain ⟨o, ho, ho01, ho0⟩ := hO
  have hE : nI (x / 2 % 2) = 0 ∨ nI (x / 2 % 2) = 1 := by
    by_cases e : x / 2 % 2 = 0
    · rw [e]; exact Or.inl rfl
    · rw [show x / 2 % 2 = 1 by omega]; exact Or.inr rfl
  have hup : ∀ (y z : Int32), Fg a0 (up2 (up2 a r_hasOther b0 y) r_state cx.length z) := fun y z => Fg_Fs hG (Fs_op (Fs_nd (Fs_refl a 0 0 0 0) _ (by decide) (Nat.zero_le _)) _ (by decide) (Nat.zero_le _))
  refine Hd_pre hR (by omega) 278 rfl (st_278 (d + 8) m a _ _ _ (rc_stepCases (d + 8) _ _ _ _ ?_))
  refine t37_0 (d + 8) m a (by omega) hy (by omega) _ (fun q => by omega) (fun _ => ?_)
  refine t37_45 (d + 5) m a hn y2 y1 hR.1.1.1 hR.1.1.2 (by omega) hy (by omega) (by omega) ho ho01 hR.1.2.2.2.2 hE _ (fun q => ?_) (fun q1 q2 => ?_) (fun q1 q2 => ?_) (fun q1 q2 q3 => ?_) (fun q1 q2 q3 => ?_)
  · rw [hnx, y3, hch] at q
    exact absurd q hc
  · rw [hnx, y3, hch] at q1
    rw [hnx p0, y3, hnx, hch] at q2
    rw [hnx p0, y3, hnx, hch]
    have hLO : sp_c tx n p = 76 ∨ (sp_c tx n p = 79 ∧ x / 4 = 0) := q1.imp_right (fun q => ⟨q.1, ho0.mp q.2⟩)
    rw [if_pos hLO, st_x_t q2] at hpost
    have hpn : p < n := by rcases hLO with e | e; exact sp_c_lt e (by decide); exact sp_c_lt e.1 (by decide)
    have x1 := sp_x_le (tx := tx) (n := n) (p := p + 1) (by omega)
    have hq2 := sp_c_lt q2 (by decide)
    have x2 := sp_x_le (tx := tx) (n := n) (p := sp_x tx n (p + 1) + 1) (by omega)
    refine ⟨rfl, rfl, _, _, rfl, ?_⟩
    have hO2 : (if ¬ o = 0 ∨ sp_c tx n p = 79 then 1 else 0 : Int32) = nI ((if sp_c tx n p = 79 ∨ ¬ x / 4 = 0 then 6 else 2) / 4) := by
      by_cases e : sp_c tx n p = 79 ∨ ¬ x / 4 = 0
      · rw [if_pos e, if_pos (e.elim (fun q => Or.inr q) (fun q => Or.inl (fun w => q (ho0.mp w))))]; rfl
      · rw [if_neg e, if_neg (fun q => e (q.elim (fun q => Or.inr (fun w => q (ho0.mpr w))) (fun q => Or.inl q)))]; rfl
    generalize hxx : (if sp_c tx n p = 79 ∨ ¬ x / 4 = 0 then 6 else 2 : Nat) = x' at hO2 hpost
    have hx' : x' = 6 ∨ x' = 2 := by rw [← hxx]; split <;> simp
    have hR2 : sRI tx n (upd (upd m r_at (nI (sp_x tx n (p + 1) + 1))) r_isCase 1) (up2 (up2 a r_hasOther b0 (if ¬ o = 0 ∨ sp_c tx n p = 79 then 1 else 0)) r_state cx.length 2) ((b0, 83, 0) :: cx) B (sp_x tx n (sp_x tx n (p + 1) + 1)) V sc (nI (x' / 2 % 2)) := by
      obtain ⟨⟨⟨r1, r2⟩, ⟨r3, r4⟩, r5, r6, r7⟩, r8, r9⟩ := sRI_row (j := 38) cx.length 2 (sRI_row (j := 14) b0 (if ¬ o = 0 ∨ sp_c tx n p = 79 then 1 else 0) (sRI_at hR (q := sp_x tx n (p + 1) + 1) (by omega)) (by decide)) (by decide)
      exact ⟨⟨⟨r1, r2⟩, ⟨r3, r4⟩, r5, r6, by rcases hx' with e | e <;> rw [e] <;> rfl⟩, r8, r9⟩
    refine i2 _ _ cx b0 B (sp_x tx n (sp_x tx n (p + 1) + 1)) V sc x' ⟨⟨Ms_upd (Ms_upd hM _ (by decide)) _ (by decide), hup _ _⟩, hR2, by omega, hU⟩ (by omega) ⟨?_, ?_⟩ hb0 (by omega) (iPost_base hpost _ _ rfl)
    · rw [up2_eq, if_neg (by omega)]; rfl
    · rw [up2_ne _ _ (fun q => absurd q.1 (by decide)), up2_eq]; exact hO2
  · rw [hnx, y3, hch] at q1
    rw [hnx p0, y3, hnx, hch] at q2
    rw [hnx p0, y3, hnx, hch]
    have hLO : sp_c tx n p = 76 ∨ (sp_c tx n p = 79 ∧ x / 4 = 0) := q1.imp_right (fun q => ⟨q.1, ho0.mp q.2⟩)
    rw [if_pos hLO, st_x_f q2] at hpost
    have hpn : p < n := by rcases hLO with e | e; exact sp_c_lt e (by decide); exact sp_c_lt e.1 (by decide)
    have x1 := sp_x_le (tx := tx) (n := n) (p := p + 1) (by omega)
    exact ⟨rfl, fSt_P ⟨⟨Ms_upd (Ms_upd (Ms_upd hM _ (by decide)) _ (by decide)) _ (by decide), hup _ _, hR.2.2.2.2.1⟩, ⟨rfl, by omega⟩, sc.length, sRI_len hR, hR.1.2.2.2.1⟩ hpost⟩
  · rw [hnx, y3, hch] at q2
    rw [hnx, y3]
    rw [if_neg (fun q => q2 (q.imp_right (fun q => ⟨q.1, ho0.mpr q.2⟩))), if_pos (hy1.mp q3)] at hpost
    exact ⟨rfl, fSt_P ⟨⟨Ms_upd (Ms_upd hM _ (by decide)) _ (by decide), hG, hR.2.2.2.2.1⟩, ⟨rfl, by omega⟩, sc.length, sRI_len hR, hR.1.2.2.2.1⟩ hpost⟩
  · rw [hnx, y3, hch] at q2
    rw [hnx, y3]
    rw [if_neg (fun q => q2 (q.imp_right (fun q => ⟨q.1, ho0.mpr q.2⟩))), if_neg (fun q => q3 (hy1.mpr q))] at hpost
    have hRp := sRI_at hR hp.1
    rw [hp.2] at hRp
    have e1 : (1 + 2 * (x / 2 % 2)) / 2 = x / 2 % 2 := by omega
    have call := i0 (d + 2) (upd m r_at (nI p)) a ((b0, 83, 0) :: cx) B p V sc (1 + 2 * (x / 2 % 2)) 0 ⟨⟨Ms_upd hM _ (by decide), hG⟩, by rw [e1]; exact hRp, hb, hU⟩ (by omega) (by omega)
    rw [show nI ((1 + 2 * (x / 2 % 2)) % 2) = 1 by rw [show (1 + 2 * (x / 2 % 2)) % 2 = 1 by omega]; rfl] at call
    refine HdP_cm (fun m a hH => ⟨rfl, rfl, m, a, rfl, hH⟩) (call ?_)
    cases hr : st tx n f 0 ((b0, 83, 0) :: cx) B p V sc (1 + 2 * (x / 2 % 2)) with
    | inl q => rw [hr] at hpost; exact hpost
    | inr z =>
      obtain ⟨q, V1, sc1, t⟩ := z
      rw [hr] at hpost
      have hpost : iPost d n P m0 a0 tx a cx b0 B V sc (st_b (st tx n f 2 ((b0, 83, 0) :: cx) (B + sp_z t) q V1 sc1 (4 * (x / 4))) fun q V2 sc2 t2 => .inr (q, V2, sc2, .append t t2)) := hpost
      obtain ⟨⟨⟨g1, g2⟩, g3, g3'⟩, ⟨g4, ext, g5, -⟩, -⟩ := st_good f 0 _ _ p V sc _ q V1 sc1 t (by omega) hp.1 hp.2 hr
      have hsc := (st_scA hn (by omega) hR.2.2.2.2.2.2 hr).1
      have g3' := g3' rfl
      intro m1 a1 k1 k2 k3 k4 k5
      have k4 : Fs a a1 B (cx.length + 1) V sc.length := k4
      refine i2 m1 a1 cx b0 (B + sp_z t) q V1 sc1 (4 * (x / 4)) ⟨⟨k1, k2⟩, by rw [show 4 * (x / 4) / 2 % 2 = 0 by omega]; exact k3, by omega, hU⟩ (by omega) ⟨?_, ?_⟩ (by omega) (by omega) ?_
      · rw [if_neg (by omega), Fs_st k4 (by decide) (Nat.lt_succ_self _), hrow.1, if_neg (fun q => q3 (hy1.mpr q))]
      · rw [Fs_row k4 (by decide) hb0, hrow.2, show 4 * (x / 4) / 4 = x / 4 by omega]
      · cases hr2 : st tx n f 2 ((b0, 83, 0) :: cx) (B + sp_z t) q V1 sc1 (4 * (x / 4)) with
        | inl q2 => rw [hr2] at hpost; exact hpost
        | inr z2 =>
          obtain ⟨q2, V2, sc2, t2⟩ := z2
          rw [hr2] at hpost
          obtain ⟨-, ⟨h4, -⟩, -⟩ := st_good f 2 _ _ q V1 sc1 _ q2 V2 sc2 t2 (by omega) g2 g3 hr2
          intro m2 a2 p2 o2 e2 j1 j2 j3 j4 j5 j6 j7
          have hlen : sc.length ≤ sc1.length := by rw [g5, List.length_append]; omega
          refine hpost m2 a2 p2 o2 e2 j1 j2 ?_ j4 j5 ?_ ⟨?_, ?_⟩
          · rw [show B + sp_z (.append t t2) = B + sp_z t + sp_z t2 by simp only [sp_z]; omega]
            exact j3
          · obtain ⟨yy, zz, hF⟩ := j6
            refine ⟨yy, zz, fun j i q => ?_⟩
            rw [hF j i (sIn_le (by omega) (Nat.le_refl _) g4 hlen q)]
            by_cases e1 : j = r_state ∧ i = cx.length
            · rw [e1.1, e1.2, up2_eq, up2_eq]
            · rw [up2_ne _ _ e1, up2_ne _ _ e1]
              by_cases e2 : j = r_hasOther ∧ i = b0
              · rw [e2.1, e2.2, up2_eq, up2_eq]
              · rw [up2_ne _ _ e2, up2_ne _ _ e2]
                exact k4 j i q
          · obtain ⟨yy, zz, hF⟩ := j6
            have b1 := BlkS_up (y := yy) (j := 14) (b := b0) (by decide) (by omega) (BlkS_9 _ _ _ _ _ k5)
            have b2 : BlkS (up2 (up2 a1 r_hasOther b0 yy) r_state cx.length zz) V1 t B (nI b0) 9 sc := BlkS_mono (Fs_op (Fs_refl (up2 a1 r_hasOther b0 yy) (B + sp_z t) 0 V1 0) zz (j := 38) (by decide) (Nat.zero_le _)) (Nat.le_refl _) (Nat.le_refl _) _ t (Nat.lt_succ_self _) _ _ _ _ (Nat.le_refl _) b1
            exact BlkS_mono hF (Nat.le_refl _) h4 _ t (Nat.lt_succ_self _) _ _ _ _ (Nat.le_refl _) b2
          · rw [← hsc]
            exact j7
end TH
