section TM
variable {d n : Nat} {P : pv_R} {m0 : Nat → Int32} {a0 : Nat → Nat → Int32} {tx : Nat → Int32}
theorem sT_all : ∀ f, sT0 (d + 10) n P m0 a0 tx f ∧ sT1 (d + 10) n P m0 a0 tx f ∧ sT2 d n P m0 a0 tx f := by
  intro f
  induction f with
  | zero =>
    refine ⟨?_, ?_, ?_⟩
    · intro e m a cx b p V sc x pt _ _ hf; omega
    · intro m a cx b p V sc pt _ hf; omega
    · intro m a cx b0 B p V sc x _ _ _ _ hf; omega
  | succ f ih => exact ⟨sT0_step ih.1 ih.2.1 ih.2.2, sT1_step ih.1 ih.2.1, sT2_step ih.1 ih.2.2⟩
/-- the unit: stmts up to the end -/
theorem sT3_all : ∀ (f : Nat) (m : Nat → Int32) (a : Nat → Nat → Int32) (b p V : Nat) (sc : sc_T), sPre n m0 a0 tx m a [] b p V sc 0 → 2 * (n - p) + 2 < f →
    (match st tx n f 3 [] b p V sc 0 with
      | .inl q => sFk P m0 a0 q
      | .inr (q, V1, sc1, t) => ∀ (m' : Nat → Int32) (a' : Nat → Nat → Int32), Ms m0 m' → Fg a0 a' → sRI tx n m' a' [] (b + sp_z t) q V1 sc1 0 → Fs a a' b 0 V sc.length → BlkS a' V1 t b (-1) 0 sc → P none (rs (upd m' r_thereAtEnd (thOf sc1)) a')) → Hd (d + 10) P n m a := by
  intro f
  induction f with
  | zero => intro m a b p V sc _ hf; omega
  | succ f ih =>
    intro m a b p V sc hpre hf hpost
    obtain ⟨⟨hM, hG⟩, hR, hb, hU⟩ := hpre
    have hp := sRI_p hR
    have hn : n ≤ 240 := hR.2.2.2.1.1
    obtain ⟨p0, y1, y2, y3⟩ := hR.2.1
    have hRp := sRI_at hR hp.1
    rw [hp.2] at hRp
    rw [st3] at hpost
    refine Hd_top (d + 8) P n m a hn y2 y1 hR.1.1.1 hR.1.1.2 hR.1.2.1.1 (sRI_len hR) hR.1.2.2.2.1 (fun q1 q2 => ?_) (fun q => ?_)
    · rw [sRI_nx hR, y3, sRI_ch hR] at q1
      rw [sRI_nx hR, y3]
      rw [if_pos q1] at hpost
      rw [thr_sc sc hR.2.2.1.2.1.1]
      exact hpost (upd m r_at (nI p)) a (Ms_upd hM _ (by decide)) hG hRp (Fs_refl _ _ _ _ _) trivial
    · rw [sRI_nx hR, y3, sRI_ch hR] at q
      rw [sRI_nx hR, y3]
      have hc : ¬ sp_c tx n p = -1 := by
        intro e
        refine q ⟨e, ?_⟩
        refine Nat.le_antisymm hp.1 (Nat.le_of_not_lt fun hlt => ?_)
        have hrow := hR.2.2.2.1.2.1
        unfold sp_c at e
        rw [if_pos hlt, ← hrow] at e
        exact absurd e (and255 _)
      rw [if_neg hc] at hpost
      refine (sT_all (d := d) (P := P) (m0 := m0) (a0 := a0) (tx := tx) f).1 (d + 4) (upd m r_at (nI p)) a [] b p V sc 1 0 ⟨⟨Ms_upd hM _ (by decide), hG⟩, hRp, hb, trivial⟩ (by omega) (by omega) ?_
      cases hr : st tx n f 0 [] b p V sc 1 with
      | inl r => rw [hr] at hpost; exact hpost
      | inr z =>
        obtain ⟨r, V1, sc1, t⟩ := z
        rw [hr] at hpost
        obtain ⟨⟨⟨g1, g2⟩, g3, g3'⟩, ⟨g4, ext, g5, -⟩, -⟩ := st_good f 0 [] b p V sc 1 r V1 sc1 t (by omega) hp.1 hp.2 hr
        have hsc := (st_scA hn (by omega) hR.2.2.2.2.2.2 hr).1
        have g3' := g3' rfl
        intro m1 a1 k1 k2 k3 k4 k5
        refine ih m1 a1 (b + sp_z t) r V1 sc1 ⟨⟨k1, k2⟩, k3, by omega, trivial⟩ (by omega) ?_
        have hpost : (match (st_b (st tx n f 3 [] (b + sp_z t) r V1 sc1 0) fun q V2 sc2 t2 => .inr (q, V2, sc2, .append t t2) : st_R) with
          | .inl q => sFk P m0 a0 q
          | .inr (q, V1, sc1, t) => ∀ (m' : Nat → Int32) (a' : Nat → Nat → Int32), Ms m0 m' → Fg a0 a' → sRI tx n m' a' [] (b + sp_z t) q V1 sc1 0 → Fs a a' b 0 V sc.length → BlkS a' V1 t b (-1) 0 sc → P none (rs (upd m' r_thereAtEnd (thOf sc1)) a')) := hpost
        cases hr2 : st tx n f 3 [] (b + sp_z t) r V1 sc1 0 with
        | inl q2 => rw [hr2] at hpost; exact hpost
        | inr z2 =>
          obtain ⟨q2, V2, sc2, t2⟩ := z2
          rw [hr2] at hpost
          obtain ⟨-, ⟨h4, -⟩, -⟩ := st_good f 3 [] _ r V1 sc1 0 q2 V2 sc2 t2 (by omega) g2 g3 hr2
          intro m2 a2 j1 j2 j3 j4 j5
          refine hpost m2 a2 j1 j2 ?_ (Fs_trans k4 j4 (by omega) (Nat.le_refl _) g4 (by rw [g5, List.length_append]; omega)) ⟨BlkS_mono j4 (Nat.le_refl _) h4 _ t (Nat.lt_succ_self _) b _ 0 sc (Nat.le_refl _) k5, ?_⟩
          · rw [show b + sp_z (.append t t2) = b + sp_z t + sp_z t2 by simp only [sp_z]; omega]
            exact j3
          · rw [← hsc]
            exact j5
/-- parse, whole: as st says -/
theorem rc_parse_ok (d : Nat) (m : Nat → Int32) (a : Nat → Nat → Int32) {n : Nat} (hn : n ≤ 240) (hrow : ∀ i, (a r_row i).toInt8.toInt32 = a r_row i) (hv : vOK a) (P : pv_R)
    (h0 : ∀ q, st (r_tx a) n 500 3 [] 0 (sp_x (r_tx a) n 0) 0 [] 0 = .inl q → ∀ (m' : Nat → Int32) (a' : Nat → Nat → Int32), Ms (upd m r_size (nI n)) m' → (m' r_wrong = nI q ∧ q ≤ 240) → Fg a a' → vOK a' → P none (rs m' a'))
    (h1 : ∀ q V sc t, st (r_tx a) n 500 3 [] 0 (sp_x (r_tx a) n 0) 0 [] 0 = .inr (q, V, sc, t) → ∀ (m' : Nat → Int32) (a' : Nat → Nat → Int32), Ms (upd m r_size (nI n)) m' → Fg a a' → sRI (r_tx a) n m' a' [] (sp_z t) q V sc 0 → m' r_thereAtEnd = thOf sc → BlkS a' V t 0 (-1) 0 [] → P none (rs m' a')) : pv_call rq_mt (d + 11) rq_m_R_parse [.ref 0, .int (nI n)] (rs m a) P := by
  refine rc_parse (d + 9) m a n P ?_
  have hx := sp_x_le (tx := r_tx a) (Nat.zero_le n)
  refine sT3_all (d := d) (m0 := upd m r_size (nI n)) (a0 := a) (tx := r_tx a) 500 _ _ 0 (sp_x (r_tx a) n 0) 0 [] ⟨⟨?_, ?_⟩, ⟨⟨⟨rfl, rfl⟩, ⟨rfl, rfl⟩, rfl, rfl, rfl⟩, ⟨0, rfl, Nat.zero_le _, rfl⟩, ⟨⟨trivial, by decide⟩, ⟨trivial, trivial⟩, fun u hu => ?_⟩, ⟨hn, rfl, hrow⟩, hv, ⟨⟨by decide, fun q hq => by cases hq⟩, by decide⟩⟩, by omega, trivial⟩ (by omega) ?_
  · intro j hj
    simp only [upd]
    by_cases e : j = 27
    · subst e; rfl
    · have e18 : ¬ j = 18 := by omega
      have e25 : ¬ j = 25 := by omega
      have e19 : ¬ j = 19 := by omega
      have e2 : ¬ j = 2 := by omega
      have e41 : ¬ j = 41 := by omega
      have e40 : ¬ j = 40 := by omega
      have e28 : ¬ j = 28 := by omega
      have e26 : ¬ j = 26 := by omega
      simp [e, e18, e25, e19, e2, e41, e40, e28, e26]
  · intro j hj
    unfold upa
    rw [if_neg (by show ¬ j = 23; omega)]
  · show nmZ (a r_named) 26 u = -1
    exact nmZ_at _ 26 u hu
  · cases hr : st (r_tx a) n 500 3 [] 0 (sp_x (r_tx a) n 0) 0 [] 0 with
    | inl q => exact fun m' a' k1 k2 k3 k4 => h0 q hr m' a' k1 k2 k3 k4
    | inr z =>
      obtain ⟨q, V, sc, t⟩ := z
      intro m' a' k1 k2 k3 k4 k5
      refine h1 q V sc t hr _ a' (Ms_upd k1 _ (by decide)) k2 ?_ rfl k5
      rw [Nat.zero_add] at k3
      exact k3
end TM
