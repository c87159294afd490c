section ES
variable {d n sc : Nat} {st : Int32} {P : pv_R} {m0 : Nat → Int32} {a0 : Nat → Nat → Int32}
theorem eT1_step (hC : eCx n sc m0 a0) {f : Nat} (i0 : eT0 d n sc st P m0 a0 f) (i1 : eT1 d n sc st P m0 a0 f) (i2 : eT2 d n sc st P m0 a0 f) : eT1 d n sc st P m0 a0 (f + 1) := by
  intro lv p m a p0 b k t γ hpre hk hf htop hγ hpost
  obtain ⟨⟨hlv, hm, hF⟩, hp, hb, ht⟩ := hpre
  have x0 := sp_x_le (tx := r_tx a0) hp.1
  rw [hp.2] at x0
  rw [sp_e1, if_neg (by omega)] at hpost
  refine i2 lv p m a p0 b k t γ ⟨⟨hlv, hm, hF⟩, hp, hb, ht⟩ (by omega) (by omega) htop hγ ?_
  cases hr2 : sp_e (r_tx a0) n (a0 r_named) f 2 lv p .nil with
  | inl q => rw [hr2] at hpost; exact hpost
  | inr qu =>
    obtain ⟨q, v⟩ := qu
    rw [hr2] at hpost
    obtain ⟨⟨⟨g1, g2⟩, ⟨g3, g4⟩, g5⟩, -⟩ := sp_e_good f 2 lv _ .nil q v (by omega) x0.2 (by omega) hr2
    simp only [show ¬ (2 = 5 ∨ 2 = 6) by omega, if_false] at g1 g5
    intro m1 a1 p1 K T Z hm1 hp1 hF1 hPv
    by_cases hc : sp_c (r_tx a0) n q = 63
    · have hpost : ePost d n sc st P m0 a0 1 a b k t (lv + 1) (sp_b (sp_e (r_tx a0) n (a0 r_named) f 0 (lv + 1) (sp_x (r_tx a0) n (q + 1)) .nil) fun q2 u2 =>
          if sp_c (r_tx a0) n q2 = 58 then sp_b (sp_e (r_tx a0) n (a0 r_named) f 1 (lv + 1) (sp_x (r_tx a0) n (q2 + 1)) .nil) fun q3 u3 => .inr (q3, .tag (sp_n 63 (sp_1 v) 0) (.append v (.append u2 u3)))
          else .inl q2) := by
        have h := hpost
        unfold sp_b at h
        simp only [hc, if_true] at h
        exact h
      have hqn := sp_c_lt hc (by decide)
      have x1 := sp_x_le (tx := r_tx a0) (n := n) (p := q + 1) (by omega)
      have hK := hPv.1.1.2
      have hF01 : Fr a0 a1 0 0 0 := Fr_trans hF hF1 (by omega) (by omega) (by omega)
      have htop1 : top3 (eTop a1 k) := by rw [eTop_Fr hF1 (Nat.le_refl _)]; exact htop
      obtain ⟨a2, r, ⟨hF2, hCl⟩, hrw⟩ := Pnd_rw (x := 1) (y := 1) (w := 0) hPv ⟨fun _ => by decide, fun _ => by decide, fun q => by omega⟩ (fun q => by
        rcases q with q | q | q
        · exact htop1.2.1 q.1
        · exact htop1.2.2 q.1
        · exact q.2 rfl)
      have hr := Blk_root hCl.1.1
      have hF02 : Fr a0 a2 0 0 0 := Fr_trans hF01 hF2 (by omega) (by omega) (by omega)
      have hth : thr (a2 r_scope) sc = eth a0 sc := by rw [Fr_oth hF02 (j := r_scope) (by decide)]
      have hsc : m1 r_scopes = nI sc := (hm1 25 (by decide) (by decide)).trans hC.2.1.2.2
      have hw : m1 r_wrong = -1 := (hm1 28 (by decide) (by decide)).trans hC.2.1.2.1
      have hsz : m1 r_size = nI n := (hm1 27 (by decide) (by decide)).trans hC.2.1.1
      refine gZ_O hC hm1 hF01 hp1 (by omega) (Pnd_top hPv htop1.1) ?_
      rw [hc]
      obtain ⟨⟨o1, o2⟩, ⟨o3, o4⟩, o5, o6, o7⟩ := op_push (w := 63) (s := 63) (by decide) rfl rfl hF2 hCl _ rfl
      have hnx : r_nx a2 n (q + 1) = sp_x (r_tx a0) n (q + 1) := eCx_nx hC hF02 (q + 1)
      -- the rows behind the ?, with the left side's around
      have key : ∀ a3, a3 = up2 (up2 (up2 (r_nodeA a2 (b + sp_z v) 63 (a2 r_first r) 0 (eth a0 sc)) r_opSign k 63) r_opNode k (nI (b + sp_z v))) r_around r (nI (b + sp_z v)) → ((Fr a1 a3 b k t ∧ a3 r_opSign k = 63 ∧ a3 r_opNode k = nI (b + sp_z v)) ∧ ndF a3 (b + sp_z v) (sp_n 63 (sp_1 v) 0) ∧ (∀ i, b ≤ i → i < b + sp_z v + 1 → a3 r_thereBefore i = eth a0 sc ∧ a3 r_thereAfter i = eth a0 sc) ∧ Blk a3 v b r ∧ a3 r_around r = nI (b + sp_z v)) := by
        intro a3 e
        generalize up2 (up2 (r_nodeA a2 (b + sp_z v) 63 (a2 r_first r) 0 (eth a0 sc)) r_opSign k 63) r_opNode k (nI (b + sp_z v)) = a' at o1 o2 o3 o4 o5 o6 o7 e
        subst e
        refine ⟨⟨Fr_nd o1 _ (by decide) (by decide) (by omega), (up2_ne _ _ (fun q => absurd q.1 (by decide))).trans o3, (up2_ne _ _ (fun q => absurd q.1 (by decide))).trans o4⟩, ⟨⟨(up2_ne _ _ (fun q => absurd q.1 (by decide))).trans o5.1.1, (up2_ne _ _ (fun q => absurd q.1 (by decide))).trans o5.1.2⟩, (up2_ne _ _ (fun q => absurd q.1 (by decide))).trans o5.2.1, (up2_ne _ _ (fun q => absurd q.1 (by decide))).trans o5.2.2⟩, fun i i1 i2 => ?_, Blk_ar _ o7.1.1 (Or.inr (Or.inr rfl)), up2_eq _ _ _ _⟩
        refine ⟨(up2_ne _ _ (fun q => absurd q.1 (by decide))).trans ?_, (up2_ne _ _ (fun q => absurd q.1 (by decide))).trans ?_⟩
        · by_cases e : i < b + sp_z v
          · exact (o7.2 i i1 e).1
          · rw [show i = b + sp_z v by omega]; exact o6.1
        · by_cases e : i < b + sp_z v
          · exact (o7.2 i i1 e).2
          · rw [show i = b + sp_z v by omega]; exact o6.2
      refine rc_ro_ask d m1 a1 a2 hC.1.1 hqn hsz hw hC.1.2 hsc (by omega) (by omega) (by omega) (by omega) hCl.1.2 (by omega) (hrw (d + 1) (wb m1 1 0) q (b + sp_z v)) _ (fun hz => ?_) (fun hz => ?_)
      · rw [hth, hnx]
        obtain ⟨⟨k1, k2, k3⟩, k4, k5, k6, k7⟩ := key _ rfl
        generalize up2 (up2 (up2 (r_nodeA a2 (b + sp_z v) 63 (a2 r_first r) 0 (eth a0 sc)) r_opSign k 63) r_opNode k (nI (b + sp_z v))) r_around r (nI (b + sp_z v)) = a3 at k1 k2 k3 k4 k5 k6 k7 ⊢
        refine ⟨1, _, _, rfl, rfl, ?_⟩
        refine go_want (γ := 1) (m := wb m1 1 1) ((hm1 28 (by decide) (by decide)).trans hC.2.1.2.1) ?_
        have hF03 : Fr a0 a3 0 0 0 := Fr_trans hF01 k1 (by omega) (by omega) (by omega)
        have et3 : eTop a3 (k + 1) = 63 := by unfold eTop; rw [if_neg (by omega), show k + 1 - 1 = k by omega, k2]
        refine i0 (lv + 1) (sp_x (r_tx a0) n (q + 1)) (wb m1 1 1) a3 (sp_x (r_tx a0) n (q + 1)) (b + sp_z v + 1) (k + 1) t ⟨⟨by omega, Mw_wb hm1 1 1, hF03⟩, ⟨x1.2, sp_x_x (by omega)⟩, by omega, by omega⟩ (by omega) (by omega) (by rw [et3]; exact ⟨by decide, by decide, by decide⟩) ?_
        cases hr0 : sp_e (r_tx a0) n (a0 r_named) f 0 (lv + 1) (sp_x (r_tx a0) n (q + 1)) .nil with
        | inl q => rw [hr0] at hpost; exact hpost
        | inr qu2 =>
          obtain ⟨q2, v2⟩ := qu2
          rw [hr0] at hpost
          obtain ⟨⟨⟨g1', g2'⟩, ⟨g3', g4'⟩, g5'⟩, g6', g7', g8'⟩ := sp_e_good f 0 (lv + 1) _ .nil q2 v2 (by omega) x1.2 (by omega) hr0
          simp only [show ¬ (0 = 5 ∨ 0 = 6) by omega, if_false] at g1' g5'
          intro m4 a4 p4 K4 T4 Z4 hm4 hp4 hF4 hP4
          have hF04 : Fr a0 a4 0 0 0 := Fr_trans hF03 hF4 (by omega) (by omega) (by omega)
          have op4 : a4 r_opSign k = 63 := (Fr_sign hF4 (by omega)).trans k2
          have hK4 := hP4.1.1.2
          by_cases hc2 : sp_c (r_tx a0) n q2 = 58
          · have hpost : ePost d n sc st P m0 a0 1 a b k t (lv + 1) (sp_b (sp_e (r_tx a0) n (a0 r_named) f 1 (lv + 1) (sp_x (r_tx a0) n (q2 + 1)) .nil) fun q3 u3 => .inr (q3, .tag (sp_n 63 (sp_1 v) 0) (.append v (.append v2 u3)))) := by
              have h := hpost
              unfold sp_b at h
              simp only [hc2, if_true] at h
              exact h
            have hqn2 := sp_c_lt hc2 (by decide)
            have x2 := sp_x_le (tx := r_tx a0) (n := n) (p := q2 + 1) (by omega)
            have et4 : eTop a4 (k + 1) = 63 := by unfold eTop; rw [if_neg (by omega), show k + 1 - 1 = k by omega, op4]
            obtain ⟨a5, r5, ⟨hF5, hCl5⟩, hrw5⟩ := Pnd_rw (x := 1) (y := 1) (w := 1) hP4 ⟨fun _ => by decide, fun _ => by decide, fun _ => by decide⟩ (by rw [et4]; intro q; rcases q with q | q | q <;> exact absurd q (by decide))
            have hr5 := Blk_root hCl5.1.1
            have hF05 : Fr a0 a5 0 0 0 := Fr_trans hF04 hF5 (by omega) (by omega) (by omega)
            have hF35 : Fr a3 a5 (b + sp_z v + 1) (k + 1) t := Fr_trans hF4 hF5 (Nat.le_refl _) (Nat.le_refl _) (Nat.le_refl _)
            have hw4 : m4 r_wrong = -1 := (hm4 28 (by decide) (by decide)).trans hC.2.1.2.1
            have hsz4 : m4 r_size = nI n := (hm4 27 (by decide) (by decide)).trans hC.2.1.1
            have on5 : a5 r_opNode k = nI (b + sp_z v) := (Fr_onode hF35 (by omega)).trans k3
            refine gZ_O hC hm4 hF04 hp4 (by omega) (Pnd_top hP4 (by rw [et4]; decide)) ?_
            rw [hc2]
            have hwt : ¬ wts (a4 r_opSign) 63 K4 = 0 := by
              rw [Pnd_wts hP4 (Or.inr rfl), wts_succ, op4, if_pos rfl]
              decide
            have hnx5 : r_nx a5 n (q2 + 1) = sp_x (r_tx a0) n (q2 + 1) := eCx_nx hC hF05 (q2 + 1)
            refine rc_ro_else d m4 a4 a5 hC.1.1 hqn2 hsz4 hw4 (by omega) hwt (k' := k) (t' := t) (z' := lv + 1) (by omega) (by omega) (by omega) hCl5.1.2 (by omega) (hrw5 (d + 1) (wb m4 1 0) q2 _) _ (fun hz => ?_) (fun hz => ?_)
            · rw [hnx5, on5]
              have hF56 : Fr a3 (up2 (up2 a5 r_around r5 (nI (b + sp_z v))) r_opSign k 58) (b + sp_z v + 1) k t := Fr_op (Fr_nd (Fr_le hF35 (Nat.le_refl _) (by omega) (Nat.le_refl _)) _ (by decide) (by decide) (by omega)) _ (Nat.le_refl _)
              have l1 : (up2 (up2 a5 r_around r5 (nI (b + sp_z v))) r_opSign k 58) r_opSign k = 58 := up2_eq _ _ _ _
              have l2 : (up2 (up2 a5 r_around r5 (nI (b + sp_z v))) r_opSign k 58) r_opNode k = nI (b + sp_z v) := (up2_ne _ _ (fun q => absurd q.1 (by decide))).trans ((up2_ne _ _ (fun q => absurd q.1 (by decide))).trans on5)
              have l3 : Blk (up2 (up2 a5 r_around r5 (nI (b + sp_z v))) r_opSign k 58) v2 (b + sp_z v + 1) r5 := Blk_Fr (b := b + sp_z v + 1 + sp_z v2) (k := 0) (t := 0) (Fr_op (Fr_refl _ _ _ _) _ (Nat.zero_le _)) (Nat.le_refl _) (Blk_ar _ hCl5.1.1 (Or.inr (Or.inr rfl)))
              have l4 : (up2 (up2 a5 r_around r5 (nI (b + sp_z v))) r_opSign k 58) r_around r5 = nI (b + sp_z v) := (up2_ne _ _ (fun q => absurd q.1 (by decide))).trans (up2_eq _ _ _ _)
              have l5 : ∀ i, b ≤ i → i < b + sp_z v + 1 + sp_z v2 → (up2 (up2 a5 r_around r5 (nI (b + sp_z v))) r_opSign k 58) r_thereBefore i = eth a0 sc ∧ (up2 (up2 a5 r_around r5 (nI (b + sp_z v))) r_opSign k 58) r_thereAfter i = eth a0 sc := by
                intro i i1 i2
                refine ⟨(up2_ne _ _ (fun q => absurd q.1 (by decide))).trans ((up2_ne _ _ (fun q => absurd q.1 (by decide))).trans ?_), (up2_ne _ _ (fun q => absurd q.1 (by decide))).trans ((up2_ne _ _ (fun q => absurd q.1 (by decide))).trans ?_)⟩
                · by_cases e : i < b + sp_z v + 1
                  · exact (Fr_row hF35 (by decide) (by decide) e).trans (k5 i i1 e).1
                  · exact (hCl5.2 i (by omega) i2).1
                · by_cases e : i < b + sp_z v + 1
                  · exact (Fr_row hF35 (by decide) (by decide) e).trans (k5 i i1 e).2
                  · exact (hCl5.2 i (by omega) i2).2
              generalize up2 (up2 a5 r_around r5 (nI (b + sp_z v))) r_opSign k 58 = a6 at hF56 l1 l2 l3 l4 l5 ⊢
              refine ⟨1, _, _, rfl, rfl, ?_⟩
              refine go_want (γ := 0) (m := wb m4 1 0) ((hm4 28 (by decide) (by decide)).trans hC.2.1.2.1) ?_
              have hF06 : Fr a0 a6 0 0 0 := Fr_trans hF03 hF56 (by omega) (by omega) (by omega)
              have et6 : eTop a6 (k + 1) = 58 := by unfold eTop; rw [if_neg (by omega), show k + 1 - 1 = k by omega, l1]
              refine i1 (lv + 1) (sp_x (r_tx a0) n (q2 + 1)) (wb m4 1 0) a6 (sp_x (r_tx a0) n (q2 + 1)) (b + sp_z v + 1 + sp_z v2) (k + 1) t 0 ⟨⟨by omega, Mw_wb hm4 1 0, hF06⟩, ⟨x2.2, sp_x_x (by omega)⟩, by omega, by omega⟩ (by omega) (by omega) (by rw [et6]; exact ⟨by decide, by decide, by decide⟩) (Or.inl rfl) ?_
              cases hr1 : sp_e (r_tx a0) n (a0 r_named) f 1 (lv + 1) (sp_x (r_tx a0) n (q2 + 1)) .nil with
              | inl q => rw [hr1] at hpost; exact hpost
              | inr qu3 =>
                obtain ⟨q3, v3⟩ := qu3
                rw [hr1] at hpost
                obtain ⟨⟨⟨g1'', g2''⟩, ⟨g3'', g4''⟩, g5''⟩, -⟩ := sp_e_good f 1 (lv + 1) _ .nil q3 v3 (by omega) x2.2 (by omega) hr1
                simp only [show ¬ (1 = 5 ∨ 1 = 6) by omega, if_false] at g1'' g5''
                intro m7 a7 p7 K7 T7 Z7 hm7 hp7 hF7 hP7
                have hF37 : Fr a3 a7 (b + sp_z v + 1) k t := Fr_trans hF56 hF7 (by omega) (by omega) (Nat.le_refl _)
                have res := hpost m7 a7 p7 K7 T7 Z7 hm7 hp7 (Fr_trans hF1 (Fr_trans k1 hF37 (by omega) (Nat.le_refl _) (Nat.le_refl _)) (Nat.le_refl _) (Nat.le_refl _) (Nat.le_refl _)) (Pnd_3 (a2 := a6) (rx := r) (rv := r5) (by omega) ht rfl (by omega) hF7 l1 l2 (ndF_Fr hF56 (by omega) k4) l5 (Blk_Fr hF56 (by omega) k6) l3 ((Fr_row hF56 (by decide) (by decide) (by omega)).trans k7) l4 hP7)
                have ez : b + sp_z (.tag (sp_n 63 (sp_1 v) 0) (.append v (.append v2 v3))) = b + sp_z v + 1 + sp_z v2 + sp_z v3 := by simp only [sp_z]; omega
                rw [ez] at res
                exact res
            · rw [sp_e_30 (by omega) (by omega)] at hpost
              rw [hnx5]
              refine ⟨1, _, _, rfl, rfl, ?_⟩
              exact go_fault hC.1.1 x2.2 (Mw_wb hm4 1 0) (Fr_op (Fr_nd hF05 _ (by decide) (by decide) (Nat.zero_le _)) _ (Nat.zero_le _)) hpost
          · have hpost : eFk P m0 a0 q2 := by
              have h := hpost
              unfold sp_b at h
              simp only [hc2, if_false] at h
              exact h
            exact go_unshut hC (Or.inr rfl) hm4 hF04 hp4 hP4 op4 (g6' (by omega)) (g7' (by omega)) (g8' (by omega)) (fun _ => hc2) (fun q => absurd q (by decide)) hpost
      · rw [sp_e_30 (by omega) (by omega)] at hpost
        rw [hth, hnx]
        obtain ⟨⟨k1, -, -⟩, -⟩ := key _ rfl
        refine ⟨1, _, _, rfl, rfl, ?_⟩
        exact go_fault hC.1.1 x1.2 (Mw_wb hm1 1 1) (Fr_trans hF01 k1 (by omega) (by omega) (by omega)) hpost
    · have hpost : ePost d n sc st P m0 a0 1 a b k t (lv + 1) (.inr (q, v)) := by
        have h := hpost
        unfold sp_b at h
        simp only [hc, if_false] at h
        exact h
      exact hpost m1 a1 p1 K T Z hm1 hp1 hF1 (Pnd_mono (by omega) hPv)
end ES
