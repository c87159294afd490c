section TJ
variable {d n : Nat} {P : pv_R} {m0 : Nat → Int32} {a0 : Nat → Nat → Int32} {tx : Nat → Int32}
/-- a { } of a T -/
theorem tl_list {f : Nat} (i1 : sT1 (d + 10) n P m0 a0 tx f) {m : Nat → Int32} {a : Nat → Nat → Int32} {cx : cx_T} {b B p V : Nat} {sc : sc_T} {x : Nat} (hx : x = 1 ∨ x = 3 ∨ x = 5) (hM : Ms m0 m) (hG : Fg a0 a) (hR : sRI tx n m a ((b, 84, 0) :: cx) B p V sc 0) (hB : B + (n - p) ≤ 240) (hb : b < 260) (hU : cxU cx) (hf : 2 * (n - p) + 2 < f) (hst : a r_state cx.length = nI x) (hmk : a r_mark cx.length = nI sc.length)
    (h0 : ∀ r, st tx n f 1 ((b, 84, 0) :: cx) B p V sc 0 = .inl r → sFk P m0 a0 r)
    (h1 : ∀ r V1 sc1 t, st tx n f 1 ((b, 84, 0) :: cx) B p V sc 0 = .inr (r, V1, sc1, t) → (p + sp_z t ≤ r ∧ r ≤ n ∧ V ≤ V1) → ∀ m' a', Ms m0 m' → Fg a0 a' → sRI tx n m' a' ((b, 84, 0) :: cx) (B + sp_z t) r V1 sc 0 → (a' r_state cx.length = nI (x + 1) ∧ a' r_mark cx.length = nI sc.length) → Fs a a' B cx.length V sc.length → BlkS a' V1 t B (nI b) (x / 2) sc → Hd (d + 10) P n m' a') : Hd (d + 10) P n m a := by
  have hp := sRI_p hR
  have hcl : cx.length + 1 ≤ 20 := hR.2.2.1.1.2
  refine i1 m a ((b, 84, 0) :: cx) B p V sc (x / 2) ⟨⟨hM, hG⟩, hR, hB, ⟨Or.inl rfl, hU⟩⟩ hf ?_ ?_
  · intro m' a' b' p' V' ext k1 k2 k3 k4 k5 k6
    have hst' : a' r_state cx.length = nI x := (Fs_st k4 (by decide) (Nat.lt_succ_self _)).trans hst
    have hmk' : a' r_mark cx.length = nI sc.length := (Fs_st k4 (by decide) (Nat.lt_succ_self _)).trans hmk
    refine Hd_pre k3 hb 287 rfl (st_287 (d + 8) m' a' _ _ _ (rc_stepTry (d + 8) _ _ _ _ ?_))
    refine t38_list (d + 7) m' a' (by omega) hst' hx _ ?_
    refine rd_list (d + 5) k1 k2 k3 hmk' _ _ (fun q => absurd q k5) (fun _ m'' j1 j2 => ?_)
    refine pv_call_cm rq_mt _ _ _ _ _ _ ?_ (k6 m'' j1 j2 (d + 1))
    intro o S hS
    obtain ⟨rfl, m3, a3, rfl, hS⟩ := hS
    exact ⟨rfl, m3, a3, rfl, Or.inl ⟨rfl, rfl, rfl, m3, a3, rfl, hS⟩⟩
  · cases hr : st tx n f 1 ((b, 84, 0) :: cx) B p V sc 0 with
    | inl q => exact h0 q hr
    | inr z =>
      obtain ⟨q, V1, sc1, t⟩ := z
      obtain ⟨⟨⟨g1, g2⟩, g3, -⟩, ⟨g4, ext, g5, -⟩, -⟩ := st_good f 1 _ _ _ _ _ _ q V1 sc1 t (by omega) hp.1 hp.2 hr
      intro m' a' p' k1 k2 k3 k4 k5 k6
      rw [g5] at k3
      have hst' : a' r_state cx.length = nI x := (Fs_st k5 (by decide) (Nat.lt_succ_self _)).trans hst
      have hmk' : a' r_mark cx.length = nI sc.length := (Fs_st k5 (by decide) (Nat.lt_succ_self _)).trans hmk
      refine Hd_pre k3 hb 287 rfl (st_287 (d + 8) m' a' _ _ _ (rc_stepTry (d + 8) _ _ _ _ ?_))
      refine t38_list (d + 7) m' a' (by omega) hst' hx _ ?_
      refine rd_list (d + 5) k1 k2 k3 hmk' _ _ (fun _ m3 a3 j1 j2 j3 j4 => ?_) (fun q => absurd k4.1 q)
      rw [← k4.2] at j3
      have hst3 : a3 r_state cx.length = nI x := (Fs_st (j4 0 (cx.length + 1) 0 0) (by decide) (Nat.lt_succ_self _)).trans hst'
      have hmk3 : a3 r_mark cx.length = nI sc.length := (Fs_st (j4 0 (cx.length + 1) 0 0) (by decide) (Nat.lt_succ_self _)).trans hmk'
      refine ⟨m3, a3, rfl, Or.inr ⟨rfl, hst3, rfl, rfl, m3, _, rfl, ?_⟩⟩
      have hF3 : ∀ B V s, Fs a3 (up2 a3 r_state cx.length (nI (x + 1))) B cx.length V s := fun B V s => Fs_op (Fs_refl _ _ _ _ _) _ (by decide) (Nat.le_refl _)
      have h3x : Fs a' (up2 a3 r_state cx.length (nI (x + 1))) (B + sp_z t) cx.length V1 sc.length := Fs_trans (j4 _ _ _ _) (hF3 _ _ _) (Nat.le_refl _) (Nat.le_refl _) (Nat.le_refl _) (Nat.le_refl _)
      refine h1 q V1 sc1 t hr ⟨g1, g2, g4⟩ m3 _ j1 (Fg_Fs j2 (hF3 0 0 0)) (sRI_row _ _ j3 (by decide)) ⟨up2_eq _ _ _ _, (up2_ne _ _ (fun q => absurd q.1 (by decide))).trans hmk3⟩ ?_ ?_
      · exact Fs_trans (Fs_le k5 (Nat.le_refl _) (Nat.le_succ _) (Nat.le_refl _) (Nat.le_refl _)) h3x (by omega) (Nat.le_refl _) g4 (Nat.le_refl _)
      · exact BlkS_mono h3x (Nat.le_refl _) (Nat.le_refl _) _ t (Nat.lt_succ_self _) _ _ _ _ (Nat.le_refl _) k6
/-- the rows of a T while it is read: its K and N may have changed -/
def tFs (a a' : Nat → Nat → Int32) (b B k V s : Nat) : Prop := ∃ y z, Fs (up2 (up2 a r_hasCatch b y) r_hasEnd b z) a' B k V s
theorem tFs_of {a a' : Nat → Nat → Int32} {b B k V s : Nat} (h : Fs a a' B k V s) : tFs a a' b B k V s := ⟨a r_hasCatch b, a r_hasEnd b, by rw [up2_same rfl, up2_same rfl]; exact h⟩
theorem tFs_at {a a' : Nat → Nat → Int32} {b B k V s j i : Nat} (h : tFs a a' b B k V s) (hq : sIn B k V s j i) (hn : ¬ ((j = 15 ∨ j = 16) ∧ i = b)) : a' j i = a j i := by
  obtain ⟨y, z, h⟩ := h
  rw [h j i hq, up2_ne _ _ (fun q => hn ⟨Or.inr q.1, q.2⟩), up2_ne _ _ (fun q => hn ⟨Or.inl q.1, q.2⟩)]
theorem tFs_mk {a a' : Nat → Nat → Int32} {b B k V s : Nat} (h : ∀ j i, sIn B k V s j i → ¬ ((j = 15 ∨ j = 16) ∧ i = b) → a' j i = a j i) : tFs a a' b B k V s := by
  refine ⟨a' r_hasCatch b, a' r_hasEnd b, fun j i q => ?_⟩
  by_cases e1 : j = r_hasEnd ∧ i = b
  · rw [e1.1, e1.2, up2_eq]
  · rw [up2_ne _ _ e1]
    by_cases e2 : j = r_hasCatch ∧ i = b
    · rw [e2.1, e2.2, up2_eq]
    · rw [up2_ne _ _ e2]
      exact h j i q (fun w => w.1.elim (fun w1 => e2 ⟨w1, w.2⟩) (fun w1 => e1 ⟨w1, w.2⟩))
theorem tFs_trans {a a' a'' : Nat → Nat → Int32} {b B k V s B' V' s' : Nat} (h : tFs a a' b B k V s) (h2 : tFs a' a'' b B' k V' s') (hB : B ≤ B') (hV : V ≤ V') (hs : s ≤ s') : tFs a a'' b B k V s := tFs_mk (fun _ _ q hn => (tFs_at h2 (sIn_le hB (Nat.le_refl _) hV hs q) hn).trans (tFs_at h q hn))
theorem tFs_blk {a a' : Nat → Nat → Int32} {b B k V s W W' B0 pt : Nat} {o : Int32} {sc : sc_T} {t : Std.Format} (h : tFs a a' b B k V s) (hW : W ≤ V) (hW' : W ≤ W') (h0 : b + 1 ≤ B0) (h1 : B0 + sp_z t ≤ B) (hB : BlkS a W t B0 o pt sc) : BlkS a' W' t B0 o pt sc := by
  obtain ⟨y, z, h⟩ := h
  exact BlkS_mono h hW hW' _ t (Nat.lt_succ_self _) _ _ _ _ h1 (BlkS_up (j := 16) (by decide) h0 (BlkS_up (j := 15) (by decide) h0 hB))
/-- a T's node bears its code -/
theorem nd_T {a a' : Nat → Nat → Int32} {b B k V s p x W g : Nat} {o pt : Int32} {sc : sc_T} (hp : p < 256) (hx : x < 2) (hN : nd1 a b (nI 84) (nI p) (thOf sc) o pt (nI x)) (h : tFs a a' b B k V s) (hb : b < B) (hc : a' r_hasCatch b = nI (g % 2)) (he : a' r_hasEnd b = nI (g / 2)) : ndS a' W b (sp_n 84 p (2 * g + x)) o sc ∧ a' r_part b = pt := by
  have c : ∀ j, ((3 ≤ j ∧ j ≤ 17) ∧ ¬ j = 15 ∧ ¬ j = 16) → a' j b = a j b := fun j hj => tFs_at h ⟨fun _ => hb, fun q => by omega, fun q => by omega, fun q => by omega, by omega⟩ (by omega)
  obtain ⟨⟨⟨h1, h2⟩, ⟨h3, h4⟩, h5, h6⟩, ⟨⟨h7, h8⟩, h10, h11⟩, h12⟩ := hN
  refine ⟨?_, (c 6 (by decide)).trans h4⟩
  unfold ndS sp_pl sp_en
  rw [sp_s_n (by decide) hp, sp_f_n (by decide) hp, sp_v_n (by decide) hp, show (2 * g + x) / 2 = g by omega, show (2 * g + x) % 2 = x by omega]
  exact ⟨⟨⟨(c 3 (by decide)).trans h1, (c 4 (by decide)).trans h2⟩, ⟨(c 5 (by decide)).trans h3, (c 8 (by decide)).trans h6⟩, (c 9 (by decide)).trans h7, (c 13 (by decide)).trans h11⟩, fun q => absurd q (by decide), fun _ => ⟨(c 7 (by decide)).trans h5, (c 10 (by decide)).trans h8⟩, fun q => absurd q (by decide), fun _ => ⟨hc, he⟩⟩
theorem BlkS_T {a : Nat → Nat → Int32} {W b p pt g x : Nat} {o : Int32} {sc : sc_T} {u v w : Std.Format} (hp : p < 256) (h1 : ndS a W b (sp_n 84 p (2 * g + x)) o sc) (h2 : a r_part b = nI pt) (h3 : BlkS a W u (b + 1) (nI b) 0 sc) (h4 : BlkS a W v (b + 1 + sp_z u) (nI b) 1 sc) (h5 : BlkS a W w (b + 1 + sp_z u + sp_z v) (nI b) 2 sc) : BlkS a W (.tag (sp_n 84 p (2 * g + x)) (.append u (.append v w))) b o pt sc := by
  have hss : sp_s (sp_n 84 p (2 * g + x)) = 84 := sp_s_n (by decide) hp
  unfold BlkS
  rw [hss, if_pos (by decide), if_pos rfl]
  exact ⟨⟨h1, Or.inr h2, fun q => absurd q (by decide)⟩, h3, h4, h5⟩
end TJ
