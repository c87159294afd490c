section TC
variable {d n : Nat} {P : pv_R} {m0 : Nat → Int32} {a0 : Nat → Nat → Int32} {tx : Nat → Int32}
theorem Hd_pre {m : Nat → Int32} {a : Nat → Nat → Int32} {cx : cx_T} {b s l B p V : Nat} {sc : sc_T} {e : Int32} (h : sRI tx n m a ((b, s, l) :: cx) B p V sc e) (hb : b < 260) (pc : Nat) (hpc : pc = (if s = 58 then 103 else if s = 68 then 221 else if s = 70 then 148 else if s = 73 then 139 else if s = 83 then 278 else if s = 87 then 148 else if s = 123 then 88 else 287)) (hg : pv_go rq_T33 3 (pv_call rq_mt (d + 9)) (HdP (d + 10) P n) (pc, tL cx.length b, [], rs m a)) : Hd (d + 10) P n m a := by
  have hcl : cx.length + 1 ≤ 20 := h.2.2.1.1.2
  have hc := h.2.2.1.1.1.1
  refine Hd_step (d + 9) P n m a h.1.1.2 (k := cx.length) (by omega) h.1.2.1.1 ?_
  refine rc_step_pre (d + 9) m a (by omega) h.1.2.1.1 hc.1.1 hb hc.2.1.1 hc.2.1.2 _ (fun pc' hpc' => ?_)
  rw [hpc', ← hpc]
  exact hg
theorem rd_list (dd : Nat) {m : Nat → Int32} {a : Nat → Nat → Int32} {cx : cx_T} {b s l B p V : Nat} {ext sc : sc_T} {e : Int32} (hM : Ms m0 m) (hG : Fg a0 a) (h : sRI tx n m a ((b, s, l) :: cx) B p V (ext ++ sc) e) (hmk : a r_mark cx.length = nI sc.length) (pt : Int32) (Q : pv_R)
    (h1 : sp_c tx n p = 125 → ∀ m' a', Ms m0 m' → Fg a0 a' → sRI tx n m' a' ((b, s, l) :: cx) B (sp_x tx n (p + 1)) V sc e → (∀ b k V s, Fs a a' b k V s) → Q (some (.int 1)) (rs m' a'))
    (h2 : ¬ sp_c tx n p = 125 → ∀ m', Ms m0 m' → sRI tx n m' a ((b, s, l) :: cx) B p V (ext ++ sc) e → pv_call rq_mt (dd + 2) rq_m_R_readStmt [.ref 0, .int 1, .int pt] (rs m' a) (fun o S => o = none ∧ Q (some (.int 0)) S)) : pv_call rq_mt (dd + 3) rq_m_R_readList [.ref 0, .int pt] (rs m a) Q := by
  have hl := sRI_len h
  have hp := sRI_p h
  have hcl : cx.length + 1 ≤ 20 := h.2.2.1.1.2
  have hsc : m r_scopes = nI (sc.length + ext.length) := by rw [h.1.2.2.2.1, List.length_append, Nat.add_comm]
  rw [List.length_append] at hl
  obtain ⟨p0, k1, k2, k3⟩ := h.2.1
  have hv1 := h.2.2.2.2.1.1
  have hv2 := h.2.2.2.2.1.2
  refine rc_readList dd m a h.2.2.2.1.1 k2 k1 h.1.1.1 (k := cx.length) (t := sc.length) (j := ext.length) (by omega) h.1.2.1.1 hmk (by omega) hsc hv1 hv2 pt Q (fun hc => ?_) (fun hc => ?_)
  · rw [sRI_nx h, k3] at hc ⊢
    rw [sRI_ch h] at hc
    have hlt := sp_c_lt hc (by decide)
    exact h1 hc _ _ (Ms_upd (Ms_upd hM _ (by decide)) _ (by decide)) (Fg_Fs hG (Fs_all a _ 0 0 0 0)) (cl_sRI h (by omega)) (Fs_all a _)
  · rw [sRI_nx h, k3] at hc ⊢
    rw [sRI_ch h] at hc
    refine h2 hc _ (Ms_upd hM _ (by decide)) ?_
    have := sRI_at h hp.1
    rw [hp.2] at this
    exact this
/-- a stmt that is open -/
def oSt (n : Nat) (m0 : Nat → Int32) (a0 : Nat → Nat → Int32) (tx : Nat → Int32) (a : Nat → Nat → Int32) (m2 : Nat → Int32) (a2 : Nat → Nat → Int32) (cx : cx_T) (b p V : Nat) (sc : sc_T) (s l x pt p1 : Nat) : Prop := (Ms m0 m2 ∧ Fg a0 a2) ∧ sRI tx n m2 a2 ((b, s, l) :: cx) (b + 1) p1 V sc 0 ∧ (a2 r_state cx.length = 0 ∧ a2 r_mark cx.length = nI sc.length) ∧ nd1 a2 b (nI s) (nI p) (thOf sc) (oOf cx) (nI pt) (nI (x / 2)) ∧ Fs a a2 b cx.length V sc.length
theorem k_open (e : Nat) {a a1 : Nat → Nat → Int32} {m1 : Nat → Int32} {cx : cx_T} {b p V : Nat} {sc : sc_T} {s x pt : Nat} (hk : cx.length < 20) (hs : s < 256) (hsp : ¬ (s = 36 ∨ s = 37) ∧ ¬ (s = 66 ∨ s = 67) ∧ ¬ (s = 82 ∨ s = 88) ∧ ¬ (50 ≤ s ∧ s ≤ 57)) (g pt' : Int32) (hc : sp_c tx n p = nI s) (h : kSt n m0 a0 tx a m1 a1 cx b p V sc s x pt) (hH : ∀ m2 a2, oSt n m0 a0 tx a m2 a2 cx b p V sc s 0 x pt (sp_x tx n (p + 1)) → Hd (d + 10) P n m2 a2) : pv_go rq_T26 3 (pv_call rq_mt (e + 5)) (HdP (d + 10) P n) (288, sL6 g pt' (nI s) 1 0 (nI b), [], rs m1 a1) := by
  obtain ⟨⟨hM, hG⟩, ⟨hR, hat⟩, ⟨hN, hlb⟩, hF, hb⟩ := h
  have hn : n ≤ 240 := hR.2.2.2.1.1
  have hpn : p < n := sp_c_lt hc (nI_m1 (by omega))
  have ne : ∀ y : Nat, y < 256 → ¬ s = y → ¬ nI s = nI y := fun y hy hne q => hne ((nI_eq (by omega) (by omega)).mp q)
  refine rs_doOpen (e + 4) m1 a1 g pt' (nI s) (nI b) ⟨fun q => q.elim (ne 36 (by decide) (by omega)) (ne 37 (by decide) (by omega)), fun q => q.elim (ne 66 (by decide) (by omega)) (ne 67 (by decide) (by omega)), fun q => q.elim (ne 82 (by decide) (by omega)) (ne 88 (by decide) (by omega)), fun q => hsp.2.2.2 ⟨(nI_leI (a := 50) (by omega) (by omega)).mp q.1, (nI_leI (b := 57) (by omega) (by omega)).mp q.2⟩⟩ _ ?_
  rw [hat, nI_1]
  refine rd_begin (e + 4) (m0 := m0) (a0 := a0) (Ms_upd hM _ (by decide)) hG (sRI_at hR (by omega)) hk hN.1.1.1 hs (l := 0) (by rw [hlb]; decide) (by decide) _ (fun m' a' k1 k2 k3 k4 k5 => ⟨rfl, rfl, m', a', rfl, hH m' a' ⟨⟨k1, k2⟩, k3, k5, ?_, ?_⟩⟩)
  · exact nd1_Fs (k4 (b + 1) 0 0) (by omega) hN
  · exact Fs_trans hF (k4 b V sc.length) (Nat.le_refl _) (Nat.le_refl _) (Nat.le_refl _) (Nat.le_refl _)
theorem HdP_cm {D dd : Nat} {j : Nat} {As : List Value} {S : pv_S} {Q : pv_R} (hQ : ∀ m a, Hd D P n m a → Q none (rs m a)) (h : pv_call rq_mt dd j As S (HdP D P n)) : pv_call rq_mt dd j As S (fun o S => o = none ∧ Q none S) := by
  refine pv_call_cm rq_mt dd _ _ _ _ _ ?_ h
  intro o S hS
  obtain ⟨rfl, m, a, rfl, hS⟩ := hS
  exact ⟨rfl, hQ m a hS⟩
theorem k_block {f : Nat} (i1 : sT1 (d + 10) n P m0 a0 tx f) (e : Nat) {a a1 : Nat → Nat → Int32} {m1 : Nat → Int32} {cx : cx_T} {b p V : Nat} {sc : sc_T} {x pt : Nat} (hx : x < 4) (hk : cx.length < 20) (hU : cxU cx) (hf : 2 * (n - p) + 1 < f + 1) (g pt' : Int32) (hc : sp_c tx n p = 123) (h : kSt n m0 a0 tx a m1 a1 cx b p V sc 123 x pt)
    (hpost : sPost (d + 10) n P m0 a0 tx a cx b V sc (oOf cx) pt (st_b (st tx n f 1 ((b, 123, 0) :: cx) (b + 1) (sp_x tx n (p + 1)) V sc 0) fun q V1 _ t => .inr (q, V1, sc, .tag (sp_n 123 p (x / 2)) t))) : pv_go rq_T26 3 (pv_call rq_mt (e + 5)) (HdP (d + 10) P n) (288, sL6 g pt' 123 1 0 (nI b), [], rs m1 a1) := by
  have hb := h.2.2.2.2
  have hn : n ≤ 240 := h.2.1.1.2.2.2.1.1
  have hpn : p < n := sp_c_lt hc (by decide)
  have x1 := sp_x_le (tx := tx) (n := n) (p := p + 1) (by omega)
  refine k_open e hk (by decide) (by decide) g pt' hc h (fun m2 a2 ho => ?_)
  obtain ⟨⟨hM, hG⟩, hR, ⟨hst, hmk⟩, hN, hF⟩ := ho
  refine i1 m2 a2 ((b, 123, 0) :: cx) (b + 1) (sp_x tx n (p + 1)) V sc 0 ⟨⟨hM, hG⟩, hR, by omega, ⟨Or.inl rfl, hU⟩⟩ (by omega) ?_ ?_
  · intro m' a' b' p' V' ext k1 k2 k3 k4 k5 k6
    refine Hd_pre k3 (by omega) 88 rfl ?_
    have hmk' : a' r_mark cx.length = nI sc.length := (Fs_st k4 (by decide) (Nat.lt_succ_self _)).trans hmk
    refine st_88 (d + 8) m' a' _ _ _ ?_
    refine rd_list (d + 6) k1 k2 k3 hmk' 0 _ (fun q => absurd q k5) (fun _ m'' j1 j2 => ?_)
    refine pv_call_cm rq_mt _ _ _ _ _ _ ?_ (k6 m'' j1 j2 (d + 2))
    intro o S hS
    obtain ⟨rfl, m3, a3, rfl, hS⟩ := hS
    exact ⟨rfl, m3, a3, rfl, Or.inl ⟨rfl, rfl, m3, a3, rfl, hS⟩⟩
  · cases hr : st tx n f 1 ((b, 123, 0) :: cx) (b + 1) (sp_x tx n (p + 1)) V sc 0 with
    | inl q => rw [hr] at hpost; exact hpost
    | inr z =>
      obtain ⟨q, V1, sc1, t⟩ := z
      rw [hr] at hpost
      obtain ⟨⟨⟨g1, g2⟩, g3, -⟩, ⟨g4, ext, g5, -⟩, -⟩ := st_good f 1 _ _ _ _ _ _ q V1 sc1 t (by omega) x1.2 (sp_x_x (by omega)) hr
      intro m' a' p' k1 k2 k3 k4 k5 k6
      rw [g5] at k3
      refine Hd_pre k3 (by omega) 88 rfl ?_
      have hmk' : a' r_mark cx.length = nI sc.length := (Fs_st k5 (by decide) (Nat.lt_succ_self _)).trans hmk
      refine st_88 (d + 8) m' a' _ _ _ ?_
      refine rd_list (d + 6) k1 k2 k3 hmk' 0 _ (fun _ m3 a3 j1 j2 j3 j4 => ?_) (fun q => absurd k4.1 q)
      refine ⟨m3, a3, rfl, Or.inr ⟨rfl, ?_⟩⟩
      refine rd_finish (d + 7) (ext := []) j1 j2 j3 ((Fs_st (j4 0 (cx.length + 1) 0 0) (by decide) (Nat.lt_succ_self _)).trans hmk') _ (fun m5 a5 l1 l2 l3 l4 => ⟨rfl, rfl, m5, a5, rfl, ?_⟩)
      rw [← k4.2] at l3
      have hF25 : Fs a2 a5 (b + 1) (cx.length + 1) V sc.length := Fs_trans k5 (Fs_trans (j4 (b + 1) (cx.length + 1) V sc.length) (l4 (b + 1) (cx.length + 1) V sc.length) (Nat.le_refl _) (Nat.le_refl _) (Nat.le_refl _) (Nat.le_refl _)) (Nat.le_refl _) (Nat.le_refl _) (Nat.le_refl _) (Nat.le_refl _)
      refine hpost m5 a5 l1 l2 ?_ (Fs_trans hF hF25 (by omega) (by omega) (Nat.le_refl _) (Nat.le_refl _)) ?_
      · rw [show b + sp_z (.tag (sp_n 123 p (x / 2)) t) = b + 1 + sp_z t by simp only [sp_z]; omega]
        exact l3
      · have hss : sp_s (sp_n 123 p (x / 2)) = 123 := sp_s_n (by decide) (by omega)
        have hN' := nd1_Fs hF25 (by omega) hN
        refine BlkS_tag (by rw [hss]; decide) (by rw [hss]; decide) (by rw [hss]; decide) (nd1_S (by decide) (by omega) (by omega) rfl (by decide) hN') hN'.1.2.1.2 ?_
        rw [hss, if_pos rfl]
        exact BlkS_mono (Fs_trans (j4 (b + 1 + sp_z t) 0 V1 0) (l4 (b + 1 + sp_z t) 0 V1 0) (Nat.le_refl _) (Nat.le_refl _) (Nat.le_refl _) (Nat.le_refl _)) (Nat.le_refl _) (Nat.le_refl _) _ t (Nat.lt_succ_self _) _ _ _ _ (Nat.le_refl _) k6
end TC
