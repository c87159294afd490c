theorem lb_u {c : Int32} (h : sp_lb c) : ∃ l, 50 ≤ l ∧ l ≤ 57 ∧ c = nI l := by
  obtain ⟨j, hj, rfl⟩ := nI_of (x := c) (fun q => by
    have a1 := Int32.le_iff_toInt_le.mp h.1
    have a2 := Int32.lt_iff_toInt_lt.mp q
    have e1 : (50 : Int32).toInt = 50 := by decide
    have e2 : (0 : Int32).toInt = 0 := by decide
    omega)
  exact ⟨j, (nI_leI (a := 50) (by omega) hj).mp h.1, (nI_leI (b := 57) hj (by omega)).mp h.2, rfl⟩
section TA
variable {d n : Nat} {P : pv_R} {m0 : Nat → Int32} {a0 : Nat → Nat → Int32} {tx : Nat → Int32}
theorem cx_open {a : Nat → Nat → Int32} {b : Nat} (hb : b ≤ 260) : ∀ cx : cx_T, cxR a b cx → ∀ i, i < cx.length → ∃ x, x < 260 ∧ a r_open i = nI x := by
  intro cx
  induction cx with
  | nil => intro _ i hi; exact absurd hi (by simp)
  | cons q r ih =>
    obtain ⟨x, s, m⟩ := q
    intro hc i hi
    have hi : i < r.length + 1 := hi
    by_cases e : i = r.length
    · rw [e]; exact ⟨x, by have := hc.1.1.2; omega, hc.1.1.1⟩
    · exact ih hc.2 i (by omega)
theorem cx_to_le {a : Nat → Nat → Int32} {b j l : Nat} : ∀ (cx : cx_T) (w : Nat), cxR a b cx → w ≤ b → cx_to j l w cx ≤ b := by
  intro cx
  induction cx with
  | nil => intro w _ _; exact Nat.zero_le _
  | cons q r ih =>
    obtain ⟨i, s, m⟩ := q
    intro w hc hw
    have hi := hc.1.1.2
    unfold cx_to
    split
    · split <;> omega
    · exact ih _ hc.2 (by split <;> omega)
theorem cx_near_le {a : Nat → Nat → Int32} {b j : Nat} : ∀ (cx : cx_T), cxR a b cx → cx_near j cx ≤ b := by
  intro cx
  induction cx with
  | nil => intro _; exact Nat.zero_le _
  | cons q r ih =>
    obtain ⟨i, s, m⟩ := q
    intro hc
    have hi := hc.1.1.2
    unfold cx_near
    split
    · omega
    · exact ih hc.2
theorem ofN_m1 {x : Nat} (hx : x ≤ 300) : ofN x = -1 ↔ x = 0 := by
  cases x with
  | zero => exact ⟨fun _ => rfl, fun _ => rfl⟩
  | succ i => exact ⟨fun q => absurd q (nI_m1 (by omega)), fun q => by omega⟩
theorem sRI_row {m' : Nat → Int32} {a : Nat → Nat → Int32} {cx : cx_T} {b p' V : Nat} {sc : sc_T} {e : Int32} {j : Nat} (i : Nat) (y : Int32) (h : sRI tx n m' a cx b p' V sc e) (hj : (4 ≤ j ∧ j ≤ 10) ∨ (12 ≤ j ∧ j ≤ 17) ∨ j = 38 ∨ j = 39 ∨ j = 42) : sRI tx n m' (up2 a j i y) cx b p' V sc e := by
  have e2 : ∀ k, ¬ k = j → up2 a j i y k = a k := fun k hk => funext fun i' => up2_ne _ _ (fun q => hk q.1)
  obtain ⟨r1, r8, ⟨⟨r11, r12⟩, ⟨r13, r14⟩, r15⟩, ⟨r16, r17, r18⟩, r19, r20⟩ := h
  have es : up2 a j i y r_scope = a r_scope := e2 24 (by omega)
  have en : up2 a j i y r_nameOf = a r_nameOf := e2 20 (by omega)
  refine ⟨r1, r8, ⟨⟨cxR_rows (e2 37 (by omega)) (e2 3 (by omega)) (e2 11 (by omega)) cx r11, r12⟩, ⟨?_, r14⟩, fun w hw => ?_⟩, ⟨r16, ?_, ?_⟩, ?_, r20⟩
  · have key : ∀ s : sc_T, scR a s → scR (up2 a j i y) s := by
      intro s
      induction s with
      | nil => intro _; trivial
      | cons q r ih =>
        obtain ⟨u, v⟩ := q
        intro hs
        refine ⟨?_, ih hs.2⟩
        rw [es, en]
        exact hs.1
    exact key sc r13
  · rw [e2 r_named (show ¬ 23 = j by omega)]; exact r15 w hw
  · unfold r_tx; rw [e2 r_row (show ¬ 0 = j by omega)]; exact r17
  · rw [e2 r_row (show ¬ 0 = j by omega)]; exact r18
  · unfold vOK; rw [es, en]; exact r19
theorem k_jump (e : Nat) {a a1 : Nat → Nat → Int32} {m1 : Nat → Int32} {cx : cx_T} {b p V : Nat} {sc : sc_T} {s x pt : Nat} (hx : x < 4) (hs : s = 66 ∨ s = 67) (g pt' : Int32) (hU : cxU cx) (hc : sp_c tx n p = nI s) (h : kSt n m0 a0 tx a m1 a1 cx b p V sc s x pt)
    (hpost : sPost (d + 10) n P m0 a0 tx a cx b V sc (oOf cx) pt (if sp_lb (sp_c tx n (sp_x tx n (p + 1))) then
          if cx_to s (sp_c tx n (sp_x tx n (p + 1))).toNatClampNeg 0 cx = 0 then .inl (sp_x tx n (p + 1))
          else st_x tx n 59 (sp_x tx n (sp_x tx n (p + 1) + 1)) fun q => .inr (q, V, sc, .tag (sp_n s p (2 * cx_to s (sp_c tx n (sp_x tx n (p + 1))).toNatClampNeg 0 cx + x / 2)) .nil)
        else if cx_near s cx = 0 then .inl (sp_x tx n (p + 1))
        else st_x tx n 59 (sp_x tx n (p + 1)) fun q => .inr (q, V, sc, .tag (sp_n s p (2 * cx_near s cx + x / 2)) .nil))) : pv_go rq_T26 3 (pv_call rq_mt (e + 5)) (HdP (d + 10) P n) (288, sL6 g pt' (nI s) 1 0 (nI b), [], rs m1 a1) := by
  obtain ⟨⟨hM, hG⟩, ⟨hR, hat⟩, ⟨hN, -⟩, hF, hb⟩ := h
  have hn : n ≤ 240 := hR.2.2.2.1.1
  have hpn : p < n := sp_c_lt hc (nI_m1 (by omega))
  have x1 := sp_x_le (tx := tx) (n := n) (p := p + 1) (by omega)
  have hcx := hR.2.2.1.1.1
  have hcl := hR.2.2.1.1.2
  have hnx := fun q => sRI_nx hR q
  have hch := fun q => sRI_ch hR q
  have hs256 : s < 256 := by omega
  have hsI : (nI s = 66 ∨ nI s = 67) := by rcases hs with rfl | rfl <;> decide
  -- the outcome: a target T, 0: none
  have fin : ∀ (T q : Nat) (m2 : Nat → Int32), Ms m0 m2 → ¬ T = 0 → T ≤ b + 1 → sRI tx n m2 a1 cx (b + 1) q V sc 0 → sPost (d + 10) n P m0 a0 tx a cx b V sc (oOf cx) pt (.inr (q, V, sc, .tag (sp_n s p (2 * T + x / 2)) .nil)) → HdP (d + 10) P n none (rs m2 (up2 a1 r_target b (ofN T))) := by
    intro T q m2 hM2 hT hTb hR2 hp2
    have hss := sp_s_n (s := s) (f := p) (v := 2 * T + x / 2) hs256 (by omega)
    have hff := sp_f_n (s := s) (f := p) (v := 2 * T + x / 2) hs256 (by omega)
    have hvv := sp_v_n (s := s) (f := p) (v := 2 * T + x / 2) hs256 (by omega)
    have hFs : Fs a (up2 a1 r_target b (ofN T)) b cx.length V sc.length := Fs_nd hF _ (by decide) (Nat.le_refl _)
    have hFg : Fg a0 (up2 a1 r_target b (ofN T)) := Fg_Fs hG (Fs_nd (Fs_refl a1 b 0 0 0) _ (by decide) (Nat.le_refl _))
    obtain ⟨⟨⟨n1, n2⟩, ⟨n3, n4⟩, n5, n6⟩, ⟨⟨n7, n8⟩, n10, n11⟩, n12⟩ := hN
    refine ⟨rfl, _, _, rfl, hp2 m2 _ hM2 hFg (sRI_row b (ofN T) hR2 (Or.inr (Or.inl (by decide)))) hFs ?_⟩
    refine BlkS_tag (by rw [hss]; unfold stS; omega) (by rw [hss]; omega) (by rw [hss]; omega) ?_ ((up2_ne _ _ (fun q => absurd q.1 (by decide))).trans n4) trivial
    unfold ndS sp_pl sp_en
    rw [hss, hff, hvv, show (2 * T + x / 2) / 2 = T by omega, show (2 * T + x / 2) % 2 = x / 2 by omega]
    refine ⟨⟨⟨(up2_ne _ _ (fun q => absurd q.1 (by decide))).trans n1, (up2_ne _ _ (fun q => absurd q.1 (by decide))).trans n2⟩, ⟨(up2_ne _ _ (fun q => absurd q.1 (by decide))).trans n3, (up2_ne _ _ (fun q => absurd q.1 (by decide))).trans n6⟩, (up2_ne _ _ (fun q => absurd q.1 (by decide))).trans n7, (up2_ne _ _ (fun q => absurd q.1 (by decide))).trans n11⟩, fun q => by omega, fun _ => ⟨(up2_ne _ _ (fun q => absurd q.1 (by decide))).trans n5, (up2_ne _ _ (fun q => absurd q.1 (by decide))).trans n8⟩, fun _ => ⟨by omega, ?_⟩, fun q => by omega⟩
    rw [up2_eq]
    obtain ⟨T', rfl⟩ : ∃ T', T = T' + 1 := ⟨T - 1, by omega⟩
    rfl
  have bad : ∀ (y : Int32) (q : Nat) (m2 : Nat → Int32), Ms m0 m2 → m2 r_wrong = nI q → q ≤ 240 → m2 r_scopes = nI sc.length → sFk P m0 a0 q → HdP (d + 10) P n none (rs m2 (up2 a1 r_target b y)) := by
    intro y q m2 hM2 hw hq hs2 hp2
    have hFg : Fg a0 (up2 a1 r_target b y) := Fg_Fs hG (Fs_nd (Fs_refl a1 b 0 0 0) _ (by decide) (Nat.le_refl _))
    have hv : vOK (up2 a1 r_target b y) := hR.2.2.2.2.1
    exact fSt_P ⟨⟨hM2, hFg, hv⟩, ⟨hw, hq⟩, sc.length, sRI_len hR, hs2⟩ hp2
  have R1 : sRI tx n (upd m1 r_at (nI (sp_x tx n (p + 1) + 1))) a1 cx (b + 1) (sp_x tx n (sp_x tx n (p + 1) + 1)) V sc 0 ∨ ¬ sp_x tx n (p + 1) < n := by
    by_cases q : sp_x tx n (p + 1) < n
    · exact Or.inl (sRI_at hR (by omega))
    · exact Or.inr q
  have hnear := tgN_cx (j := s) hs256 (by omega) cx hcx
  have hnle := cx_near_le (j := s) cx hcx
  refine rs_doJump (e + 4) m1 a1 g pt' (nI s) (nI b) hsI _ ?_
  refine rc_readJump (e + 1) m1 a1 hn hpn hat hR.1.1.1 hR.1.1.2 (by omega) hcl hR.1.2.1.1 (cx_open (by omega) cx hcx) hN.2.1.2.1 (nI s) _ (fun hl hT hq => ?_) (fun hl hT hq => ?_) (fun hl hT => ?_) (fun hl hT hq => ?_) (fun hl hT => ?_)
  all_goals rw [hnx, hch] at hl
  all_goals simp only [hnx, hch] at *
  · obtain ⟨l, hl1, hl2, hl3⟩ := lb_u hl
    have hle := cx_to_le (j := s) (l := l) cx 0 hcx (Nat.zero_le _)
    have htg := tgL_cx (a := a1) (b := b + 1) (l := l) (K := cx.length) (j := s) (by omega) (by omega) hs256 (by omega) cx 0 (Nat.le_refl _) hcx hU ⟨fun q => absurd rfl q, fun q => absurd q.1 (Nat.lt_irrefl _)⟩ (fun q => absurd rfl q)
    rw [hl3] at hT ⊢
    rw [htg, ofN_m1 (by omega)] at hT
    rw [htg]
    rw [if_pos hl, hl3, nI_clamp (by omega), if_neg hT] at hpost
    have hpost : sPost (d + 10) n P m0 a0 tx a cx b V sc (oOf cx) pt (.inr (sp_x tx n (sp_x tx n (sp_x tx n (p + 1) + 1) + 1), V, sc, .tag (sp_n s p (2 * cx_to s l 0 cx + x / 2)) .nil)) := by
      have h := hpost
      unfold st_x at h
      simp only [hq, if_true] at h
      exact h
    have hq3 := sp_c_lt hq (by decide)
    exact ⟨trivial, fin _ _ _ (Ms_upd hM _ (by decide)) hT hle (sRI_at hR (by omega)) hpost⟩
  · obtain ⟨l, hl1, hl2, hl3⟩ := lb_u hl
    have hle := cx_to_le (j := s) (l := l) cx 0 hcx (Nat.zero_le _)
    have htg := tgL_cx (a := a1) (b := b + 1) (l := l) (K := cx.length) (j := s) (by omega) (by omega) hs256 (by omega) cx 0 (Nat.le_refl _) hcx hU ⟨fun q => absurd rfl q, fun q => absurd q.1 (Nat.lt_irrefl _)⟩ (fun q => absurd rfl q)
    rw [hl3] at hT ⊢
    rw [htg, ofN_m1 (by omega)] at hT
    rw [if_pos hl, hl3, nI_clamp (by omega), if_neg hT] at hpost
    have hpost : sFk P m0 a0 (sp_x tx n (sp_x tx n (p + 1) + 1)) := by
      have h := hpost
      unfold st_x at h
      simp only [hq, if_false] at h
      exact h
    have hq2 : sp_x tx n (p + 1) < n := sp_c_lt rfl (sp_lb_c hl)
    have x2 := sp_x_le (tx := tx) (n := n) (p := sp_x tx n (p + 1) + 1) (by omega)
    exact ⟨trivial, bad _ _ _ (Ms_upd (Ms_upd hM _ (by decide)) _ (by decide)) rfl (by omega) hR.1.2.2.2.1 hpost⟩
  · obtain ⟨l, hl1, hl2, hl3⟩ := lb_u hl
    have hle := cx_to_le (j := s) (l := l) cx 0 hcx (Nat.zero_le _)
    have htg := tgL_cx (a := a1) (b := b + 1) (l := l) (K := cx.length) (j := s) (by omega) (by omega) hs256 (by omega) cx 0 (Nat.le_refl _) hcx hU ⟨fun q => absurd rfl q, fun q => absurd q.1 (Nat.lt_irrefl _)⟩ (fun q => absurd rfl q)
    rw [hl3] at hT ⊢
    rw [htg, ofN_m1 (by omega)] at hT
    rw [if_pos hl, hl3, nI_clamp (by omega), if_pos hT] at hpost
    exact ⟨trivial, bad _ _ _ (Ms_upd (Ms_upd hM _ (by decide)) _ (by decide)) rfl (by omega) hR.1.2.2.2.1 hpost⟩
  · rw [hnear, ofN_m1 (by omega)] at hT
    rw [hnear]
    rw [if_neg hl, if_neg hT] at hpost
    have hpost : sPost (d + 10) n P m0 a0 tx a cx b V sc (oOf cx) pt (.inr (sp_x tx n (sp_x tx n (p + 1) + 1), V, sc, .tag (sp_n s p (2 * cx_near s cx + x / 2)) .nil)) := by
      have h := hpost
      unfold st_x at h
      simp only [hq, if_true] at h
      exact h
    have hq3 := sp_c_lt hq (by decide)
    exact ⟨trivial, fin _ _ _ (Ms_upd hM _ (by decide)) hT hnle (sRI_at hR (by omega)) hpost⟩
  · rw [hnear, ofN_m1 (by omega)] at hT
    rw [if_neg hl] at hpost
    have hpost : sFk P m0 a0 (sp_x tx n (p + 1)) := by
      rcases hT with hT | hT
      · rw [if_pos hT] at hpost; exact hpost
      · by_cases hz : cx_near s cx = 0
        · rw [if_pos hz] at hpost; exact hpost
        · rw [if_neg hz] at hpost
          have h := hpost
          unfold st_x at h
          simp only [hT, if_false] at h
          exact h
    exact ⟨trivial, bad _ _ _ (Ms_upd (Ms_upd hM _ (by decide)) _ (by decide)) rfl (by omega) hR.1.2.2.2.1 hpost⟩
end TA
