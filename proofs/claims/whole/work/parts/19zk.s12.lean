section SZ
variable {d n : Nat} {P : pv_R} {m0 : Nat → Int32} {a0 : Nat → Nat → Int32} {tx : Nat → Int32}
theorem cxR_rows {a a' : Nat → Nat → Int32} {b : Nat} (h1 : a' r_open = a r_open) (h2 : a' r_sort = a r_sort) (h3 : a' r_label = a r_label) : ∀ cx : cx_T, cxR a b cx → cxR a' b cx := by
  intro cx
  induction cx with
  | nil => intro _; trivial
  | cons q r ih =>
    obtain ⟨i, s, l⟩ := q
    intro hc
    obtain ⟨hc, h7⟩ := hc
    refine ⟨?_, ih h7⟩
    rw [h1, h2, h3]
    exact hc
theorem gvA_fn (a : Nat → Nat → Int32) (b V u s : Nat) (f : Int32) {j : Nat} (h : ¬ (j = 7 ∨ j = 10 ∨ j = 20 ∨ j = 21 ∨ j = 22 ∨ j = 23 ∨ j = 24)) : gvA a b V u s f j = a j := funext fun i => gvA_row a b V u s f (by omega) ⟨by omega, by omega, by omega, by omega, by omega, by omega⟩
theorem k_given (e : Nat) {a a1 : Nat → Nat → Int32} {m1 : Nat → Int32} {cx : cx_T} {b p V : Nat} {sc : sc_T} {s x pt : Nat} (hx : x < 4) (hs : s = 36 ∨ s = 37) (g pt' : Int32) (hc : sp_c tx n p = nI s) (h : kSt n m0 a0 tx a m1 a1 cx b p V sc s x pt)
    (hpost : sPost (d + 10) n P m0 a0 tx a cx b V sc (oOf cx) pt (if V = 12 then .inl p
        else if sp_nm (sp_c tx n (sp_x tx n (p + 1))) ∧ nmOf sc (sp_c tx n (sp_x tx n (p + 1)) - 97).toNatClampNeg = -1 then
          st_x tx n 59 (sp_x tx n (sp_x tx n (p + 1) + 1)) fun q => .inr (q, V + 1, ((sp_c tx n (sp_x tx n (p + 1)) - 97).toNatClampNeg, V) :: sc, .tag (sp_n s p (2 * (V + 1 + 16 * (sp_c tx n (sp_x tx n (p + 1)) - 97).toNatClampNeg) + x / 2)) .nil)
        else .inl (sp_x tx n (p + 1)))) : pv_go rq_T26 3 (pv_call rq_mt (e + 5)) (HdP (d + 10) P n) (288, sL6 g pt' (nI s) 1 0 (nI b), [], rs m1 a1) := by
  obtain ⟨⟨hM, hG⟩, ⟨hR, hat⟩, ⟨hN, -⟩, hF, hb⟩ := h
  have hn : n ≤ 240 := hR.2.2.2.1.1
  have hpn : p < n := sp_c_lt hc (nI_m1 (by omega))
  have x1 := sp_x_le (tx := tx) (n := n) (p := p + 1) (by omega)
  obtain ⟨⟨⟨r1, r2⟩, ⟨r3, r4⟩, r5, r6, r7⟩, r8, ⟨⟨r11, r12⟩, ⟨r13, r14⟩, r15⟩, r16, r19, ⟨r20, r20'⟩, r21⟩ := hR
  have hRR : sRI tx n m1 a1 cx (b + 1) p V sc 0 := ⟨⟨⟨r1, r2⟩, ⟨r3, r4⟩, r5, r6, r7⟩, r8, ⟨⟨r11, r12⟩, ⟨r13, r14⟩, r15⟩, r16, r19, ⟨r20, r20'⟩, r21⟩
  refine rs_doGiven (e + 4) m1 a1 g pt' (nI s) (nI b) (by rcases hs with rfl | rfl <;> decide) _ ?_
  refine rc_readGiven (e + 1) m1 a1 hn hpn hat r1 r2 (by omega) r21 r5 r20 r6 (nI s) _ (fun h12 => ?_) (fun hV hbad => ?_) (fun hV u hu hu2 hnm hnu hq1 => ?_)
  · rw [if_pos h12] at hpost
    exact ⟨rfl, fSt_P ⟨⟨Ms_upd hM _ (by decide), hG, r19⟩, ⟨rfl, by omega⟩, sc.length, by omega, r6⟩ hpost⟩
  · rw [sRI_nx hRR, sRI_ch hRR] at hbad
    rw [sRI_nx hRR]
    rw [if_neg (by omega)] at hpost
    have hb2 : ¬ (sp_nm (sp_c tx n (sp_x tx n (p + 1))) ∧ nmOf sc (sp_c tx n (sp_x tx n (p + 1)) - 97).toNatClampNeg = -1) := by
      intro q
      obtain ⟨u, hu, -, hu3, -⟩ := nm_u q.1
      refine hbad ⟨q.1, ?_⟩
      rw [hu3] at q ⊢
      rw [r15 u hu]
      exact q.2
    rw [if_neg hb2] at hpost
    exact ⟨rfl, fSt_P ⟨⟨Ms_upd (Ms_upd hM _ (by decide)) _ (by decide), hG, r19⟩, ⟨rfl, by omega⟩, sc.length, by omega, r6⟩ hpost⟩
  · rw [sRI_nx hRR, sRI_ch hRR] at hu2 hnm
    rw [sRI_nx hRR] at hq1
    rw [sRI_nx hRR, sRI_nx hRR, sRI_ch hRR]
    have hclu : (sp_c tx n (sp_x tx n (p + 1)) - 97).toNatClampNeg = u := by rw [hu2, nI_clamp (by omega)]
    rw [if_neg (by omega), hclu, if_pos ⟨hnm, by rw [← r15 u hu]; exact hnu⟩] at hpost
    have x2 := sp_x_le (tx := tx) (n := n) (p := sp_x tx n (p + 1) + 1) (by omega)
    have hvO : vOK (gvA a1 b V u sc.length (if nI s = 37 then 1 else 0)) := gvA_vOK b _ hV hu r19
    have hFs : Fs a (gvA a1 b V u sc.length (if nI s = 37 then 1 else 0)) b cx.length V sc.length := Fs_trans hF (gvA_Fs a1 b V u sc.length _ cx.length) (Nat.le_refl _) (Nat.le_refl _) (Nat.le_refl _) (Nat.le_refl _)
    have hG2 : Fg a0 (gvA a1 b V u sc.length (if nI s = 37 then 1 else 0)) := Fg_Fs hG (gvA_Fs a1 b V u sc.length _ 0)
    obtain ⟨⟨⟨v1, v2⟩, v3, v4⟩, ⟨v5, v6⟩, v7⟩ := gvA_vals a1 b V u sc.length (if nI s = 37 then 1 else 0)
    refine ⟨fun hq => ?_, fun hq => ?_⟩
    · have hpost : sPost (d + 10) n P m0 a0 tx a cx b V sc (oOf cx) pt (.inr (sp_x tx n (sp_x tx n (sp_x tx n (p + 1) + 1) + 1), V + 1, (u, V) :: sc, .tag (sp_n s p (2 * (V + 1 + 16 * u) + x / 2)) .nil)) := by
        have h := hpost
        unfold st_x at h
        simp only [hq, if_true] at h
        exact h
      have hq3 := sp_c_lt hq (by decide)
      have hsc' : scR (gvA a1 b V u sc.length (if nI s = 37 then 1 else 0)) ((u, V) :: sc) := ⟨⟨v6, v2⟩, scR_gv b _ sc (Nat.le_refl _) r20' r13⟩
      have hth := thr_sc ((u, V) :: sc) hsc'
      refine ⟨rfl, rfl, _, _, rfl, hpost _ _ (Ms_upd (Ms_upd (Ms_upd hM _ (by decide)) _ (by decide)) _ (by decide)) hG2 ?_ hFs ?_⟩
      · refine ⟨⟨⟨r1, r2⟩, ⟨r3, r4⟩, rfl, rfl, r7⟩, ⟨_, rfl, by omega, rfl⟩, ⟨⟨cxR_rows (gvA_fn _ _ _ _ _ _ (j := 37) (by omega)) (gvA_fn _ _ _ _ _ _ (j := 3) (by omega)) (gvA_fn _ _ _ _ _ _ (j := 11) (by omega)) cx r11, r12⟩, ⟨hsc', ⟨⟨by rw [← r15 u hu]; exact hnu, hu, hV⟩, r14⟩⟩, fun w hw => ?_⟩, ⟨hn, ?_, ?_⟩, hvO, ⟨by show sc.length + 1 ≤ V + 1; omega, fun q hq => ?_⟩, by omega⟩
        · show _ = (if w = u then nI V else nmOf sc w)
          by_cases ew : w = u
          · rw [if_pos ew, ew]; exact v5
          · rw [if_neg ew, gvA_nm _ _ _ _ _ _ ew]; exact r15 w hw
        · unfold r_tx
          rw [gvA_fn _ _ _ _ _ _ (j := r_row) (by decide)]
          exact r16.2.1
        · rw [gvA_fn _ _ _ _ _ _ (j := r_row) (by decide)]
          exact r16.2.2
        · rcases List.mem_cons.mp hq with rfl | hq
          · exact Nat.lt_succ_self _
          · exact Nat.lt_succ_of_lt (r20' q hq)
      · have hs256 : s < 256 := by omega
        have hp256 : p < 256 := by omega
        have hss := sp_s_n (s := s) (f := p) (v := 2 * (V + 1 + 16 * u) + x / 2) hs256 hp256
        have hff := sp_f_n (s := s) (f := p) (v := 2 * (V + 1 + 16 * u) + x / 2) hs256 hp256
        have hvv := sp_v_n (s := s) (f := p) (v := 2 * (V + 1 + 16 * u) + x / 2) hs256 hp256
        have e1 : (2 * (V + 1 + 16 * u) + x / 2) / 2 = V + 1 + 16 * u := by omega
        have e2 : (V + 1 + 16 * u) % 16 = V + 1 := by omega
        have e3 : (V + 1 + 16 * u) / 16 = u := by omega
        have e4 : (2 * (V + 1 + 16 * u) + x / 2) % 2 = x / 2 := by omega
        obtain ⟨⟨⟨n1, n2⟩, ⟨n3, n4⟩, n5, n6⟩, ⟨⟨n7, n8⟩, n10, n11⟩, n12⟩ := hN
        refine BlkS_tag (by rw [hss]; unfold stS; omega) (by rw [hss]; omega) (by rw [hss]; omega) ?_ ?_ trivial
        · unfold ndS sp_pl sp_en
          rw [hss, hff, hvv, e1, e2, e3, e4, show V + 1 - 1 = V by omega]
          refine ⟨⟨⟨?_, ?_⟩, ⟨?_, ?_⟩, ?_, ?_⟩, fun _ => ⟨⟨by omega, by omega⟩, ⟨v1, ?_⟩, v2, ?_, v4⟩, fun q => absurd hs q, fun q => by omega, fun q => by omega⟩
          · rw [gvA_fn _ _ _ _ _ _ (j := r_sort) (by decide)]; exact n1
          · rw [gvA_fn _ _ _ _ _ _ (j := r_first) (by decide)]; exact n2
          · rw [gvA_fn _ _ _ _ _ _ (j := r_around) (by decide)]; exact n3
          · rw [gvA_fn _ _ _ _ _ _ (j := r_isStmt) (by decide)]; exact n6
          · rw [gvA_fn _ _ _ _ _ _ (j := r_thereBefore) (by decide)]; exact n7
          · rw [gvA_fn _ _ _ _ _ _ (j := r_isMarked) (by decide)]; exact n11
          · rw [v7]; exact hth
          · rw [v3]
            rcases hs with rfl | rfl <;> decide
        · rw [gvA_fn _ _ _ _ _ _ (j := r_part) (by decide)]; exact n4
    · have hpost : sFk P m0 a0 (sp_x tx n (sp_x tx n (p + 1) + 1)) := by
        have h := hpost
        unfold st_x at h
        simp only [hq, if_false] at h
        exact h
      exact ⟨rfl, fSt_P ⟨⟨Ms_upd (Ms_upd (Ms_upd (Ms_upd hM _ (by decide)) _ (by decide)) _ (by decide)) _ (by decide), hG2, hvO⟩, ⟨rfl, by omega⟩, sc.length + 1, by omega, rfl⟩ hpost⟩
end SZ
