section SX
variable {d n : Nat} {P : pv_R} {m0 : Nat → Int32} {a0 : Nat → Nat → Int32} {tx : Nat → Int32}
/-- a stmt whose node is made: b, at its first sign p -/
def kSt (n : Nat) (m0 : Nat → Int32) (a0 : Nat → Nat → Int32) (tx : Nat → Int32) (a : Nat → Nat → Int32) (m1 : Nat → Int32) (a1 : Nat → Nat → Int32) (cx : cx_T) (b p V : Nat) (sc : sc_T) (s x pt : Nat) : Prop := (Ms m0 m1 ∧ Fg a0 a1) ∧ (sRI tx n m1 a1 cx (b + 1) p V sc 0 ∧ m1 r_at = nI p) ∧ (nd1 a1 b (nI s) (nI p) (thOf sc) (oOf cx) (nI pt) (nI (x / 2)) ∧ a1 r_label b = -1) ∧ Fs a a1 b cx.length V sc.length ∧ (b + (n - p) ≤ 240 ∧ cxR a1 b cx)
theorem kSt_p {a a1 : Nat → Nat → Int32} {m1 : Nat → Int32} {cx : cx_T} {b p V : Nat} {sc : sc_T} {s x pt : Nat} (h : kSt n m0 a0 tx a m1 a1 cx b p V sc s x pt) : p ≤ n ∧ n ≤ 240 := ⟨(sRI_p h.2.1.1).1, h.2.1.1.2.2.2.1.1⟩
/-- an e and its ; -/
theorem k_eT (e : Nat) {a a1 : Nat → Nat → Int32} {m1 : Nat → Int32} {cx : cx_T} {b p V : Nat} {sc : sc_T} {s x pt p1 : Nat} (hx : x < 4) (hs : s < 256) (hs2 : stS s ∧ ¬ (s = 36 ∨ s = 37) ∧ ¬ (s = 66 ∨ s = 67) ∧ ¬ s = 84 ∧ ¬ s = 83 ∧ ¬ s = 123) (h : kSt n m0 a0 tx a m1 a1 cx b p V sc s x pt) {m2 : Nat → Int32} (hM2 : Ms m0 m2) (hR2 : sRI tx n m2 a1 cx (b + 1) p1 V sc 0) (hp1 : p ≤ p1)
    (hpost : sPost (d + 10) n P m0 a0 tx a cx b V sc (oOf cx) pt (st_eb (st_e tx n sc p1) fun q u => st_x tx n 59 q fun q => .inr (q, V, sc, .tag (sp_n s p (x / 2)) (.append u .nil)))) : pv_call rq_mt (e + 5) rq_m_R_readE [.ref 0, .int (nI b)] (rs m2 a1) (fun o S => (∃ r, o = some (.int r)) ∧ ∃ m' a', S = rs m' a' ∧ pv_call rq_mt (e + 5) rq_m_R_take [.ref 0, .int 59] (rs m' a') (fun o S => o = none ∧ HdP (d + 10) P n none S)) := by
  obtain ⟨⟨hM, hG⟩, ⟨hR, hat⟩, ⟨hN, -⟩, hF, hb⟩ := h
  have hp := sRI_p hR
  have hn : n ≤ 240 := hR.2.2.2.1.1
  refine rd_e2 e hM2 hG hR2 (by omega) (nI b) _ (fun q hq m' a' k1 k2 k3 => ?_) (fun q u hq m' a' r k1 k2 k3 k4 k5 k6 k7 => ?_)
  · rw [hq] at hpost
    exact ⟨⟨_, rfl⟩, m', a', rfl, rc_take_no (e + 2) m' a' (fSt_w k1) 59 _ ⟨rfl, fSt_P k1 hpost⟩⟩
  · rw [hq] at hpost
    refine ⟨⟨_, rfl⟩, m', a', rfl, sRI_tk (e + 2) k4 k1 59 _ (fun hc _ m'' j1 j2 => ⟨rfl, rfl, m'', a', rfl, ?_⟩) (fun hc m'' j1 j2 j3 => ?_) (by decide)⟩
    · have hpost : sPost (d + 10) n P m0 a0 tx a cx b V sc (oOf cx) pt (.inr (sp_x tx n (q + 1), V, sc, .tag (sp_n s p (x / 2)) (.append u .nil))) := by
        have h := hpost
        unfold st_eb st_x at h
        simp only [hc, if_true] at h
        exact h
      have hss : sp_s (sp_n s p (x / 2)) = s := sp_s_n hs (by omega)
      have hFs : Fs a a' b cx.length V sc.length := Fs_trans hF (Fs_Fr (k := cx.length) (V := V) (s := sc.length) k5) (by omega) (Nat.le_refl _) (Nat.le_refl _) (Nat.le_refl _)
      refine hpost m'' a' j1 k2 ?_ hFs ?_
      · rw [show b + sp_z (.tag (sp_n s p (x / 2)) (.append u .nil)) = b + 1 + sp_z u by simp only [sp_z]; omega]
        exact j2
      · have hN' := nd1_Fs (Fs_Fr (k := 0) (V := 0) (s := 0) k5) (by omega) hN
        refine BlkS_tag (by rw [hss]; exact hs2.1) (by rw [hss]; exact hs2.2.2.2.1) (by rw [hss]; exact hs2.2.2.2.2.1) (nd1_S hs (by omega) (by omega) rfl ⟨hs2.2.1, hs2.2.2.1, hs2.2.2.2.1⟩ hN') hN'.1.2.1.2 ?_
        rw [hss, if_neg hs2.2.2.2.2.2]
        exact ⟨k6, trivial⟩
    · have hpost : sFk P m0 a0 q := by
        have h := hpost
        unfold st_eb st_x at h
        simp only [hc, if_false] at h
        exact h
      exact ⟨rfl, fSt_P ⟨⟨j1, k2, k4.2.2.2.2.1⟩, ⟨j2, by omega⟩, sc.length, sRI_len k4, j3⟩ hpost⟩
theorem k_e (e : Nat) {a a1 : Nat → Nat → Int32} {m1 : Nat → Int32} {cx : cx_T} {b p V : Nat} {sc : sc_T} {x pt : Nat} (hx : x < 4) (g pt' c : Int32) (h : kSt n m0 a0 tx a m1 a1 cx b p V sc 59 x pt)
    (hpost : sPost (d + 10) n P m0 a0 tx a cx b V sc (oOf cx) pt (st_eb (st_e tx n sc p) fun q u => st_x tx n 59 q fun q => .inr (q, V, sc, .tag (sp_n 59 p (x / 2)) (.append u .nil)))) : pv_go rq_T26 3 (pv_call rq_mt (e + 5)) (HdP (d + 10) P n) (288, sL6 g pt' c 1 1 (nI b), [], rs m1 a1) :=
  rs_doE (e + 4) m1 a1 g pt' c (nI b) _ (k_eT e hx (by decide) (by decide) h h.1.1 h.2.1.1 (Nat.le_refl _) hpost)
theorem k_ret (e : Nat) {a a1 : Nat → Nat → Int32} {m1 : Nat → Int32} {cx : cx_T} {b p V : Nat} {sc : sc_T} {s x pt : Nat} (hx : x < 4) (hs : s = 82 ∨ s = 88) (g pt' : Int32) (hc : sp_c tx n p = nI s) (h : kSt n m0 a0 tx a m1 a1 cx b p V sc s x pt)
    (hpost : sPost (d + 10) n P m0 a0 tx a cx b V sc (oOf cx) pt (if sp_c tx n (sp_x tx n (p + 1)) = 59 then .inr (sp_x tx n (sp_x tx n (p + 1) + 1), V, sc, .tag (sp_n s p (x / 2)) .nil)
        else st_eb (st_e tx n sc (sp_x tx n (p + 1))) fun q u => st_x tx n 59 q fun q => .inr (q, V, sc, .tag (sp_n s p (x / 2)) (.append u .nil)))) : pv_go rq_T26 3 (pv_call rq_mt (e + 5)) (HdP (d + 10) P n) (288, sL6 g pt' (nI s) 1 0 (nI b), [], rs m1 a1) := by
  have hk := h
  obtain ⟨⟨hM, hG⟩, ⟨hR, hat⟩, ⟨hN, -⟩, hF, hb⟩ := h
  have hn : n ≤ 240 := hR.2.2.2.1.1
  have hpn : p < n := sp_c_lt hc (nI_m1 (by omega))
  have x1 := sp_x_le (tx := tx) (n := n) (p := p + 1) (by omega)
  have hs256 : s < 256 := by omega
  have R2 : sRI tx n (upd m1 r_at (nI (r_nx a1 n (p + 1)))) a1 cx (b + 1) (sp_x tx n (p + 1)) V sc 0 := by
    rw [sRI_nx hR]
    have := sRI_at hR x1.2
    rw [sp_x_x (by omega)] at this
    exact this
  have M2 : Ms m0 (upd m1 r_at (nI (r_nx a1 n (p + 1)))) := Ms_upd hM _ (by decide)
  refine rs_doRet (e + 3) m1 a1 hn hpn hat hR.1.1.1 g pt' (nI s) (nI b) (by rcases hs with rfl | rfl <;> decide) _ (fun hq => ?_) (fun hq => ?_)
  · rw [sRI_nx hR, sRI_ch hR] at hq
    rw [if_pos hq] at hpost
    refine sRI_tk (e + 2) R2 M2 59 _ (fun _ _ m'' j1 j2 => ⟨rfl, rfl, m'', a1, rfl, ?_⟩) (fun q => absurd hq q) (by decide)
    have hss : sp_s (sp_n s p (x / 2)) = s := sp_s_n hs256 (by omega)
    refine hpost m'' a1 j1 hG ?_ hF ?_
    · rw [show b + sp_z (.tag (sp_n s p (x / 2)) .nil) = b + 1 from rfl]
      exact j2
    · refine BlkS_tag (by rw [hss]; unfold stS; omega) (by rw [hss]; omega) (by rw [hss]; omega) (nd1_S hs256 (by omega) (by omega) rfl ⟨by omega, by omega, by omega⟩ hN) hN.1.2.1.2 trivial
  · rw [sRI_nx hR, sRI_ch hR] at hq
    rw [if_neg hq] at hpost
    exact k_eT e hx hs256 (by unfold stS; omega) hk M2 R2 (by omega) hpost
end SX
