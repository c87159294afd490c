/-- a take within a step: from pc to nxt -/
def tkL (T : pvT) (pc : Nat) (c : Int32) (nxt : Nat) : Prop := ∀ (d : Nat) (m : Nat → Int32) (a : Nat → Nat → Int32) (n q k p : Nat), n ≤ 240 → q ≤ n → m r_at = nI q → m r_size = nI n → m r_wrong = -1 → ∀ P : pv_R, (r_ch a n (r_nx a n q) = c → pv_go T 3 (pv_call rq_mt (d + 3)) P (nxt, tL k p, [], rs (upd m r_at (nI (r_nx a n q + 1))) a)) → (¬ r_ch a n (r_nx a n q) = c → pv_go T 3 (pv_call rq_mt (d + 3)) P (nxt, tL k p, [], rs (upd (upd m r_at (nI (r_nx a n q))) r_wrong (nI (r_nx a n q))) a)) → pv_go T 3 (pv_call rq_mt (d + 3)) P (pc, tL k p, [], rs m a)
/-- an e within a step -/
def ptL (T : pvT) (pc nxt : Nat) : Prop := ∀ (d : Nat) (m : Nat → Int32) (a : Nat → Nat → Int32) (k p : Nat), m r_wrong = -1 → ∀ P : pv_R, pv_call rq_mt (d + 2) rq_m_R_readE [.ref 0, .int (nI p)] (rs m a) (fun o S => (∃ r, o = some (.int r)) ∧ ∃ m' a', S = rs m' a' ∧ pv_go T 3 (pv_call rq_mt (d + 3)) P (nxt, tL k p, [], rs m' a')) → pv_go T 3 (pv_call rq_mt (d + 3)) P (pc, tL k p, [], rs m a)
section TE
variable {d n : Nat} {P : pv_R} {m0 : Nat → Int32} {a0 : Nat → Nat → Int32} {tx : Nat → Int32}
/-- a fault's state within a step: the open stmts stand -/
def fSx (m0 : Nat → Int32) (a0 : Nat → Nat → Int32) (q k s : Nat) (mk : Int32) (m : Nat → Int32) (a : Nat → Nat → Int32) : Prop := fSt m0 a0 q m a ∧ (m r_opened = nI k ∧ m r_scopes = nI s) ∧ a r_mark (k - 1) = mk
theorem tkU {T : pvT} {pc nxt : Nat} {c : Int32} (L : tkL T pc c nxt) (hc : ¬ c = -1) (dd : Nat) {m : Nat → Int32} {a : Nat → Nat → Int32} {cx : cx_T} {b p V : Nat} {sc : sc_T} {e : Int32} (hM : Ms m0 m) (hG : Fg a0 a) (h : sRI tx n m a cx b p V sc e) {K i : Nat} (Q : pv_R) (h1 : sp_c tx n p = c → p < n → ∀ m', Ms m0 m' → sRI tx n m' a cx b (sp_x tx n (p + 1)) V sc e → pv_go T 3 (pv_call rq_mt (dd + 3)) Q (nxt, tL K i, [], rs m' a)) (h2 : ¬ sp_c tx n p = c → ∀ m', fSx m0 a0 p cx.length sc.length (a r_mark (cx.length - 1)) m' a → pv_go T 3 (pv_call rq_mt (dd + 3)) Q (nxt, tL K i, [], rs m' a)) : pv_go T 3 (pv_call rq_mt (dd + 3)) Q (pc, tL K i, [], rs m a) := by
  obtain ⟨p0, k1, k2, k3⟩ := h.2.1
  have hp := sRI_p h
  have hn := h.2.2.2.1.1
  refine L dd m a n p0 K i hn k2 k1 h.1.1.1 h.1.1.2 Q (fun q => ?_) (fun q => ?_)
  · rw [sRI_nx h, k3] at q ⊢
    rw [sRI_ch h] at q
    have hl := sp_c_lt q hc
    exact h1 q hl _ (Ms_upd hM _ (by decide)) (sRI_at h (by omega))
  · rw [sRI_nx h, k3] at q ⊢
    rw [sRI_ch h] at q
    exact h2 q _ ⟨⟨⟨Ms_upd (Ms_upd hM _ (by decide)) _ (by decide), hG, h.2.2.2.2.1⟩, ⟨rfl, by omega⟩, sc.length, sRI_len h, h.1.2.2.2.1⟩, ⟨h.1.2.1.1, h.1.2.2.2.1⟩, rfl⟩
theorem ptU {T : pvT} {pc nxt : Nat} (L : ptL T pc nxt) (dd : Nat) {m : Nat → Int32} {a : Nat → Nat → Int32} {cx : cx_T} {b p V : Nat} {sc : sc_T} {e : Int32} (hM : Ms m0 m) (hG : Fg a0 a) (h : sRI tx n m a cx b p V sc e) (hb : b + (n - p) ≤ 250) {K i : Nat} (Q : pv_R) (h1 : ∀ q u, st_e tx n sc p = .inr (q, u) → (p + sp_z u ≤ q ∧ q ≤ n) → scA sc u = sc → ∀ m' a', Ms m0 m' → Fg a0 a' → sRI tx n m' a' cx (b + sp_z u) q V sc e → (∀ k V s, Fs a a' b k V s) → (a' r_state = a r_state ∧ a' r_mark = a r_mark) → BlkS a' V u b (nI i) 9 sc → pv_go T 3 (pv_call rq_mt (dd + 6)) Q (nxt, tL K i, [], rs m' a')) (h2 : ∀ q, st_e tx n sc p = .inl q → ∀ m' a', fSx m0 a0 q cx.length sc.length (a r_mark (cx.length - 1)) m' a' → pv_go T 3 (pv_call rq_mt (dd + 6)) Q (nxt, tL K i, [], rs m' a')) : pv_go T 3 (pv_call rq_mt (dd + 6)) Q (pc, tL K i, [], rs m a) := by
  refine L (dd + 3) m a K i h.1.1.2 Q ?_
  refine rd_e2 dd hM hG h hb (nI i) _ (fun q hq m' a' k1 k2 k3 => ?_) (fun q u hq m' a' r k1 k2 k3 k4 k5 k6 k7 => ?_)
  · refine ⟨⟨_, rfl⟩, m', a', rfl, h2 q hq m' a' ⟨k1, ⟨(k2 40 (by decide)).trans h.1.2.1.1, (k2 25 (by decide)).trans h.1.2.2.2.1⟩, ?_⟩⟩
    rw [Fr_oth k3 (j := r_mark) (by decide)]
  · exact ⟨⟨_, rfl⟩, m', a', rfl, h1 q u hq k7 (scA_e (sp_e_root _ _ _ _ _ _ _ (by omega) (by omega) hq)) m' a' k1 k2 k4 (fun k V s => Fs_Fr k5) ⟨Fr_oth k5 (by decide), Fr_oth k5 (by decide)⟩ k6⟩
theorem st_eb_l {r : sp_R} {f : Nat → Std.Format → st_R} {q : Nat} (h : r = .inl q) : st_eb r f = .inl q := by rw [h]; rfl
theorem st_eb_r {r : sp_R} {f : Nat → Std.Format → st_R} {q : Nat} {u : Std.Format} (h : r = .inr (q, u)) : st_eb r f = f q u := by rw [h]; rfl
theorem st_x_t {c : Int32} {p : Nat} {f : Nat → st_R} (h : sp_c tx n p = c) : st_x tx n c p f = f (sp_x tx n (p + 1)) := if_pos h
theorem st_x_f {c : Int32} {p : Nat} {f : Nat → st_R} (h : ¬ sp_c tx n p = c) : st_x tx n c p f = .inl p := if_neg h
theorem t33_148L : tkL rq_T33 168 40 174 := fun d m a _ _ _ _ h1 h2 h3 h4 h5 P h6 h7 => t33_168_ok d m a h1 h2 h3 h4 h5 P h6 h7
theorem t33_174L : ptL rq_T33 174 179 := fun d m a _ _ h1 P h2 => t33_174_ok d m a h1 P h2
theorem t33_190L : tkL rq_T33 190 59 196 := fun d m a _ _ _ _ h1 h2 h3 h4 h5 P h6 h7 => t33_190_ok d m a h1 h2 h3 h4 h5 P h6 h7
theorem t33_196L : ptL rq_T33 196 201 := fun d m a _ _ h1 P h2 => t33_196_ok d m a h1 P h2
theorem t33_201L : tkL rq_T33 201 41 207 := fun d m a _ _ _ _ h1 h2 h3 h4 h5 P h6 h7 => t33_201_ok d m a h1 h2 h3 h4 h5 P h6 h7
theorem t33_248L : tkL rq_T33 248 40 254 := fun d m a _ _ _ _ h1 h2 h3 h4 h5 P h6 h7 => t33_248_ok d m a h1 h2 h3 h4 h5 P h6 h7
theorem t33_254L : ptL rq_T33 254 259 := fun d m a _ _ h1 P h2 => t33_254_ok d m a h1 P h2
theorem t33_259L : tkL rq_T33 259 41 265 := fun d m a _ _ _ _ h1 h2 h3 h4 h5 P h6 h7 => t33_259_ok d m a h1 h2 h3 h4 h5 P h6 h7
theorem t33_265L : tkL rq_T33 265 59 271 := fun d m a _ _ _ _ h1 h2 h3 h4 h5 P h6 h7 => t33_265_ok d m a h1 h2 h3 h4 h5 P h6 h7
theorem t36_20L : tkL rq_T36 20 40 26 := fun d m a _ _ _ _ h1 h2 h3 h4 h5 P h6 h7 => t36_20_ok d m a h1 h2 h3 h4 h5 P h6 h7
theorem t36_26L : ptL rq_T36 26 31 := fun d m a _ _ h1 P h2 => t36_26_ok d m a h1 P h2
theorem t36_31L : tkL rq_T36 31 41 37 := fun d m a _ _ _ _ h1 h2 h3 h4 h5 P h6 h7 => t36_31_ok d m a h1 h2 h3 h4 h5 P h6 h7
theorem t37_9L : tkL rq_T37 9 40 15 := fun d m a _ _ _ _ h1 h2 h3 h4 h5 P h6 h7 => t37_9_ok d m a h1 h2 h3 h4 h5 P h6 h7
theorem t37_15L : ptL rq_T37 15 20 := fun d m a _ _ h1 P h2 => t37_15_ok d m a h1 P h2
theorem t37_20L : tkL rq_T37 20 41 26 := fun d m a _ _ _ _ h1 h2 h3 h4 h5 P h6 h7 => t37_20_ok d m a h1 h2 h3 h4 h5 P h6 h7
theorem t37_26L : tkL rq_T37 26 123 32 := fun d m a _ _ _ _ h1 h2 h3 h4 h5 P h6 h7 => t37_26_ok d m a h1 h2 h3 h4 h5 P h6 h7
theorem t38_9L : tkL rq_T38 9 123 15 := fun d m a _ _ _ _ h1 h2 h3 h4 h5 P h6 h7 => t38_9_ok d m a h1 h2 h3 h4 h5 P h6 h7
/-- W: behind its e -/
theorem k_W {f : Nat} (i0 : sT0 (d + 10) n P m0 a0 tx f) (e : Nat) {a a1 : Nat → Nat → Int32} {m1 : Nat → Int32} {cx : cx_T} {b p V : Nat} {sc : sc_T} {x pt : Nat} (hx : x < 4) (hk : cx.length < 20) (hU : cxU cx) (hf : 2 * (n - p) + 1 < f + 1) (g pt' : Int32) (hc : sp_c tx n p = 87) (h : kSt n m0 a0 tx a m1 a1 cx b p V sc 87 x pt)
    (hpost : sPost (d + 10) n P m0 a0 tx a cx b V sc (oOf cx) pt (st_x tx n 40 (sp_x tx n (p + 1)) fun q => st_eb (st_e tx n sc q) fun q u => st_x tx n 41 q fun q => st_b (st tx n f 0 ((b, 87, 0) :: cx) (b + 1 + sp_z u) q V sc 0) fun q V1 _ t => .inr (q, V1, sc, .tag (sp_n 87 p (x / 2)) (.append u (.append t .nil))))) : pv_go rq_T26 3 (pv_call rq_mt (e + 5)) (HdP (d + 10) P n) (288, sL6 g pt' 87 1 0 (nI b), [], rs m1 a1) := by
  have hb := h.2.2.2.2.1
  have hn : n ≤ 240 := h.2.1.1.2.2.2.1.1
  have hpn : p < n := sp_c_lt hc (by decide)
  have x1 := sp_x_le (tx := tx) (n := n) (p := p + 1) (by omega)
  refine k_open e hk (by decide) (by decide) g pt' hc h (fun m2 a2 ho => ?_)
  obtain ⟨⟨hM, hG⟩, hR, ⟨hst, hmk⟩, hN, hF⟩ := ho
  refine Hd_pre hR (by omega) 148 rfl ?_
  refine t33_148 (d + 9) m2 a2 (x := 0) (by omega) hst (by decide) _ (fun _ => ?_) (fun q => absurd rfl q)
  have hFst : ∀ B V s, Fs a2 (up2 a2 r_state cx.length (nI (0 + 1))) B cx.length V s := fun B V s => Fs_op (Fs_refl _ _ _ _ _) _ (by decide) (Nat.le_refl _)
  have hst3 : (up2 a2 r_state cx.length (nI (0 + 1))) r_state cx.length = nI 1 := up2_eq _ _ _ _
  have hmk3 : (up2 a2 r_state cx.length (nI (0 + 1))) r_mark cx.length = nI sc.length := (up2_ne _ _ (fun q => absurd q.1 (by decide))).trans hmk
  have hR3 : sRI tx n m2 (up2 a2 r_state cx.length (nI (0 + 1))) ((b, 87, 0) :: cx) (b + 1) (sp_x tx n (p + 1)) V sc 0 := sRI_row _ _ hR (by decide)
  have hG3 := Fg_Fs hG (hFst 0 0 0)
  have hs3 : (up2 a2 r_state cx.length (nI (0 + 1))) r_sort b = 87 := hN.1.1.1
  generalize up2 a2 r_state cx.length (nI (0 + 1)) = a3 at *
  -- behind a fault
  have f207 : ∀ q m' a', fSt m0 a0 q m' a' → sFk P m0 a0 q → pv_go rq_T33 3 (pv_call rq_mt (d + 9)) (HdP (d + 10) P n) (207, tL cx.length b, [], rs m' a') := fun q m' a' k1 k2 => t33_207_no (d + 6) m' a' (fSt_w k1) _ (fSt_P k1 k2)
  have f201 : ∀ q m' a', fSt m0 a0 q m' a' → sFk P m0 a0 q → pv_go rq_T33 3 (pv_call rq_mt (d + 9)) (HdP (d + 10) P n) (201, tL cx.length b, [], rs m' a') := fun q m' a' k1 k2 => t33_201_no (d + 6) m' a' (fSt_w k1) _ (f207 q m' a' k1 k2)
  have f196 : ∀ q m' a', fSt m0 a0 q m' a' → sFk P m0 a0 q → pv_go rq_T33 3 (pv_call rq_mt (d + 9)) (HdP (d + 10) P n) (196, tL cx.length b, [], rs m' a') := fun q m' a' k1 k2 => t33_196_no (d + 6) m' a' (fSt_w k1) _ (f201 q m' a' k1 k2)
  have f190 : ∀ q m' a', fSt m0 a0 q m' a' → sFk P m0 a0 q → pv_go rq_T33 3 (pv_call rq_mt (d + 9)) (HdP (d + 10) P n) (190, tL cx.length b, [], rs m' a') := fun q m' a' k1 k2 => t33_190_no (d + 6) m' a' (fSt_w k1) _ (f196 q m' a' k1 k2)
  have f179 : ∀ q m' a', fSt m0 a0 q m' a' → sFk P m0 a0 q → pv_go rq_T33 3 (pv_call rq_mt (d + 9)) (HdP (d + 10) P n) (179, tL cx.length b, [], rs m' a') := fun q m' a' k1 k2 => t33_179 (d + 9) m' a' (by omega) _ (fun _ => f190 q m' a' k1 k2) (fun _ => f201 q m' a' k1 k2)
  refine tkU t33_148L (by decide) (d + 6) hM hG3 hR3 _ (fun hq hlt m4 j1 j2 => ?_) (fun hq m4 j1 => ?_)
  · rw [st_x_t hq] at hpost
    refine ptU t33_174L (d + 3) j1 hG3 j2 (by have := sp_x_le (tx := tx) (n := n) (p := sp_x tx n (p + 1) + 1) (by omega); omega) _ (fun q u hu hqu hsu m5 a5 l1 l2 l3 l4 l5 l6 => ?_) (fun q hu m5 a5 l1 => ?_)
    · rw [st_eb_r hu] at hpost
      refine t33_179 (d + 9) m5 a5 (by omega) _ (fun q70 => ?_) (fun _ => ?_)
      · rw [Fs_row (l4 0 0 0) (by decide) (by omega), hs3] at q70
        exact absurd q70 (by decide)
      · have x4 := sp_x_le (tx := tx) (n := n) (p := sp_x tx n (p + 1) + 1) (by omega)
        refine tkU t33_201L (by decide) (d + 6) l1 l2 l3 _ (fun hq2 hlt2 m6 o1 o2 => ?_) (fun hq2 m6 o1 => ?_)
        · rw [st_x_t hq2] at hpost
          have x5 := sp_x_le (tx := tx) (n := n) (p := q + 1) (by omega)
          refine t33_207_ok (d + 6) m6 a5 o2.1.1.2 _ ?_
          refine HdP_cm (fun m a hH => ⟨rfl, m, a, rfl, hH⟩) (rd_body i0 (d + 2) (ptb := 0) o1 l2 o2 (by omega) ⟨Or.inl rfl, hU⟩ (by omega) (fun r hr => ?_) (fun r V1 t hr hg hsA m7 a7 r1 r2 r3 r4 r5 => ?_))
          · rw [hr] at hpost; exact hpost
          · rw [hr] at hpost
            have hmk7 : a7 r_mark cx.length = nI sc.length := (Fs_st r4 (by decide) (Nat.lt_succ_self _)).trans (by rw [l5.2]; exact hmk3)
            have hst7 : a7 r_state cx.length = nI 1 := (Fs_st r4 (by decide) (Nat.lt_succ_self _)).trans (by rw [l5.1]; exact hst3)
            refine Hd_pre r3 (by omega) 148 rfl ?_
            refine t33_148 (d + 9) m7 a7 (x := 1) (by omega) hst7 (by decide) _ (fun q => absurd q (by decide)) (fun _ => ?_)
            have hFs7 : ∀ B V s, Fs a7 (up2 a7 r_state cx.length (nI (1 + 1))) B cx.length V s := fun B V s => Fs_op (Fs_refl _ _ _ _ _) _ (by decide) (Nat.le_refl _)
            refine t33_214 (d + 8) m7 _ cx.length b _ ?_
            refine rd_finish (d + 7) (ext := []) r1 (Fg_Fs r2 (hFs7 0 0 0)) (sRI_row _ _ r3 (by decide)) ((up2_ne _ _ (fun q => absurd q.1 (by decide))).trans hmk7) _ (fun m8 a8 u1 u2 u3 u4 => ⟨rfl, rfl, m8, a8, rfl, ?_⟩)
            have h78 : Fs a7 a8 (b + 1 + sp_z u + sp_z t) cx.length V1 sc.length := Fs_trans (hFs7 _ _ _) (u4 _ _ _ _) (Nat.le_refl _) (Nat.le_refl _) (Nat.le_refl _) (Nat.le_refl _)
            have h58 : Fs a5 a8 (b + 1 + sp_z u) cx.length V sc.length := Fs_trans (Fs_le r4 (Nat.le_refl _) (Nat.le_succ _) (Nat.le_refl _) (Nat.le_refl _)) h78 (by omega) (Nat.le_refl _) (by omega) (Nat.le_refl _)
            have h28 : Fs a2 a8 (b + 1) cx.length V sc.length := Fs_trans (hFst _ _ _) (Fs_trans (l4 _ _ _) h58 (by omega) (Nat.le_refl _) (Nat.le_refl _) (Nat.le_refl _)) (Nat.le_refl _) (Nat.le_refl _) (Nat.le_refl _) (Nat.le_refl _)
            refine post_plain hx (by decide) (by omega) (by decide) hpost hN hF h28 u1 u2 ?_ ⟨BlkS_mono h58 (Nat.le_refl _) (by omega) _ u (Nat.lt_succ_self _) _ _ _ _ (Nat.le_refl _) l6, ?_, trivial⟩
            · rw [show b + 1 + sp_z (.append u (.append t .nil)) = b + 1 + sp_z u + sp_z t by simp only [sp_z]; omega]
              exact u3
            · rw [hsu]
              exact BlkS_9 _ _ _ _ _ (BlkS_mono h78 (Nat.le_refl _) (Nat.le_refl _) _ t (Nat.lt_succ_self _) _ _ _ _ (Nat.le_refl _) r5)
        · rw [st_x_f hq2] at hpost
          exact f207 _ _ _ o1.1 hpost
    · rw [st_eb_l hu] at hpost
      exact f179 _ _ _ l1.1 hpost
  · rw [st_x_f hq] at hpost
    exact t33_174_no (d + 6) m4 a3 (fSt_w j1.1) _ (f179 _ _ _ j1.1 hpost)
end TE
