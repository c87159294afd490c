theorem sp_s_n' {s f v : Nat} (hs : s < 256) : sp_s (sp_n s f v) = s := by unfold sp_s sp_n; omega
def esrt (u : Std.Format) : Prop := ∃ c y, u = .tag c y ∧ ¬ stS (sp_s c)
theorem esrt_n {s f v : Nat} {y : Std.Format} (hs : s < 256) (h : ¬ stS s) : esrt (.tag (sp_n s f v) y) := ⟨_, y, rfl, by rw [sp_s_n' hs]; exact h⟩
theorem sp_e_root {tx : Nat → Int32} {n : Nat} {nm : Nat → Int32} : ∀ (f g lv p : Nat) (t : Std.Format) (q : Nat) (u : Std.Format), g ≤ 6 → (g = 5 ∨ g = 6 → esrt t) → sp_e tx n nm f g lv p t = .inr (q, u) → esrt u := by
  intro f
  induction f with
  | zero => intro g lv p t q u _ _ h; cases h
  | succ f ih =>
    intro g lv p t q u hg ht h
    have hgs : g = 0 ∨ g = 1 ∨ g = 2 ∨ g = 3 ∨ g = 4 ∨ g = 5 ∨ g = 6 := by omega
    rcases hgs with rfl | rfl | rfl | rfl | rfl | rfl | rfl
    · rw [sp_e0] at h
      split at h
      · cases h
      split at h
      · split at h
        · cases h
        obtain ⟨q1, u1, e1, e2⟩ := sp_b_inr h
        cases e2
        exact esrt_n (by decide) (by decide)
      · exact ih 1 lv p .nil q u (by omega) (by omega) h
    · rw [sp_e1] at h
      split at h
      · cases h
      obtain ⟨q1, u1, e1, e2⟩ := sp_b_inr h
      split at e2
      · obtain ⟨q2, u2, e3, e4⟩ := sp_b_inr e2
        split at e4
        · obtain ⟨q3, u3, e5, e6⟩ := sp_b_inr e4
          cases e6
          exact esrt_n (by decide) (by decide)
        · cases e4
      · cases e2
        exact ih 2 lv p .nil q u (by omega) (by omega) e1
    · rw [sp_e2] at h
      obtain ⟨q1, u1, e1, e2⟩ := sp_b_inr h
      exact ih 5 lv q1 u1 q u (by omega) (fun _ => ih 3 lv p .nil q1 u1 (by omega) (by omega) e1) e2
    · rw [sp_e3] at h
      obtain ⟨q1, u1, e1, e2⟩ := sp_b_inr h
      exact ih 6 lv q1 u1 q u (by omega) (fun _ => ih 4 lv p .nil q1 u1 (by omega) (by omega) e1) e2
    · rw [sp_e4] at h
      split at h
      · cases h
      split at h
      · obtain ⟨q1, u1, e1, e2⟩ := sp_b_inr h
        split at e2
        · cases e2
          exact ih 0 (lv + 1) _ .nil q1 u (by omega) (by omega) e1
        · cases e2
      split at h
      · obtain ⟨q1, u1, e1, e2⟩ := sp_b_inr h
        cases e2
        exact esrt_n (by decide) (by decide)
      split at h
      · next hnm =>
        split at h
        · cases h
        cases h
        obtain ⟨u, hu, -, -, e⟩ := nm_u hnm
        rw [e, nI_clamp (by omega)]
        exact esrt_n (by omega) (by unfold stS; omega)
      split at h
      · next hl =>
        cases h
        rcases hl with e | e | e <;> rw [e] <;> exact esrt_n (by decide) (by decide)
      · cases h
    · rw [sp_e5] at h
      split at h
      · obtain ⟨q1, u1, e1, e2⟩ := sp_b_inr h
        exact ih 5 lv q1 _ q u (by omega) (fun _ => esrt_n (by decide) (by decide)) e2
      · cases h
        exact ht (Or.inl rfl)
    · rw [sp_e6] at h
      split at h
      · obtain ⟨q1, u1, e1, e2⟩ := sp_b_inr h
        exact ih 6 lv q1 _ q u (by omega) (fun _ => esrt_n (by decide) (by decide)) e2
      · cases h
        exact ht (Or.inr rfl)
theorem BlkS_e {a : Nat → Nat → Int32} {W b r pt : Nat} {o : Int32} {sc : sc_T} {u : Std.Format} (hu : esrt u) (h1 : Blk a u b r) (h2 : a r_around r = o) (h3 : ∀ i, b ≤ i → i < b + sp_z u → a r_thereBefore i = thOf sc ∧ a r_thereAfter i = thOf sc) : BlkS a W u b o pt sc := by
  obtain ⟨c, y, rfl, hc⟩ := hu
  unfold BlkS
  rw [if_neg hc]
  exact ⟨r, ⟨h1, h2⟩, h3⟩
theorem scA_e {sc : sc_T} {u : Std.Format} (hu : esrt u) : scA sc u = sc := by
  obtain ⟨c, y, rfl, hc⟩ := hu
  rw [scA_tag, if_neg (fun q => hc (q.elim (fun q => Or.inl q) (fun q => Or.inr (Or.inl q))))]
theorem BlkS_tag {a : Nat → Nat → Int32} {W b c pt : Nat} {o : Int32} {sc : sc_T} {x : Std.Format} (hs : stS (sp_s c)) (h84 : ¬ sp_s c = 84) (h83 : ¬ sp_s c = 83) (h1 : ndS a W b c o sc) (h2 : a r_part b = nI pt) (h3 : BlkS a W x (b + 1) (nI b) (if sp_s c = 123 then 0 else 9) sc) : BlkS a W (.tag c x) b o pt sc := by
  unfold BlkS
  rw [if_pos hs, if_neg h84]
  exact ⟨⟨h1, Or.inr h2, fun q => absurd q h83⟩, h3⟩
section SW
variable {D n : Nat} {P : pv_R} {m0 : Nat → Int32} {a0 : Nat → Nat → Int32} {tx : Nat → Int32}
/-- a fault's state -/
def fSt (m0 : Nat → Int32) (a0 : Nat → Nat → Int32) (q : Nat) (m : Nat → Int32) (a : Nat → Nat → Int32) : Prop := (Ms m0 m ∧ Fg a0 a ∧ vOK a) ∧ (m r_wrong = nI q ∧ q ≤ 240) ∧ ∃ s, s ≤ 12 ∧ m r_scopes = nI s
theorem fSt_w {q : Nat} {m : Nat → Int32} {a : Nat → Nat → Int32} (h : fSt m0 a0 q m a) : ¬ m r_wrong = -1 := by rw [h.2.1.1]; exact nI_m1 (by have := h.2.1.2; omega)
theorem fSt_Hd {q : Nat} {m : Nat → Int32} {a : Nat → Nat → Int32} (h : fSt m0 a0 q m a) (hF : sFk P m0 a0 q) : Hd (D + 1) P n m a := by
  obtain ⟨⟨h1, h2, h3⟩, ⟨h4, h5⟩, s, h6, h7⟩ := h
  exact fl_Hd h1 h2 h3 h4 h5 h6 h7 hF
theorem fSt_P {q : Nat} {m : Nat → Int32} {a : Nat → Nat → Int32} (h : fSt m0 a0 q m a) (hF : sFk P m0 a0 q) : HdP (D + 1) P n none (rs m a) := ⟨rfl, m, a, rfl, fSt_Hd h hF⟩
theorem sRI_len {m : Nat → Int32} {a : Nat → Nat → Int32} {cx : cx_T} {b p V : Nat} {sc : sc_T} {e : Int32} (h : sRI tx n m a cx b p V sc e) : sc.length ≤ 12 := by
  have h1 := h.2.2.2.2.2.1.1
  have h2 := h.2.2.2.2.2.2
  omega
/-- an e in a stmt, in terms of faults' states -/
theorem rd_e2 (d : Nat) {b p V : Nat} {m : Nat → Int32} {a : Nat → Nat → Int32} {cx : cx_T} {sc : sc_T} {e0 : Int32} (hM : Ms m0 m) (hG : Fg a0 a) (hR : sRI tx n m a cx b p V sc e0) (hb : b + (n - p) ≤ 250) (st : Int32) (Q : pv_R)
    (h0 : ∀ q, st_e tx n sc p = .inl q → ∀ (m' : Nat → Int32) (a' : Nat → Nat → Int32), fSt m0 a0 q m' a' → Mf m m' → Fr a a' 0 0 0 → Q (some (.int (-1))) (rs m' a'))
    (h1 : ∀ q u, st_e tx n sc p = .inr (q, u) → ∀ (m' : Nat → Int32) (a' : Nat → Nat → Int32) (r : Int32), Ms m0 m' → Fg a0 a' → Mf m m' → sRI tx n m' a' cx (b + sp_z u) q V sc e0 → Fr a a' b 0 0 → BlkS a' V u b st 9 sc → (p + sp_z u ≤ q ∧ q ≤ n) → Q (some (.int r)) (rs m' a')) : pv_call rq_mt (d + 5) rq_m_R_readE [.ref 0, .int st] (rs m a) Q := by
  have hp := sRI_p hR
  refine rd_e d hR hb st Q (fun q hq m' a' k1 k2 k3 => ?_) (fun q u hq m' a' r k1 k2 k3 k4 k5 => ?_)
  · refine h0 q hq m' a' ⟨⟨Ms_Mf hM k1, Fg_Fr hG k3, vOK_Fr k3 hR.2.2.2.2.1⟩, ⟨k2, ?_⟩, sc.length, sRI_len hR, (k1 25 (by decide)).trans hR.1.2.2.2.1⟩ k1 k3
    exact Nat.le_trans (sp_e_le 2000 0 0 p .nil q (by omega) hp.1 (by omega) hq) hR.2.2.2.1.1
  · obtain ⟨g1, -, -⟩ := st_e_good hp.1 hq
    exact h1 q u hq m' a' _ (Ms_Mf hM k1) (Fg_Fr hG k3) k1 k2 k3 (BlkS_e (sp_e_root _ _ _ _ _ _ _ (by omega) (by omega) hq) k4.1 k4.2 k5) g1
end SW
