theorem st_e_bad {tx : Nat → Int32} {n p : Nat} {sc : sc_T} (h : ¬ isEc (sp_c tx n p)) : st_e tx n sc p = .inl p := by
  have hn : ¬ sp_nm (sp_c tx n p) := fun q => h (Or.inl q)
  have h40 : ¬ sp_c tx n p = 40 := fun q => h (Or.inr (Or.inr (Or.inr (Or.inr (Or.inr q)))))
  have h33 : ¬ sp_c tx n p = 33 := fun q => h (Or.inr (Or.inr (Or.inr (Or.inr (Or.inl q)))))
  have hl : ¬ (sp_c tx n p = 48 ∨ sp_c tx n p = 49 ∨ sp_c tx n p = 35) := fun q => h (q.elim (fun q => Or.inr (Or.inl q)) (fun q => q.elim (fun q => Or.inr (Or.inr (Or.inl q))) (fun q => Or.inr (Or.inr (Or.inr (Or.inl q))))))
  show sp_e tx n (nmOf sc) (1995 + 1 + 1 + 1 + 1 + 1) 0 0 p .nil = _
  rw [sp_e0, if_neg (by omega), if_neg (fun q => hn q.1), sp_e1, if_neg (by omega), sp_e2, sp_e3, sp_e4, if_neg (by omega), if_neg h40, if_neg h33, if_neg hn, if_neg hl]
  rfl
theorem BlkS_9 {a : Nat → Nat → Int32} {W : Nat} : ∀ (t : Std.Format) (b : Nat) (o : Int32) (pt : Nat) (sc : sc_T), BlkS a W t b o pt sc → BlkS a W t b o 9 sc := by
  intro t
  induction t with
  | append x y ihx ihy => intro b o pt sc h; exact ⟨ihx _ _ _ _ h.1, ihy _ _ _ _ h.2⟩
  | tag c x ih =>
    intro b o pt sc h
    unfold BlkS at h ⊢
    by_cases hs : stS (sp_s c)
    · rw [if_pos hs] at h ⊢
      exact ⟨⟨h.1.1, Or.inl rfl, h.1.2.2⟩, h.2⟩
    · rw [if_neg hs] at h ⊢
      exact h
  | _ => intro _ _ _ _ _; trivial
section SU
variable {D n : Nat} {P : pv_R} {m0 : Nat → Int32} {a0 : Nat → Nat → Int32} {tx : Nat → Int32}
theorem sRI_nx {m : Nat → Int32} {a : Nat → Nat → Int32} {cx : cx_T} {b p V : Nat} {sc : sc_T} {e : Int32} (h : sRI tx n m a cx b p V sc e) (q : Nat) : r_nx a n q = sp_x tx n q := by
  rw [r_nx_sp h.2.2.2.1.2.2, h.2.2.2.1.2.1]
theorem sRI_ch {m : Nat → Int32} {a : Nat → Nat → Int32} {cx : cx_T} {b p V : Nat} {sc : sc_T} {e : Int32} (h : sRI tx n m a cx b p V sc e) (q : Nat) : r_ch a n q = sp_c tx n q := by
  rw [r_ch_sp, h.2.2.2.1.2.1]
theorem sRI_at {m : Nat → Int32} {a : Nat → Nat → Int32} {cx : cx_T} {b p V : Nat} {sc : sc_T} {e : Int32} (h : sRI tx n m a cx b p V sc e) {q : Nat} (hq : q ≤ n) : sRI tx n (upd m r_at (nI q)) a cx b (sp_x tx n q) V sc e := ⟨h.1, ⟨q, rfl, hq, rfl⟩, h.2.2⟩
theorem sRI_tk {m : Nat → Int32} {a : Nat → Nat → Int32} {cx : cx_T} {b p V : Nat} {sc : sc_T} {e : Int32} (d : Nat) (h : sRI tx n m a cx b p V sc e) (hM : Ms m0 m) (c : Int32) (Q : pv_R) (h1 : sp_c tx n p = c → p < n ∨ c = -1 → ∀ m', Ms m0 m' → sRI tx n m' a cx b (sp_x tx n (p + 1)) V sc e → Q none (rs m' a)) (h2 : ¬ sp_c tx n p = c → ∀ m', Ms m0 m' → m' r_wrong = nI p → m' r_scopes = nI sc.length → Q none (rs m' a)) (hc : ¬ c = -1) : pv_call rq_mt (d + 3) rq_m_R_take [.ref 0, .int c] (rs m a) Q := by
  obtain ⟨p0, k1, k2, k3⟩ := h.2.1
  have hp := sRI_p h
  refine rc_take d m a h.2.2.2.1.1 k2 k1 h.1.1.1 c Q (fun q => absurd h.1.1.2 q) (fun _ q => ?_) (fun _ q => ?_)
  · rw [sRI_nx h, k3] at q ⊢
    rw [sRI_ch h] at q
    have hl := sp_c_lt q hc
    exact h1 q (Or.inl hl) _ (Ms_upd hM _ (by decide)) (sRI_at h (by omega))
  · rw [sRI_nx h, k3] at q ⊢
    rw [sRI_ch h] at q
    exact h2 q _ (Ms_upd (Ms_upd hM _ (by decide)) _ (by decide)) rfl h.1.2.2.2.1
/-- a new stmt's node -/
def nd1 (a : Nat → Nat → Int32) (b : Nat) (s f th o pt e : Int32) : Prop := ((a r_sort b = s ∧ a r_first b = f) ∧ (a r_around b = o ∧ a r_part b = pt) ∧ (a r_variable b = -1 ∧ a r_isStmt b = 1)) ∧ ((a r_thereBefore b = th ∧ a r_thereAfter b = th) ∧ a r_target b = -1 ∧ a r_isMarked b = e) ∧ (a r_hasOther b = 0 ∧ a r_hasCatch b = 0 ∧ a r_hasEnd b = 0)
theorem rsA_nd1 (a : Nat → Nat → Int32) (b : Nat) (s f th o pt e : Int32) : nd1 (rsA a b s f th o pt e) b s f th o pt e := by
  unfold rsA
  refine ⟨⟨⟨?_, ?_⟩, ⟨?_, ?_⟩, ?_, ?_⟩, ⟨⟨?_, ?_⟩, ?_, up2_eq _ _ _ _⟩, ?_, ?_, ?_⟩
  · exact (up2_ne _ _ (fun q => absurd q.1 (by decide))).trans ((up2_ne _ _ (fun q => absurd q.1 (by decide))).trans ((up2_ne _ _ (fun q => absurd q.1 (by decide))).trans (nodeA_sort _ _ _ _ _ _)))
  · exact (up2_ne _ _ (fun q => absurd q.1 (by decide))).trans ((up2_ne _ _ (fun q => absurd q.1 (by decide))).trans ((up2_ne _ _ (fun q => absurd q.1 (by decide))).trans (nodeA_first _ _ _ _ _ _)))
  · exact (up2_ne _ _ (fun q => absurd q.1 (by decide))).trans ((up2_ne _ _ (fun q => absurd q.1 (by decide))).trans (up2_eq _ _ _ _))
  · exact (up2_ne _ _ (fun q => absurd q.1 (by decide))).trans (up2_eq _ _ _ _)
  · exact (up2_ne _ _ (fun q => absurd q.1 (by decide))).trans ((up2_ne _ _ (fun q => absurd q.1 (by decide))).trans ((up2_ne _ _ (fun q => absurd q.1 (by decide))).trans (nodeA_variable _ _ _ _ _ _)))
  · exact (up2_ne _ _ (fun q => absurd q.1 (by decide))).trans ((up2_ne _ _ (fun q => absurd q.1 (by decide))).trans ((up2_ne _ _ (fun q => absurd q.1 (by decide))).trans (nodeA_isStmt _ _ _ _ _ _)))
  · exact (up2_ne _ _ (fun q => absurd q.1 (by decide))).trans ((up2_ne _ _ (fun q => absurd q.1 (by decide))).trans ((up2_ne _ _ (fun q => absurd q.1 (by decide))).trans (nodeA_thereBefore _ _ _ _ _ _)))
  · exact (up2_ne _ _ (fun q => absurd q.1 (by decide))).trans ((up2_ne _ _ (fun q => absurd q.1 (by decide))).trans ((up2_ne _ _ (fun q => absurd q.1 (by decide))).trans (nodeA_thereAfter _ _ _ _ _ _)))
  · exact (up2_ne _ _ (fun q => absurd q.1 (by decide))).trans ((up2_ne _ _ (fun q => absurd q.1 (by decide))).trans ((up2_ne _ _ (fun q => absurd q.1 (by decide))).trans (nodeA_target _ _ _ _ _ _)))
  · exact (up2_ne _ _ (fun q => absurd q.1 (by decide))).trans ((up2_ne _ _ (fun q => absurd q.1 (by decide))).trans ((up2_ne _ _ (fun q => absurd q.1 (by decide))).trans (nodeA_hasOther _ _ _ _ _ _)))
  · exact (up2_ne _ _ (fun q => absurd q.1 (by decide))).trans ((up2_ne _ _ (fun q => absurd q.1 (by decide))).trans ((up2_ne _ _ (fun q => absurd q.1 (by decide))).trans (nodeA_hasCatch _ _ _ _ _ _)))
  · exact (up2_ne _ _ (fun q => absurd q.1 (by decide))).trans ((up2_ne _ _ (fun q => absurd q.1 (by decide))).trans ((up2_ne _ _ (fun q => absurd q.1 (by decide))).trans (nodeA_hasEnd _ _ _ _ _ _)))
theorem rsA_Fr (a : Nat → Nat → Int32) (b : Nat) (s f th o pt e : Int32) : Fr a (rsA a b s f th o pt e) b 0 0 := by
  unfold rsA
  exact Fr_nd (Fr_nd (Fr_nd (Fr_node (Fr_refl _ _ _ _) (Nat.le_refl _) _ _ _ _) _ (by decide) (by decide) (Nat.le_refl _)) _ (by decide) (by decide) (Nat.le_refl _)) _ (by decide) (by decide) (Nat.le_refl _)
/-- a new node leaves the rest as it is -/
theorem sRI_nd {m : Nat → Int32} {a a' : Nat → Nat → Int32} {cx : cx_T} {b p V : Nat} {sc : sc_T} {e : Int32} (h : sRI tx n m a cx b p V sc e) (hF : Fr a a' b 0 0) : sRI tx n (upd (upd (upd m r_at (nI p)) r_nodes (nI (b + 1))) r_isCase 0) a' cx (b + 1) p V sc 0 := by
  have hp := sRI_p h
  obtain ⟨⟨⟨r1, r2⟩, ⟨r3, r4⟩, r5, r6, r7⟩, r8, ⟨⟨r11, r12⟩, ⟨r13, r14⟩, r15⟩, r16, r19, r20⟩ := h
  refine ⟨⟨⟨r1, r2⟩, ⟨r3, rfl⟩, r5, r6, rfl⟩, ⟨p, rfl, hp.1, hp.2⟩, ⟨⟨cxR_Fr hF (Nat.le_refl _) (by omega) cx r11, r12⟩, ⟨scR_Fr hF sc r13, r14⟩, fun w hw => ?_⟩, tx_Fr hF r16, vOK_Fr hF r19, r20⟩
  rw [Fr_oth hF (j := r_named) (by decide)]
  exact r15 w hw
theorem nd1_Fs {a a' : Nat → Nat → Int32} {b B k V s : Nat} {s0 f th o pt e : Int32} (h : Fs a a' B k V s) (hb : b < B) (hn : nd1 a b s0 f th o pt e) : nd1 a' b s0 f th o pt e := by
  obtain ⟨⟨⟨h1, h2⟩, ⟨h3, h4⟩, h5, h6⟩, ⟨⟨h7, h8⟩, h10, h11⟩, h12, h13, h14⟩ := hn
  exact ⟨⟨⟨(Fs_row h (by decide) hb).trans h1, (Fs_row h (by decide) hb).trans h2⟩, ⟨(Fs_row h (by decide) hb).trans h3, (Fs_row h (by decide) hb).trans h4⟩, (Fs_row h (by decide) hb).trans h5, (Fs_row h (by decide) hb).trans h6⟩, ⟨⟨(Fs_row h (by decide) hb).trans h7, (Fs_row h (by decide) hb).trans h8⟩, (Fs_row h (by decide) hb).trans h10, (Fs_row h (by decide) hb).trans h11⟩, (Fs_row h (by decide) hb).trans h12, (Fs_row h (by decide) hb).trans h13, (Fs_row h (by decide) hb).trans h14⟩
/-- a plain stmt's node bears its code -/
theorem nd1_S {a : Nat → Nat → Int32} {b s p x W : Nat} {th o pt : Int32} {sc : sc_T} (hs : s < 256) (hp : p < 256) (hx : x < 2) (hth : th = thOf sc) (hk : ¬ (s = 36 ∨ s = 37) ∧ ¬ (s = 66 ∨ s = 67) ∧ ¬ s = 84) (h : nd1 a b (nI s) (nI p) th o pt (nI x)) : ndS a W b (sp_n s p x) o sc := by
  obtain ⟨⟨⟨h1, h2⟩, ⟨h3, h4⟩, h5, h6⟩, ⟨⟨h7, h8⟩, h10, h11⟩, h12, h13, h14⟩ := h
  unfold ndS sp_pl sp_en
  rw [sp_s_n hs hp, sp_f_n hs hp, sp_v_n hs hp, Nat.mod_eq_of_lt hx]
  subst hth
  exact ⟨⟨⟨h1, h2⟩, ⟨h3, h6⟩, h7, h11⟩, fun q => absurd q hk.1, fun _ => ⟨h5, h8⟩, fun q => absurd q hk.2.1, fun q => absurd q hk.2.2⟩
end SU
