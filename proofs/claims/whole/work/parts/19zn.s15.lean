section TB
variable {d n : Nat} {P : pv_R} {m0 : Nat → Int32} {a0 : Nat → Nat → Int32} {tx : Nat → Int32}
theorem Fs_all (a : Nat → Nat → Int32) (f : Nat → Int32) (b k V s : Nat) : Fs a (upa a r_named f) b k V s := Fs_nm (Fs_refl a b k V s) f
theorem cl_sRI {m : Nat → Int32} {a : Nat → Nat → Int32} {cx : cx_T} {b p V q : Nat} {ext sc : sc_T} {e : Int32} (h : sRI tx n m a cx b p V (ext ++ sc) e) (hq : q ≤ n) : sRI tx n (upd (upd m r_at (nI q)) r_scopes (nI sc.length)) (upa a r_named (clz (a r_scope) (a r_nameOf) sc.length ext.length (a r_named))) cx b (sp_x tx n q) V sc e := by
  obtain ⟨⟨⟨r1, r2⟩, ⟨r3, r4⟩, r5, r6, r7⟩, r8, ⟨⟨r11, r12⟩, ⟨r13, r14⟩, r15⟩, r16, r19, ⟨r20, r20'⟩, r21⟩ := h
  have hok : ∀ x y : sc_T, scOK (x ++ y) → scOK y := by
    intro x
    induction x with
    | nil => intro y h; exact h
    | cons q r ih => intro y h; exact ih y h.2
  have hr : ∀ x y : sc_T, scR a (x ++ y) → scR a y := by
    intro x
    induction x with
    | nil => intro y h; exact h
    | cons q r ih => intro y h; exact ih y h.2
  have key := clz_sc ext sc (a r_named) r14 r13 r15
  have hcx2 : cxR (upa a r_named (clz (a r_scope) (a r_nameOf) sc.length ext.length (a r_named))) b cx := by refine cxR_rows (a := a) ?_ ?_ ?_ cx r11 <;> rfl
  refine ⟨⟨⟨r1, r2⟩, ⟨r3, r4⟩, r5, rfl, r7⟩, ⟨q, rfl, hq, rfl⟩, ⟨⟨hcx2, r12⟩, ⟨?_, hok ext sc r14⟩, key⟩, r16, r19, ⟨by rw [List.length_append] at r20; omega, fun q hq => r20' q (List.mem_append_right _ hq)⟩, r21⟩
  have h2 : ∀ y : sc_T, scR a y → scR (upa a r_named (clz (a r_scope) (a r_nameOf) sc.length ext.length (a r_named))) y := by
    intro y
    induction y with
    | nil => intro _; trivial
    | cons q r ih =>
      obtain ⟨u, v⟩ := q
      intro h
      exact ⟨h.1, ih h.2⟩
  exact h2 sc (hr ext sc r13)
/-- finish, in terms of the reading's state -/
theorem rd_finish (dd : Nat) {m : Nat → Int32} {a : Nat → Nat → Int32} {cx : cx_T} {b0 s l b p V : Nat} {ext sc : sc_T} {e : Int32} (hM : Ms m0 m) (hG : Fg a0 a) (h : sRI tx n m a ((b0, s, l) :: cx) b p V (ext ++ sc) e) (hmk : a r_mark cx.length = nI sc.length) (Q : pv_R) (hQ : ∀ m' a', Ms m0 m' → Fg a0 a' → sRI tx n m' a' cx b p V sc e → (∀ b k V s, Fs a a' b k V s) → Q none (rs m' a')) : pv_call rq_mt (dd + 2) rq_m_R_finish [.ref 0] (rs m a) Q := by
  have hl := sRI_len h
  have hcl : cx.length + 1 ≤ 20 := h.2.2.1.1.2
  have hopen : m r_opened = nI (cx.length + 1) := h.1.2.1.1
  have hsc : m r_scopes = nI (sc.length + ext.length) := by rw [h.1.2.2.2.1, List.length_append, Nat.add_comm]
  rw [List.length_append] at hl
  refine rc_finish dd m a (k := cx.length) (t := sc.length) (j := ext.length) (by omega) hopen hmk (by omega) hsc h.2.2.2.2.1.1 h.2.2.2.2.1.2 Q ?_
  obtain ⟨p0, k1, k2, k3⟩ := h.2.1
  have h2 := cl_sRI h (q := p0) k2
  rw [upd_same k1, k3] at h2
  refine hQ _ _ (Ms_upd (Ms_upd hM _ (by decide)) _ (by decide)) (Fg_Fs hG (Fs_all a _ 0 0 0 0)) ?_ (Fs_all a _)
  obtain ⟨⟨⟨r1, r2⟩, ⟨r3, r4⟩, r5, r6, r7⟩, r8, ⟨⟨r11, r12⟩, r13, r15⟩, r16⟩ := h2
  exact ⟨⟨⟨r1, r2⟩, ⟨rfl, r4⟩, r5, rfl, r7⟩, r8, ⟨⟨r11.2, by have : cx.length + 1 ≤ 20 := r12; omega⟩, r13, r15⟩, r16⟩
/-- begin -/
theorem rd_begin (dd : Nat) {m : Nat → Int32} {a : Nat → Nat → Int32} {cx : cx_T} {b s l p V : Nat} {sc : sc_T} {e : Int32} (hM : Ms m0 m) (hG : Fg a0 a) (h : sRI tx n m a cx (b + 1) p V sc e) (hk : cx.length < 20) (hs : a r_sort b = nI s) (hs2 : s < 256) (hl : a r_label b = nI l - (if l = 0 then 1 else 0)) (hl2 : l < 256) (Q : pv_R) (hQ : ∀ m' a', Ms m0 m' → Fg a0 a' → sRI tx n m' a' ((b, s, l) :: cx) (b + 1) p V sc e → (∀ B V s, Fs a a' B cx.length V s) → (a' r_state cx.length = 0 ∧ a' r_mark cx.length = nI sc.length) → Q none (rs m' a')) : pv_call rq_mt (dd + 1) rq_m_R_begin [.ref 0, .int (nI b)] (rs m a) Q := by
  obtain ⟨⟨⟨r1, r2⟩, ⟨r3, r4⟩, r5, r6, r7⟩, r8, ⟨⟨r11, r12⟩, ⟨r13, r14⟩, r15⟩, r16, r19, r20⟩ := h
  refine rc_begin dd m a (k := cx.length) (by omega) r3 (nI b) Q ?_
  rw [r6]
  have hF : ∀ B V s, Fs a (up2 (up2 (up2 a r_open cx.length (nI b)) r_state cx.length 0) r_mark cx.length (nI sc.length)) B cx.length V s := fun B V s => Fs_op (Fs_op (Fs_op (Fs_refl _ _ _ _ _) _ (by decide) (Nat.le_refl _)) _ (by decide) (Nat.le_refl _)) _ (by decide) (Nat.le_refl _)
  have ho : (up2 (up2 (up2 a r_open cx.length (nI b)) r_state cx.length 0) r_mark cx.length (nI sc.length)) r_open cx.length = nI b := (up2_ne _ _ (fun q => absurd q.1 (by decide))).trans ((up2_ne _ _ (fun q => absurd q.1 (by decide))).trans (up2_eq _ _ _ _))
  have hst : (up2 (up2 (up2 a r_open cx.length (nI b)) r_state cx.length 0) r_mark cx.length (nI sc.length)) r_state cx.length = 0 := (up2_ne _ _ (fun q => absurd q.1 (by decide))).trans (up2_eq _ _ _ _)
  have hmk : (up2 (up2 (up2 a r_open cx.length (nI b)) r_state cx.length 0) r_mark cx.length (nI sc.length)) r_mark cx.length = nI sc.length := up2_eq _ _ _ _
  have hoth : ∀ j, ¬ (37 ≤ j ∧ j ≤ 39) → (up2 (up2 (up2 a r_open cx.length (nI b)) r_state cx.length 0) r_mark cx.length (nI sc.length)) j = a j := fun j hj => funext fun i => (up2_ne _ _ (fun q => hj (by rw [q.1]; decide))).trans ((up2_ne _ _ (fun q => hj (by rw [q.1]; decide))).trans (up2_ne _ _ (fun q => hj (by rw [q.1]; decide))))
  generalize up2 (up2 (up2 a r_open cx.length (nI b)) r_state cx.length 0) r_mark cx.length (nI sc.length) = a2 at *
  have e24 := hoth r_scope (by decide)
  have e20 := hoth r_nameOf (by decide)
  have e3 := hoth r_sort (by decide)
  have e11 := hoth r_label (by decide)
  have hsr : ∀ y : sc_T, scR a y → scR a2 y := by
    intro y
    induction y with
    | nil => intro _; trivial
    | cons q r ih =>
      obtain ⟨u, v⟩ := q
      intro h
      refine ⟨?_, ih h.2⟩
      rw [e24, e20]
      exact h.1
  refine hQ _ a2 (Ms_upd hM _ (by decide)) (Fg_Fs hG (hF 0 0 0)) ⟨⟨⟨r1, r2⟩, ⟨rfl, r4⟩, r5, r6, r7⟩, r8, ⟨⟨⟨⟨⟨ho, by omega⟩, ⟨by rw [e3]; exact hs, hs2⟩, by rw [e11]; exact hl, hl2⟩, cxR_Fs cx (hF (b + 1) 0 0) (Nat.le_refl _) (Nat.le_refl _) (Nat.le_refl _) r11⟩, by show cx.length + 1 ≤ 20; omega⟩, ⟨hsr sc r13, r14⟩, fun w hw => ?_⟩, ⟨r16.1, ?_, ?_⟩, ?_, r20⟩ hF ⟨hst, hmk⟩
  · rw [hoth r_named (by decide)]; exact r15 w hw
  · unfold r_tx; rw [hoth r_row (by decide)]; exact r16.2.1
  · rw [hoth r_row (by decide)]; exact r16.2.2
  · unfold vOK; rw [e24, e20]; exact r19
end TB
