theorem Cln_1 {th : Int32} {a1 : Nat → Nat → Int32} {y : Std.Format} {b t c ry : Nat} (h4 : ndF a1 b c) (h5 : a1 r_thereBefore b = th ∧ a1 r_thereAfter b = th) (hy : sp_ok y) (hC : Cln th a1 y (b + 1) t ry) : Cln th (up2 (up2 a1 r_around ry (nI b)) r_done t (nI b)) (.tag c y) b t b := by
  refine ⟨⟨?_, ?_⟩, ?_⟩
  · refine Blk_1 hy ?_ (Blk_dn _ (Blk_ar _ hC.1.1 (Or.inr (Or.inr rfl)))) ?_
    · exact ⟨⟨(up2_ne _ _ (fun q => absurd q.1 (by decide))).trans ((up2_ne _ _ (fun q => absurd q.1 (by decide))).trans h4.1.1), (up2_ne _ _ (fun q => absurd q.1 (by decide))).trans ((up2_ne _ _ (fun q => absurd q.1 (by decide))).trans h4.1.2)⟩, (up2_ne _ _ (fun q => absurd q.1 (by decide))).trans ((up2_ne _ _ (fun q => absurd q.1 (by decide))).trans h4.2.1), (up2_ne _ _ (fun q => absurd q.1 (by decide))).trans ((up2_ne _ _ (fun q => absurd q.1 (by decide))).trans h4.2.2)⟩
    · exact (up2_ne _ _ (fun q => absurd q.1 (by decide))).trans (up2_eq _ _ _ _)
  · exact up2_eq _ _ _ _
  · intro i i1 i2
    simp only [sp_z] at i2
    have q : a1 r_thereBefore i = th ∧ a1 r_thereAfter i = th := by
      by_cases e2 : i = b
      · rw [e2]
        exact h5
      · exact hC.2 i (by omega) (by omega)
    exact ⟨(up2_ne _ _ (fun q => absurd q.1 (by decide))).trans ((up2_ne _ _ (fun q => absurd q.1 (by decide))).trans q.1), (up2_ne _ _ (fun q => absurd q.1 (by decide))).trans ((up2_ne _ _ (fun q => absurd q.1 (by decide))).trans q.2)⟩
theorem sp_s_n {s f v : Nat} (hs : s < 256) (_ : f < 256) : sp_s (sp_n s f v) = s := by unfold sp_s sp_n; omega
theorem sp_f_n {s f v : Nat} (hs : s < 256) (hf : f < 256) : sp_f (sp_n s f v) = f := by unfold sp_f sp_n; omega
theorem sp_v_n {s f v : Nat} (hs : s < 256) (hf : f < 256) : sp_v (sp_n s f v) = v := by unfold sp_v sp_n; omega
theorem nodeA_sort (a : Nat → Nat → Int32) (b : Nat) (s f st th : Int32) : r_nodeA a b s f st th r_sort b = s := (up2_ne _ _ (fun q => absurd q.1 (by decide))).trans ((up2_ne _ _ (fun q => absurd q.1 (by decide))).trans ((up2_ne _ _ (fun q => absurd q.1 (by decide))).trans ((up2_ne _ _ (fun q => absurd q.1 (by decide))).trans ((up2_ne _ _ (fun q => absurd q.1 (by decide))).trans ((up2_ne _ _ (fun q => absurd q.1 (by decide))).trans ((up2_ne _ _ (fun q => absurd q.1 (by decide))).trans ((up2_ne _ _ (fun q => absurd q.1 (by decide))).trans ((up2_ne _ _ (fun q => absurd q.1 (by decide))).trans ((up2_ne _ _ (fun q => absurd q.1 (by decide))).trans ((up2_ne _ _ (fun q => absurd q.1 (by decide))).trans ((up2_ne _ _ (fun q => absurd q.1 (by decide))).trans ((up2_ne _ _ (fun q => absurd q.1 (by decide))).trans ((up2_ne _ _ (fun q => absurd q.1 (by decide))).trans (up2_eq _ _ _ _))))))))))))))
theorem nodeA_first (a : Nat → Nat → Int32) (b : Nat) (s f st th : Int32) : r_nodeA a b s f st th r_first b = f := (up2_ne _ _ (fun q => absurd q.1 (by decide))).trans ((up2_ne _ _ (fun q => absurd q.1 (by decide))).trans ((up2_ne _ _ (fun q => absurd q.1 (by decide))).trans ((up2_ne _ _ (fun q => absurd q.1 (by decide))).trans ((up2_ne _ _ (fun q => absurd q.1 (by decide))).trans ((up2_ne _ _ (fun q => absurd q.1 (by decide))).trans ((up2_ne _ _ (fun q => absurd q.1 (by decide))).trans ((up2_ne _ _ (fun q => absurd q.1 (by decide))).trans ((up2_ne _ _ (fun q => absurd q.1 (by decide))).trans ((up2_ne _ _ (fun q => absurd q.1 (by decide))).trans ((up2_ne _ _ (fun q => absurd q.1 (by decide))).trans ((up2_ne _ _ (fun q => absurd q.1 (by decide))).trans ((up2_ne _ _ (fun q => absurd q.1 (by decide))).trans (up2_eq _ _ _ _)))))))))))))
theorem nodeA_around (a : Nat → Nat → Int32) (b : Nat) (s f st th : Int32) : r_nodeA a b s f st th r_around b = -1 := (up2_ne _ _ (fun q => absurd q.1 (by decide))).trans ((up2_ne _ _ (fun q => absurd q.1 (by decide))).trans ((up2_ne _ _ (fun q => absurd q.1 (by decide))).trans ((up2_ne _ _ (fun q => absurd q.1 (by decide))).trans ((up2_ne _ _ (fun q => absurd q.1 (by decide))).trans ((up2_ne _ _ (fun q => absurd q.1 (by decide))).trans ((up2_ne _ _ (fun q => absurd q.1 (by decide))).trans ((up2_ne _ _ (fun q => absurd q.1 (by decide))).trans ((up2_ne _ _ (fun q => absurd q.1 (by decide))).trans ((up2_ne _ _ (fun q => absurd q.1 (by decide))).trans ((up2_ne _ _ (fun q => absurd q.1 (by decide))).trans ((up2_ne _ _ (fun q => absurd q.1 (by decide))).trans (up2_eq _ _ _ _))))))))))))
theorem nodeA_part (a : Nat → Nat → Int32) (b : Nat) (s f st th : Int32) : r_nodeA a b s f st th r_part b = 0 := (up2_ne _ _ (fun q => absurd q.1 (by decide))).trans ((up2_ne _ _ (fun q => absurd q.1 (by decide))).trans ((up2_ne _ _ (fun q => absurd q.1 (by decide))).trans ((up2_ne _ _ (fun q => absurd q.1 (by decide))).trans ((up2_ne _ _ (fun q => absurd q.1 (by decide))).trans ((up2_ne _ _ (fun q => absurd q.1 (by decide))).trans ((up2_ne _ _ (fun q => absurd q.1 (by decide))).trans ((up2_ne _ _ (fun q => absurd q.1 (by decide))).trans ((up2_ne _ _ (fun q => absurd q.1 (by decide))).trans ((up2_ne _ _ (fun q => absurd q.1 (by decide))).trans ((up2_ne _ _ (fun q => absurd q.1 (by decide))).trans (up2_eq _ _ _ _)))))))))))
theorem nodeA_variable (a : Nat → Nat → Int32) (b : Nat) (s f st th : Int32) : r_nodeA a b s f st th r_variable b = -1 := (up2_ne _ _ (fun q => absurd q.1 (by decide))).trans ((up2_ne _ _ (fun q => absurd q.1 (by decide))).trans ((up2_ne _ _ (fun q => absurd q.1 (by decide))).trans ((up2_ne _ _ (fun q => absurd q.1 (by decide))).trans ((up2_ne _ _ (fun q => absurd q.1 (by decide))).trans ((up2_ne _ _ (fun q => absurd q.1 (by decide))).trans ((up2_ne _ _ (fun q => absurd q.1 (by decide))).trans ((up2_ne _ _ (fun q => absurd q.1 (by decide))).trans ((up2_ne _ _ (fun q => absurd q.1 (by decide))).trans ((up2_ne _ _ (fun q => absurd q.1 (by decide))).trans (up2_eq _ _ _ _))))))))))
theorem nodeA_isStmt (a : Nat → Nat → Int32) (b : Nat) (s f st th : Int32) : r_nodeA a b s f st th r_isStmt b = st := (up2_ne _ _ (fun q => absurd q.1 (by decide))).trans ((up2_ne _ _ (fun q => absurd q.1 (by decide))).trans ((up2_ne _ _ (fun q => absurd q.1 (by decide))).trans ((up2_ne _ _ (fun q => absurd q.1 (by decide))).trans ((up2_ne _ _ (fun q => absurd q.1 (by decide))).trans ((up2_ne _ _ (fun q => absurd q.1 (by decide))).trans ((up2_ne _ _ (fun q => absurd q.1 (by decide))).trans ((up2_ne _ _ (fun q => absurd q.1 (by decide))).trans ((up2_ne _ _ (fun q => absurd q.1 (by decide))).trans (up2_eq _ _ _ _)))))))))
theorem nodeA_thereBefore (a : Nat → Nat → Int32) (b : Nat) (s f st th : Int32) : r_nodeA a b s f st th r_thereBefore b = th := (up2_ne _ _ (fun q => absurd q.1 (by decide))).trans ((up2_ne _ _ (fun q => absurd q.1 (by decide))).trans ((up2_ne _ _ (fun q => absurd q.1 (by decide))).trans ((up2_ne _ _ (fun q => absurd q.1 (by decide))).trans ((up2_ne _ _ (fun q => absurd q.1 (by decide))).trans ((up2_ne _ _ (fun q => absurd q.1 (by decide))).trans ((up2_ne _ _ (fun q => absurd q.1 (by decide))).trans ((up2_ne _ _ (fun q => absurd q.1 (by decide))).trans (up2_eq _ _ _ _))))))))
theorem nodeA_thereAfter (a : Nat → Nat → Int32) (b : Nat) (s f st th : Int32) : r_nodeA a b s f st th r_thereAfter b = th := (up2_ne _ _ (fun q => absurd q.1 (by decide))).trans ((up2_ne _ _ (fun q => absurd q.1 (by decide))).trans ((up2_ne _ _ (fun q => absurd q.1 (by decide))).trans ((up2_ne _ _ (fun q => absurd q.1 (by decide))).trans ((up2_ne _ _ (fun q => absurd q.1 (by decide))).trans ((up2_ne _ _ (fun q => absurd q.1 (by decide))).trans ((up2_ne _ _ (fun q => absurd q.1 (by decide))).trans (up2_eq _ _ _ _)))))))
theorem nodeA_label (a : Nat → Nat → Int32) (b : Nat) (s f st th : Int32) : r_nodeA a b s f st th r_label b = -1 := (up2_ne _ _ (fun q => absurd q.1 (by decide))).trans ((up2_ne _ _ (fun q => absurd q.1 (by decide))).trans ((up2_ne _ _ (fun q => absurd q.1 (by decide))).trans ((up2_ne _ _ (fun q => absurd q.1 (by decide))).trans ((up2_ne _ _ (fun q => absurd q.1 (by decide))).trans ((up2_ne _ _ (fun q => absurd q.1 (by decide))).trans (up2_eq _ _ _ _))))))
theorem nodeA_target (a : Nat → Nat → Int32) (b : Nat) (s f st th : Int32) : r_nodeA a b s f st th r_target b = -1 := (up2_ne _ _ (fun q => absurd q.1 (by decide))).trans ((up2_ne _ _ (fun q => absurd q.1 (by decide))).trans ((up2_ne _ _ (fun q => absurd q.1 (by decide))).trans ((up2_ne _ _ (fun q => absurd q.1 (by decide))).trans ((up2_ne _ _ (fun q => absurd q.1 (by decide))).trans (up2_eq _ _ _ _)))))
theorem nodeA_isMarked (a : Nat → Nat → Int32) (b : Nat) (s f st th : Int32) : r_nodeA a b s f st th r_isMarked b = 0 := (up2_ne _ _ (fun q => absurd q.1 (by decide))).trans ((up2_ne _ _ (fun q => absurd q.1 (by decide))).trans ((up2_ne _ _ (fun q => absurd q.1 (by decide))).trans ((up2_ne _ _ (fun q => absurd q.1 (by decide))).trans (up2_eq _ _ _ _))))
theorem nodeA_hasOther (a : Nat → Nat → Int32) (b : Nat) (s f st th : Int32) : r_nodeA a b s f st th r_hasOther b = 0 := (up2_ne _ _ (fun q => absurd q.1 (by decide))).trans ((up2_ne _ _ (fun q => absurd q.1 (by decide))).trans ((up2_ne _ _ (fun q => absurd q.1 (by decide))).trans (up2_eq _ _ _ _)))
theorem nodeA_hasCatch (a : Nat → Nat → Int32) (b : Nat) (s f st th : Int32) : r_nodeA a b s f st th r_hasCatch b = 0 := (up2_ne _ _ (fun q => absurd q.1 (by decide))).trans ((up2_ne _ _ (fun q => absurd q.1 (by decide))).trans (up2_eq _ _ _ _))
theorem nodeA_hasEnd (a : Nat → Nat → Int32) (b : Nat) (s f st th : Int32) : r_nodeA a b s f st th r_hasEnd b = 0 := (up2_ne _ _ (fun q => absurd q.1 (by decide))).trans (up2_eq _ _ _ _)
theorem nodeA_hasElse (a : Nat → Nat → Int32) (b : Nat) (s f st th : Int32) : r_nodeA a b s f st th r_hasElse b = 0 := up2_eq _ _ _ _
/-- the rows behind a new node, as its code says -/
theorem nodeA_F (a : Nat → Nat → Int32) (b : Nat) {s f : Nat} (hs : s < 256) (hf : f < 256) (th : Int32) : ndF (r_nodeA a b (nI s) (nI f) 0 th) b (sp_n s f 0) ∧ ((r_nodeA a b (nI s) (nI f) 0 th) r_thereBefore b = th ∧ (r_nodeA a b (nI s) (nI f) 0 th) r_thereAfter b = th) := by
  unfold ndF
  rw [sp_s_n hs hf, sp_f_n hs hf, sp_v_n hs hf, nodeA_sort, nodeA_first, nodeA_variable, nodeA_isStmt, nodeA_thereBefore, nodeA_thereAfter]
  exact ⟨⟨⟨rfl, rfl⟩, by decide, rfl⟩, rfl, rfl⟩
theorem nodeA_V (a : Nat → Nat → Int32) (b : Nat) {s f v : Nat} (hs : s < 256) (hf : f < 256) (th : Int32) : ndF (up2 (r_nodeA a b (nI s) (nI f) 0 th) r_variable b (nI v)) b (sp_n s f (v + 1)) ∧ ((up2 (r_nodeA a b (nI s) (nI f) 0 th) r_variable b (nI v)) r_thereBefore b = th ∧ (up2 (r_nodeA a b (nI s) (nI f) 0 th) r_variable b (nI v)) r_thereAfter b = th) := by
  unfold ndF
  rw [sp_s_n hs hf, sp_f_n hs hf, sp_v_n hs hf, nI_pred]
  exact ⟨⟨⟨(up2_ne _ _ (fun q => absurd q.1 (by decide))).trans (nodeA_sort _ _ _ _ _ _), (up2_ne _ _ (fun q => absurd q.1 (by decide))).trans (nodeA_first _ _ _ _ _ _)⟩, up2_eq _ _ _ _, (up2_ne _ _ (fun q => absurd q.1 (by decide))).trans (nodeA_isStmt _ _ _ _ _ _)⟩, (up2_ne _ _ (fun q => absurd q.1 (by decide))).trans (nodeA_thereBefore _ _ _ _ _ _), (up2_ne _ _ (fun q => absurd q.1 (by decide))).trans (nodeA_thereAfter _ _ _ _ _ _)⟩
theorem Blk_first {a : Nat → Nat → Int32} {u : Std.Format} {b r : Nat} (h : Blk a u b r) : a r_first r = nI (sp_1 u) := by
  unfold Blk at h
  split at h
  · rw [h.1]; exact h.2.1.2
  · exact h.1.2.1.2
  · exact h.1.2.1.2
  · rw [h.1.1]; exact h.1.2.1.2
  · exact h.elim
theorem sp_1_lt (u : Std.Format) : sp_1 u < 256 := by
  unfold sp_1
  split
  · unfold sp_f; omega
  · decide
def Mw (m0 m : Nat → Int32) : Prop := ∀ j, ¬ j = 35 → ¬ j = 36 → m j = m0 j
def Mf (m0 m : Nat → Int32) : Prop := ∀ j, ¬ (j = 2 ∨ j = 26 ∨ j = 28 ∨ j = 31 ∨ j = 33 ∨ j = 34 ∨ j = 35 ∨ j = 36) → m j = m0 j
theorem Mw_wb {m0 m : Nat → Int32} (h : Mw m0 m) (w g : Int32) : Mw m0 (wb m w g) := by
  intro j h1 h2
  unfold wb upd
  rw [if_neg h2, if_neg h1]
  exact h j h1 h2
theorem Mf_em {m0 m : Nat → Int32} (h : Mw m0 m) (p b k t z : Nat) : Mf m0 (em m p b k t z) := by
  intro j hj
  unfold em upd
  rw [if_neg (show ¬ j = 34 by omega), if_neg (show ¬ j = 33 by omega), if_neg (show ¬ j = 31 by omega), if_neg (show ¬ j = 2 by omega), if_neg (show ¬ j = 26 by omega)]
  exact h j (by omega) (by omega)
theorem Mf_wr {m0 m : Nat → Int32} (h : Mf m0 m) (x : Int32) : Mf m0 (upd m r_wrong x) := by
  intro j hj
  unfold upd
  rw [if_neg (by show ¬ j = 28; omega)]
  exact h j hj
/-- what an e's reading is given: the text, the scopes, the names -/
def eCx (n sc : Nat) (m0 : Nat → Int32) (a0 : Nat → Nat → Int32) : Prop := (n ≤ 240 ∧ sc ≤ 12) ∧ (m0 r_size = nI n ∧ m0 r_wrong = -1 ∧ m0 r_scopes = nI sc) ∧ (∀ i, (a0 r_row i).toInt8.toInt32 = a0 r_row i) ∧ ∀ u, u < 26 → (a0 r_named u = -1 ∨ ∃ v, v < 12 ∧ a0 r_named u = nI v)
def eFk (P : pv_R) (m0 : Nat → Int32) (a0 : Nat → Nat → Int32) (q : Nat) : Prop := ∀ (m' : Nat → Int32) (a' : Nat → Nat → Int32), Mf m0 m' → m' r_wrong = nI q → Fr a0 a' 0 0 0 → P (some (.int (-1))) (rs m' a')
def gB (d : Nat) (P : pv_R) (st γ : Int32) (m : Nat → Int32) (a : Nat → Nat → Int32) (p b k t z : Nat) : Prop := ∀ L : pv_L, (L = [] ∨ ∃ c, L = [(5, .int c)]) → pv_go rq_T21 0 (pv_call rq_mt (d + 4)) P (26, eL st 1 γ 1 ++ L, [], rs (em m p b k t z) a)
def gZ (d : Nat) (P : pv_R) (st : Int32) (m : Nat → Int32) (a : Nat → Nat → Int32) (p b k t z : Nat) : Prop := ∀ g c : Int32, pv_go rq_T21 0 (pv_call rq_mt (d + 4)) P (259, eM st 0 g 1 c, [], rs (em m p b k t z) a)
abbrev eth (a0 : Nat → Nat → Int32) (sc : Nat) : Int32 := thr (a0 r_scope) sc
/-- what follows on an e's reading, by its answer -/
def ePost (d n sc : Nat) (st : Int32) (P : pv_R) (m0 : Nat → Int32) (a0 : Nat → Nat → Int32) (lev : Nat) (a : Nat → Nat → Int32) (b k t z : Nat) (r : sp_R) : Prop := match r with
  | .inl q => eFk P m0 a0 q
  | .inr (q, u) => ∀ (m : Nat → Int32) (a' : Nat → Nat → Int32) (p0 K T Z : Nat), Mw m0 m → (p0 ≤ n ∧ sp_x (r_tx a0) n p0 = q) → Fr a a' b k t → Pnd (eth a0 sc) lev a' u b k t z K T Z → gZ d P st m a' p0 (b + sp_z u) K T Z
def ePost4 (d n sc : Nat) (st : Int32) (P : pv_R) (m0 : Nat → Int32) (a0 : Nat → Nat → Int32) (a : Nat → Nat → Int32) (b k t z : Nat) (r : sp_R) : Prop := match r with
  | .inl q => eFk P m0 a0 q
  | .inr (q, u) => ∀ (m : Nat → Int32) (a' : Nat → Nat → Int32) (p0 x : Nat), Mw m0 m → (p0 ≤ n ∧ sp_x (r_tx a0) n p0 = q) → Fr a a' b k t → Cln (eth a0 sc) a' u b t x → gZ d P st m a' p0 (b + sp_z u) k (t + 1) z
theorem ePost_base {d n sc : Nat} {st : Int32} {P : pv_R} {m0 : Nat → Int32} {a0 a a' : Nat → Nat → Int32} {lev b k t z : Nat} {r : sp_R} (hF : Fr a a' b k t) (h : ePost d n sc st P m0 a0 lev a b k t z r) : ePost d n sc st P m0 a0 lev a' b k t z r := by
  rcases r with q | ⟨q, u⟩
  · exact h
  · exact fun m a'' p0 K T Z h1 h2 h3 h4 => h m a'' p0 K T Z h1 h2 (Fr_trans hF h3 (Nat.le_refl _) (Nat.le_refl _) (Nat.le_refl _)) h4
def ePre (n : Nat) (m0 : Nat → Int32) (a0 : Nat → Nat → Int32) (lv p : Nat) (m : Nat → Int32) (a : Nat → Nat → Int32) (p0 b k t : Nat) : Prop := (lv < 30 ∧ Mw m0 m ∧ Fr a0 a 0 0 0) ∧ (p0 ≤ n ∧ sp_x (r_tx a0) n p0 = p) ∧ (b + (n - p) ≤ 250 ∧ t ≤ k)
def top3 (x : Int32) : Prop := ¬ x = 33 ∧ ¬ x = 38 ∧ ¬ x = 124
def top2 (x : Int32) : Prop := ¬ x = 33 ∧ ¬ x = 38
def hGam (tx : Nat → Int32) (n p : Nat) (γ : Int32) : Prop := γ = 0 ∨ ¬ (sp_nm (sp_c tx n p) ∧ sp_c tx n (sp_x tx n (p + 1)) = 61)
section ET
variable (d n sc : Nat) (st : Int32) (P : pv_R) (m0 : Nat → Int32) (a0 : Nat → Nat → Int32)
def eT0 (f : Nat) : Prop := ∀ (lv p : Nat) (m : Nat → Int32) (a : Nat → Nat → Int32) (p0 b k t : Nat), ePre n m0 a0 lv p m a p0 b k t → k ≤ 3 * lv → 8 * (n - p) + 5 < f → top3 (eTop a k) → ePost d n sc st P m0 a0 1 a b k t (lv + 1) (sp_e (r_tx a0) n (a0 r_named) f 0 lv p .nil) → gB d P st 1 m a p0 b k t (lv + 1)
def eT1 (f : Nat) : Prop := ∀ (lv p : Nat) (m : Nat → Int32) (a : Nat → Nat → Int32) (p0 b k t : Nat) (γ : Int32), ePre n m0 a0 lv p m a p0 b k t → k ≤ 3 * lv → 8 * (n - p) + 4 < f → top3 (eTop a k) → hGam (r_tx a0) n p γ → ePost d n sc st P m0 a0 1 a b k t (lv + 1) (sp_e (r_tx a0) n (a0 r_named) f 1 lv p .nil) → gB d P st γ m a p0 b k t (lv + 1)
def eT2 (f : Nat) : Prop := ∀ (lv p : Nat) (m : Nat → Int32) (a : Nat → Nat → Int32) (p0 b k t : Nat) (γ : Int32), ePre n m0 a0 lv p m a p0 b k t → k ≤ 3 * lv → 8 * (n - p) + 3 < f → top3 (eTop a k) → hGam (r_tx a0) n p γ → ePost d n sc st P m0 a0 2 a b k t (lv + 1) (sp_e (r_tx a0) n (a0 r_named) f 2 lv p .nil) → gB d P st γ m a p0 b k t (lv + 1)
def eT3 (f : Nat) : Prop := ∀ (lv p : Nat) (m : Nat → Int32) (a : Nat → Nat → Int32) (p0 b k t : Nat) (γ : Int32), ePre n m0 a0 lv p m a p0 b k t → k ≤ 3 * lv + 1 → 8 * (n - p) + 2 < f → top2 (eTop a k) → hGam (r_tx a0) n p γ → ePost d n sc st P m0 a0 3 a b k t (lv + 1) (sp_e (r_tx a0) n (a0 r_named) f 3 lv p .nil) → gB d P st γ m a p0 b k t (lv + 1)
def eT4 (f : Nat) : Prop := ∀ (lv p : Nat) (m : Nat → Int32) (a : Nat → Nat → Int32) (p0 b k t : Nat) (γ : Int32), ePre n m0 a0 lv p m a p0 b k t → k ≤ 3 * lv + 2 → 8 * (n - p) + 1 < f → hGam (r_tx a0) n p γ → ePost4 d n sc st P m0 a0 a b k t (lv + 1) (sp_e (r_tx a0) n (a0 r_named) f 4 lv p .nil) → gB d P st γ m a p0 b k t (lv + 1)
def eT5 (f : Nat) : Prop := ∀ (lv p : Nat) (v : Std.Format) (m : Nat → Int32) (a : Nat → Nat → Int32) (p0 b k t K T Z : Nat), ePre n m0 a0 lv p m a p0 (b + sp_z v) k t → k ≤ 3 * lv → 8 * (n - p) + 2 < f → top3 (eTop a k) → sp_ok v → Pnd (eth a0 sc) 2 a v b k t (lv + 1) K T Z → ePost d n sc st P m0 a0 2 a b k t (lv + 1) (sp_e (r_tx a0) n (a0 r_named) f 5 lv p v) → gZ d P st m a p0 (b + sp_z v) K T Z
def eT6 (f : Nat) : Prop := ∀ (lv p : Nat) (v : Std.Format) (m : Nat → Int32) (a : Nat → Nat → Int32) (p0 b k t K T Z : Nat), ePre n m0 a0 lv p m a p0 (b + sp_z v) k t → k ≤ 3 * lv + 1 → 8 * (n - p) + 1 < f → top2 (eTop a k) → sp_ok v → Pnd (eth a0 sc) 3 a v b k t (lv + 1) K T Z → ePost d n sc st P m0 a0 3 a b k t (lv + 1) (sp_e (r_tx a0) n (a0 r_named) f 6 lv p v) → gZ d P st m a p0 (b + sp_z v) K T Z
end ET
section ES
variable {d n sc : Nat} {st : Int32} {P : pv_R} {m0 : Nat → Int32} {a0 : Nat → Nat → Int32}
theorem eCx_nx (hC : eCx n sc m0 a0) {a : Nat → Nat → Int32} (hF : Fr a0 a 0 0 0) (p : Nat) : r_nx a n p = sp_x (r_tx a0) n p := by
  have e : a r_row = a0 r_row := Fr_oth hF (by decide)
  rw [r_nx_sp (by rw [e]; exact hC.2.2.1)]
  unfold r_tx
  rw [e]
theorem eCx_ch {a : Nat → Nat → Int32} (hF : Fr a0 a 0 0 0) (q : Nat) : r_ch a n q = sp_c (r_tx a0) n q := by
  have e : a r_row = a0 r_row := Fr_oth hF (by decide)
  rw [r_ch_sp]
  unfold r_tx
  rw [e]
theorem go_want {m : Nat → Int32} {a : Nat → Nat → Int32} {p b k t z : Nat} {γ c : Int32} (hw : m r_wrong = -1) (h : gB d P st γ m a p b k t z) : pv_go rq_T21 0 (pv_call rq_mt (d + 4)) P (259, eM st 1 γ 1 c, [], rs (em m p b k t z) a) :=
  rc_e_want (d + 3) (em m p b k t z) a hw st 1 γ c (by decide) P (h [(5, .int c)] (Or.inr ⟨c, rfl⟩))
theorem gZ_O (hC : eCx n sc m0 a0) {m : Nat → Int32} {a : Nat → Nat → Int32} {p0 q B K T Z : Nat} (hm : Mw m0 m) (hF : Fr a0 a 0 0 0) (hp : p0 ≤ n ∧ sp_x (r_tx a0) n p0 = q) (hK : K ≤ 300) (htop : ¬ eTop a K = 33) (h : pv_call rq_mt (d + 4) rq_m_R_readOperator [.ref 0, .int (sp_c (r_tx a0) n q)] (rs (em m q B K T Z) a) (fun o S => ∃ (r : Int32) (m' : Nat → Int32) (a' : Nat → Nat → Int32), o = some (.int r) ∧ S = rs m' a' ∧ pv_go rq_T21 0 (pv_call rq_mt (d + 4)) P (259, eM st (if r = 0 ∨ m' r_wantsMore = 0 then 0 else 1) (m' r_beginsMore) r (sp_c (r_tx a0) n q), [], rs m' a'))) : gZ d P st m a p0 B K T Z := by
  intro g c
  have hw : m r_wrong = -1 := (hm 28 (by decide) (by decide)).trans hC.2.1.2.1
  have hsz : m r_size = nI n := (hm 27 (by decide) (by decide)).trans hC.2.1.1
  refine rc_e_have (d + 3) (em m p0 B K T Z) a hw hK rfl htop st g c P ?_
  refine rc_e_O (d + 2) m a hC.1.1 hp.1 hsz hw st g c P ?_
  rw [eCx_nx hC hF, hp.2, eCx_ch hF]
  exact h
theorem sp_e_30 {tx nm : Nat → Int32} {f g lv p : Nat} {t : Std.Format} (h : 30 ≤ lv) (hg : g = 0 ∨ g = 1 ∨ g = 4) : sp_e tx n nm f g lv p t = .inl p := by
  cases f with
  | zero => rfl
  | succ f =>
    rcases hg with rfl | rfl | rfl
    · rw [sp_e0, if_pos h]
    · rw [sp_e1, if_pos h]
    · rw [sp_e4, if_pos h]
/-- an operator is pushed behind a tree that is read: what its node and its place on the stack are -/
theorem op_push {th : Int32} {a a1 : Nat → Nat → Int32} {v : Std.Format} {b B k t r s : Nat} {w : Int32} (hs : s < 256) (hsw : w = nI s) (hB : B = b + sp_z v) (hF : Fr a a1 b k t) (hC : Cln th a1 v b t r) : ∀ a2, a2 = up2 (up2 (r_nodeA a1 B w (a1 r_first r) 0 th) r_opSign k w) r_opNode k (nI B) → (Fr a a2 b k t ∧ Fr a1 a2 B k (t + 1)) ∧ (a2 r_opSign k = w ∧ a2 r_opNode k = nI B) ∧ ndF a2 B (sp_n s (sp_1 v) 0) ∧ (a2 r_thereBefore B = th ∧ a2 r_thereAfter B = th) ∧ Cln th a2 v b t r := by
  intro a2 e
  rw [Blk_first hC.1.1] at e
  have f2 : Fr a1 a2 B k (t + 1) := by rw [e]; exact Fr_on (Fr_op (Fr_node (Fr_refl _ _ _ _) (Nat.le_refl _) _ _ _ _) _ (Nat.le_refl _)) _ (Nat.le_refl _)
  have f3 : Fr (r_nodeA a1 B (nI s) (nI (sp_1 v)) 0 th) a2 (B + 1) k (t + 1) := by rw [e, hsw]; exact Fr_on (Fr_op (Fr_refl _ _ _ _) _ (Nat.le_refl _)) _ (Nat.le_refl _)
  obtain ⟨n1, n2, n3⟩ := nodeA_F a1 B hs (sp_1_lt v) th
  refine ⟨⟨Fr_trans hF f2 (by omega) (Nat.le_refl _) (by omega), f2⟩, ⟨?_, ?_⟩, ndF_Fr f3 (by omega) n1, ⟨(Fr_row f3 (by decide) (by decide) (by omega)).trans n2, (Fr_row f3 (by decide) (by decide) (by omega)).trans n3⟩, Cln_Fr f2 (by omega) (by omega) hC⟩
  · rw [e]; exact (up2_ne _ _ (fun q => absurd q.1 (by decide))).trans (up2_eq _ _ _ _)
  · rw [e]; exact up2_eq _ _ _ _
theorem eT6_step (hC : eCx n sc m0 a0) {f : Nat} (i4 : eT4 d n sc st P m0 a0 f) (i6 : eT6 d n sc st P m0 a0 f) : eT6 d n sc st P m0 a0 (f + 1) := by
  intro lv p v m a p0 b k t K T Z hpre hk hf htop hv hP hpost
  obtain ⟨⟨hlv, hm, hF⟩, hp, hb, ht⟩ := hpre
  have x0 := sp_x_le (tx := r_tx a0) hp.1
  rw [hp.2] at x0
  have hK := hP.1.1.2
  by_cases hc : sp_c (r_tx a0) n p = 38
  · have hpn := sp_c_lt hc (by decide)
    have x1 := sp_x_le (tx := r_tx a0) (n := n) (p := p + 1) (by omega)
    rw [sp_e6, if_pos hc] at hpost
    obtain ⟨a1, r, ⟨hF1, hCl⟩, hrw⟩ := Pnd_rw (x := 1) (y := 0) (w := 0) hP ⟨fun _ => by decide, fun q => by omega, fun q => by omega⟩ (fun q => by
      rcases q with q | q | q
      · exact htop.2 q.1
      · exact q.2 rfl
      · exact q.2 rfl)
    have hr := Blk_root hCl.1.1
    refine gZ_O hC hm hF hp (by omega) (Pnd_top hP htop.1) ?_
    rw [hc]
    have hsc : m r_scopes = nI sc := (hm 25 (by decide) (by decide)).trans hC.2.1.2.2
    have hF01 : Fr a0 a1 0 0 0 := Fr_trans hF hF1 (by omega) (by omega) (by omega)
    have hth : thr (a1 r_scope) sc = eth a0 sc := by rw [Fr_oth hF01 (j := r_scope) (by decide)]
    refine rc_ro_and d m a a1 hC.1.2 hsc (by omega) (by omega) (by omega) hCl.1.2 (by omega) (hrw (d + 1) (wb m 1 0) p (b + sp_z v)) _ ?_
    rw [hth]
    obtain ⟨⟨o1, o2⟩, ⟨o3, o4⟩, o5, o6, o7⟩ := op_push (w := 38) (s := 38) (by decide) rfl rfl hF1 hCl _ rfl
    generalize up2 (up2 (r_nodeA a1 (b + sp_z v) 38 (a1 r_first r) 0 (eth a0 sc)) r_opSign k 38) r_opNode k (nI (b + sp_z v)) = a2 at o1 o2 o3 o4 o5 o6 o7 ⊢
    refine ⟨1, _, _, rfl, rfl, ?_⟩
    refine go_want (γ := 0) (m := wb m 1 0) ((hm 28 (by decide) (by decide)).trans hC.2.1.2.1) ?_
    refine i4 lv _ (wb m 1 0) a2 (p + 1) (b + sp_z v + 1) (k + 1) (t + 1) 0 ⟨⟨hlv, Mw_wb hm 1 0, Fr_trans hF o1 (by omega) (by omega) (by omega)⟩, ⟨by omega, rfl⟩, by omega, by omega⟩ (by omega) (by omega) (Or.inl rfl) ?_
    cases hr4 : sp_e (r_tx a0) n (a0 r_named) f 4 lv (sp_x (r_tx a0) n (p + 1)) .nil with
    | inl q => rw [hr4] at hpost; exact hpost
    | inr qu =>
      obtain ⟨q1, u1⟩ := qu
      rw [hr4] at hpost
      obtain ⟨⟨⟨g1, g2⟩, ⟨g3, g4⟩, g5⟩, -⟩ := sp_e_good f 4 lv _ .nil q1 u1 (by omega) x1.2 (by omega) hr4
      simp only [show ¬ (4 = 5 ∨ 4 = 6) by omega, if_false] at g1 g5
      intro m' a' p1 x hm' hp1 hF' hCl'
      have hPn : Pnd (eth a0 sc) 3 a' (.tag (sp_n 38 (sp_1 v) 0) (.append v u1)) b k t (lv + 1) (k + 1) (t + 1 + 1) (lv + 1) := Pnd_2 (s := 38) (ly := 4) (fun p q w hok => ⟨⟨fun q => by omega, fun q => by omega, fun q => by omega⟩, Or.inl ⟨rfl, hok.1 (by omega)⟩⟩) (Or.inl rfl) (by omega) ht rfl (by omega) hF' o3 o4 o7 o5 o6 g4 (Pnd_of (by omega) hCl')
      have ez : b + sp_z (.tag (sp_n 38 (sp_1 v) 0) (.append v u1)) = b + sp_z v + 1 + sp_z u1 := by simp only [sp_z]; omega
      have hFa : Fr a a' b k t := Fr_trans o1 hF' (by omega) (by omega) (by omega)
      have res := i6 lv q1 (.tag (sp_n 38 (sp_1 v) 0) (.append v u1)) m' a' p1 b k t (k + 1) (t + 1 + 1) (lv + 1) ⟨⟨hlv, hm', Fr_trans hF hFa (by omega) (by omega) (by omega)⟩, hp1, by rw [ez]; omega, ht⟩ hk (by omega) (by rw [eTop_Fr hFa (Nat.le_refl _)]; exact htop) (sp_ok_2 hv g4) hPn (ePost_base hFa hpost)
      rw [ez] at res
      exact res
  · rw [sp_e6, if_neg hc] at hpost
    exact hpost m a p0 K T Z hm hp (Fr_refl _ _ _ _) hP
end ES
