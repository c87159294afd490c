/-! the reference's parse against st -/
def Ms (m0 m : Nat → Int32) : Prop := ∀ j, ¬ (j = 2 ∨ j = 18 ∨ j = 19 ∨ j = 25 ∨ j = 26 ∨ j = 28 ∨ j = 31 ∨ j = 33 ∨ j = 34 ∨ j = 35 ∨ j = 36 ∨ j = 40 ∨ j = 41) → m j = m0 j
def Fg (a0 a : Nat → Nat → Int32) : Prop := ∀ j, ¬ ((3 ≤ j ∧ j ≤ 17) ∨ j = 42 ∨ (37 ≤ j ∧ j ≤ 39) ∨ (20 ≤ j ∧ j ≤ 24) ∨ j = 29 ∨ j = 30 ∨ j = 32) → a j = a0 j
theorem Fg_Fs {a0 a a' : Nat → Nat → Int32} {b k V s : Nat} (h : Fg a0 a) (h2 : Fs a a' b k V s) : Fg a0 a' := fun j hj => (Fs_oth h2 hj).trans (h j hj)
theorem Fg_Fr {a0 a a' : Nat → Nat → Int32} {b k t : Nat} (h : Fg a0 a) (h2 : Fr a a' b k t) : Fg a0 a' := fun j hj => (Fr_oth h2 (by omega)).trans (h j hj)
theorem Ms_Mf {m0 m m' : Nat → Int32} (h : Ms m0 m) (h2 : Mf m m') : Ms m0 m' := fun j hj => (h2 j (by omega)).trans (h j hj)
theorem Ms_upd {m0 m : Nat → Int32} {k : Nat} (h : Ms m0 m) (x : Int32) (hk : k = 2 ∨ k = 18 ∨ k = 19 ∨ k = 25 ∨ k = 26 ∨ k = 28 ∨ k = 31 ∨ k = 33 ∨ k = 34 ∨ k = 35 ∨ k = 36 ∨ k = 40 ∨ k = 41) : Ms m0 (upd m k x) := fun j hj => by
  unfold upd
  rw [if_neg (by intro e; subst e; exact hj hk)]
  exact h j hj
def sFk (P : pv_R) (m0 : Nat → Int32) (a0 : Nat → Nat → Int32) (q : Nat) : Prop := ∀ (m' : Nat → Int32) (a' : Nat → Nat → Int32), Ms m0 m' → (m' r_wrong = nI q ∧ q ≤ 240) → Fg a0 a' → vOK a' → P none (rs m' a')
theorem nI_m1 {q : Nat} (hq : q < 2 ^ 31) : ¬ nI q = -1 := fun e => by
  have := congrArg Int32.toInt e
  rw [nI_toInt hq] at this
  have h2 : (-1 : Int32).toInt = -1 := by decide
  omega
section SS
variable {D n : Nat} {P : pv_R} {m0 : Nat → Int32} {a0 : Nat → Nat → Int32} {tx : Nat → Int32}
theorem fl_Hd {m : Nat → Int32} {a : Nat → Nat → Int32} {q s : Nat} (hMs : Ms m0 m) (hFg : Fg a0 a) (hv : vOK a) (hw : m r_wrong = nI q) (hq : q ≤ 240) (hs : s ≤ 12) (hsc : m r_scopes = nI s) (hF : sFk P m0 a0 q) : Hd (D + 1) P n m a :=
  Hd_fault D P n m a (by rw [hw]; exact nI_m1 (by omega)) hs hsc (hF _ a (Ms_upd hMs _ (by decide)) ⟨hw, hq⟩ hFg hv)
/-- what follows on a stmt -/
def sPost (D n : Nat) (P : pv_R) (m0 : Nat → Int32) (a0 : Nat → Nat → Int32) (tx : Nat → Int32) (a : Nat → Nat → Int32) (cx : cx_T) (b V : Nat) (sc : sc_T) (o : Int32) (pt : Nat) (r : st_R) : Prop := match r with
  | .inl q => sFk P m0 a0 q
  | .inr (q, V1, sc1, t) => ∀ (m' : Nat → Int32) (a' : Nat → Nat → Int32), Ms m0 m' → Fg a0 a' → sRI tx n m' a' cx (b + sp_z t) q V1 sc1 0 → Fs a a' b cx.length V sc.length → BlkS a' V1 t b o pt sc → Hd D P n m' a'
/-- what follows on stmts up to their } : the } is the next sign -/
def lPost (D n : Nat) (P : pv_R) (m0 : Nat → Int32) (a0 : Nat → Nat → Int32) (tx : Nat → Int32) (a : Nat → Nat → Int32) (cx : cx_T) (b V : Nat) (sc : sc_T) (o : Int32) (pt : Nat) (r : st_R) : Prop := match r with
  | .inl q => sFk P m0 a0 q
  | .inr (q, V1, sc1, t) => ∀ (m' : Nat → Int32) (a' : Nat → Nat → Int32) (p' : Nat), Ms m0 m' → Fg a0 a' → sRI tx n m' a' cx (b + sp_z t) p' V1 sc1 0 → (sp_c tx n p' = 125 ∧ q = sp_x tx n (p' + 1)) → Fs a a' b cx.length V sc.length → BlkS a' V1 t b o pt sc → Hd D P n m' a'
abbrev oOf (cx : cx_T) : Int32 := match cx with
  | [] => -1
  | q :: _ => nI q.1
/-- labels are given once -/
def cxU : cx_T → Prop
  | [] => True
  | (_, _, l) :: r => (l = 0 ∨ ¬ cx_lab r l) ∧ cxU r
def sPre (n : Nat) (m0 : Nat → Int32) (a0 : Nat → Nat → Int32) (tx : Nat → Int32) (m : Nat → Int32) (a : Nat → Nat → Int32) (cx : cx_T) (b p V : Nat) (sc : sc_T) (e : Int32) : Prop := (Ms m0 m ∧ Fg a0 a) ∧ sRI tx n m a cx b p V sc e ∧ b + (n - p) ≤ 240 ∧ cxU cx
/-- a stmt -/
def sT0 (D n : Nat) (P : pv_R) (m0 : Nat → Int32) (a0 : Nat → Nat → Int32) (tx : Nat → Int32) (f : Nat) : Prop := ∀ (e : Nat) (m : Nat → Int32) (a : Nat → Nat → Int32) (cx : cx_T) (b p V : Nat) (sc : sc_T) (x pt : Nat), sPre n m0 a0 tx m a cx b p V sc (nI (x / 2)) → x < 4 → 2 * (n - p) + 1 < f → sPost D n P m0 a0 tx a cx b V sc (oOf cx) pt (st tx n f 0 cx b p V sc x) → pv_call rq_mt (e + 6) rq_m_R_readStmt [.ref 0, .int (nI (x % 2)), .int (nI pt)] (rs m a) (HdP D P n)
/-- the step of the open stmt, when it reads stmts -/
def lStep (D n : Nat) (P : pv_R) (m0 : Nat → Int32) (a0 : Nat → Nat → Int32) (tx : Nat → Int32) (a : Nat → Nat → Int32) (cx : cx_T) (b V : Nat) (sc : sc_T) (pt : Nat) : Prop := ∀ (m' : Nat → Int32) (a' : Nat → Nat → Int32) (b' p' V' : Nat) (ext : sc_T), Ms m0 m' → Fg a0 a' → sRI tx n m' a' cx b' p' V' (ext ++ sc) 0 → Fs a a' b cx.length V sc.length → ¬ sp_c tx n p' = 125 → (∀ m'', Ms m0 m'' → sRI tx n m'' a' cx b' p' V' (ext ++ sc) 0 → ∀ e, pv_call rq_mt (e + 6) rq_m_R_readStmt [.ref 0, .int 1, .int (nI pt)] (rs m'' a') (HdP D P n)) → Hd D P n m' a'
def sT1 (D n : Nat) (P : pv_R) (m0 : Nat → Int32) (a0 : Nat → Nat → Int32) (tx : Nat → Int32) (f : Nat) : Prop := ∀ (m : Nat → Int32) (a : Nat → Nat → Int32) (cx : cx_T) (b p V : Nat) (sc : sc_T) (pt : Nat), sPre n m0 a0 tx m a cx b p V sc 0 → 2 * (n - p) + 2 < f → lStep D n P m0 a0 tx a cx b V sc pt → lPost D n P m0 a0 tx a cx b V sc (oOf cx) pt (st tx n f 1 cx b p V sc 0) → Hd D P n m a
theorem sRI_p {m : Nat → Int32} {a : Nat → Nat → Int32} {cx : cx_T} {b p V : Nat} {sc : sc_T} {e : Int32} (h : sRI tx n m a cx b p V sc e) : p ≤ n ∧ sp_x tx n p = p := by
  obtain ⟨p0, h1, h2, h3⟩ := h.2.1
  have := sp_x_le (tx := tx) h2
  rw [h3] at this
  exact ⟨this.2, by rw [← h3]; exact sp_x_x h2⟩
theorem lStep_base {a a' : Nat → Nat → Int32} {cx : cx_T} {b b' V V' : Nat} {sc ext : sc_T} {pt : Nat} (h : lStep D n P m0 a0 tx a cx b V sc pt) (hF : Fs a a' b cx.length V sc.length) (hb : b ≤ b') (hV : V ≤ V') : lStep D n P m0 a0 tx a' cx b' V' (ext ++ sc) pt := by
  intro m1 a1 b1 p1 V1 ext1 k1 k2 k3 k4 k5 k6
  rw [← List.append_assoc] at k3 k6
  exact h m1 a1 b1 p1 V1 (ext1 ++ ext) k1 k2 k3 (Fs_trans hF k4 hb (Nat.le_refl _) hV (by rw [List.length_append]; omega)) k5 k6
end SS
