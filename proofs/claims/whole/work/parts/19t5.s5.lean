def vOK (a : Nat → Nat → Int32) : Prop := (∀ i, i < 12 → ∃ v, v < 12 ∧ a r_scope i = nI v) ∧ (∀ v, v < 12 → ∃ u, u < 26 ∧ a r_nameOf v = nI u)
/-- the reference while it reads statements: cx around, b nodes, at p, V variables, sc there -/
def sRI (tx : Nat → Int32) (n : Nat) (m : Nat → Int32) (a : Nat → Nat → Int32) (cx : cx_T) (b p V : Nat) (sc : sc_T) (e : Int32) : Prop :=
  ((m r_size = nI n ∧ m r_wrong = -1) ∧ (m r_opened = nI cx.length ∧ m r_nodes = nI b) ∧ (m r_variables = nI V ∧ m r_scopes = nI sc.length ∧ m r_isCase = e)) ∧
  (∃ p0, m r_at = nI p0 ∧ p0 ≤ n ∧ sp_x tx n p0 = p) ∧
  ((cxR a b cx ∧ cx.length ≤ 20) ∧ (scR a sc ∧ scOK sc) ∧ ∀ u, u < 26 → a r_named u = nmOf sc u) ∧
  ((n ≤ 240 ∧ r_tx a = tx ∧ ∀ i, (a r_row i).toInt8.toInt32 = a r_row i) ∧ vOK a ∧ ((sc.length ≤ V ∧ ∀ q ∈ sc, q.2 < V) ∧ V ≤ 12))
theorem cxR_Fr {a a' : Nat → Nat → Int32} {B k t b b' : Nat} (h : Fr a a' B k t) (hb : b ≤ B) (hb' : b ≤ b') : ∀ cx : cx_T, cxR a b cx → cxR a' b' cx := by
  intro cx
  induction cx with
  | nil => intro _; trivial
  | cons q r ih =>
    obtain ⟨i, s, l⟩ := q
    intro hc
    obtain ⟨⟨⟨h1, h2⟩, ⟨h3, h4⟩, h5, h6⟩, h7⟩ := hc
    exact ⟨⟨⟨by rw [Fr_oth h (j := r_open) (by decide)]; exact h1, by omega⟩, ⟨(Fr_row h (by decide) (by decide) (by omega)).trans h3, h4⟩, (Fr_row h (by decide) (by decide) (by omega)).trans h5, h6⟩, ih h7⟩
theorem cxR_Fs {a a' : Nat → Nat → Int32} {B V s b b' k : Nat} : ∀ cx : cx_T, Fs a a' B k V s → b ≤ B → b ≤ b' → cx.length ≤ k → cxR a b cx → cxR a' b' cx := by
  intro cx
  induction cx with
  | nil => intro _ _ _ _ _; trivial
  | cons q r ih =>
    obtain ⟨i, s, l⟩ := q
    intro h hb hb' hk hc
    obtain ⟨⟨⟨h1, h2⟩, ⟨h3, h4⟩, h5, h6⟩, h7⟩ := hc
    have hk : r.length + 1 ≤ k := hk
    exact ⟨⟨⟨(Fs_st h (by decide) (by omega)).trans h1, by omega⟩, ⟨(Fs_row h (by decide) (by omega)).trans h3, h4⟩, (Fs_row h (by decide) (by omega)).trans h5, h6⟩, ih h hb hb' (by omega) h7⟩
theorem scR_Fr {a a' : Nat → Nat → Int32} {B k t : Nat} (h : Fr a a' B k t) : ∀ sc : sc_T, scR a sc → scR a' sc := by
  intro sc
  induction sc with
  | nil => intro _; trivial
  | cons q r ih =>
    obtain ⟨u, v⟩ := q
    intro hc
    exact ⟨⟨by rw [Fr_oth h (j := r_scope) (by decide)]; exact hc.1.1, by rw [Fr_oth h (j := r_nameOf) (by decide)]; exact hc.1.2⟩, ih hc.2⟩
theorem vOK_Fr {a a' : Nat → Nat → Int32} {B k t : Nat} (h : Fr a a' B k t) (hv : vOK a) : vOK a' := by
  unfold vOK
  rw [Fr_oth h (j := r_scope) (by decide), Fr_oth h (j := r_nameOf) (by decide)]
  exact hv
theorem tx_Fr {a a' : Nat → Nat → Int32} {B k t n : Nat} {tx : Nat → Int32} (h : Fr a a' B k t) (hv : n ≤ 240 ∧ r_tx a = tx ∧ ∀ i, (a r_row i).toInt8.toInt32 = a r_row i) : n ≤ 240 ∧ r_tx a' = tx ∧ ∀ i, (a' r_row i).toInt8.toInt32 = a' r_row i := by
  unfold r_tx
  rw [Fr_oth h (j := r_row) (by decide)]
  exact hv
/-- an e within a statement -/
theorem rd_e (d : Nat) {tx : Nat → Int32} {n b p V : Nat} {m : Nat → Int32} {a : Nat → Nat → Int32} {cx : cx_T} {sc : sc_T} {e0 : Int32} (hR : sRI tx n m a cx b p V sc e0) (hb : b + (n - p) ≤ 250) (st : Int32) (P : pv_R)
    (h0 : ∀ q, st_e tx n sc p = .inl q → ∀ (m' : Nat → Int32) (a' : Nat → Nat → Int32), Mf m m' → m' r_wrong = nI q → Fr a a' 0 0 0 → P (some (.int (-1))) (rs m' a'))
    (h1 : ∀ q u, st_e tx n sc p = .inr (q, u) → ∀ (m' : Nat → Int32) (a' : Nat → Nat → Int32) (r : Nat), Mf m m' → sRI tx n m' a' cx (b + sp_z u) q V sc e0 → Fr a a' b 0 0 → (Blk a' u b r ∧ a' r_around r = st) → (∀ i, b ≤ i → i < b + sp_z u → a' r_thereBefore i = thOf sc ∧ a' r_thereAfter i = thOf sc) → P (some (.int (nI r))) (rs m' a')) : pv_call rq_mt (d + 5) rq_m_R_readE [.ref 0, .int st] (rs m a) P := by
  obtain ⟨⟨⟨r1, r2⟩, ⟨r3, r4⟩, r5, r6, r7⟩, ⟨p0, r8, r9, r10⟩, ⟨⟨r11, r12⟩, ⟨r13, r14⟩, r15⟩, ⟨r16, r17, r18⟩, r19, r20, r21⟩ := hR
  have hC : eCx n sc.length m a := ⟨⟨r16, by have := r20.1; omega⟩, ⟨r1, r2, r6⟩, r18, fun u hu => by rw [r15 u hu]; exact nmOf_cases sc r14 u⟩
  have hx : sp_x (r_tx a) n p0 = p := by rw [r17]; exact r10
  have hs : sp_e (r_tx a) n (a r_named) 2000 0 0 (sp_x (r_tx a) n p0) .nil = st_e tx n sc p := by
    rw [hx, r17]
    exact sp_e_congr r15 _ _ _ _ _
  have hth : eth a sc.length = thOf sc := thr_sc sc r13
  refine rc_readE_ok d hC r9 r8 r4 (by rw [hx]; exact hb) st P (fun q hq => ?_) (fun q u hq => ?_)
  · rw [hs] at hq
    exact fun m' a' k1 k2 k3 => h0 q hq m' a' k1 k2 k3
  · rw [hs] at hq
    have x0 := sp_x_le (tx := tx) r9
    rw [r10] at x0
    obtain ⟨⟨g1, g2⟩, ⟨g3, g4⟩, g5⟩ := st_e_good x0.2 hq
    intro m' a' r ⟨k1, k2⟩ ⟨k3, k4⟩ k5 k6 k7 k8
    rw [hth] at k8
    refine h1 q u hq m' a' r k1 ⟨⟨⟨(k1 27 (by decide)).trans r1, k2⟩, ⟨(k1 40 (by decide)).trans r3, k4⟩, (k1 19 (by decide)).trans r5, (k1 25 (by decide)).trans r6, (k1 41 (by decide)).trans r7⟩, ⟨q, k3, g2, g3⟩, ⟨⟨cxR_Fr k5 (Nat.le_refl _) (by omega) cx r11, r12⟩, ⟨scR_Fr k5 sc r13, r14⟩, fun w hw => ?_⟩, tx_Fr k5 ⟨r16, r17, r18⟩, vOK_Fr k5 r19, r20, r21⟩ k5 ⟨k6, k7⟩ k8
    rw [Fr_oth k5 (j := r_named) (by decide)]
    exact r15 w hw
