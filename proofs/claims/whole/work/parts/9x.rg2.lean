/-! the edges of a node, by its sort -/
def own (a : Nat → Nat → Int32) (N k p : Nat) (Wf : wL_T) (E : eL_T) : eL_T :=
  if a r_isStmt p = 0 then beF a p (rchG a (nI p) 0 N 0 0) (rchG a (nI p) 0 N 0 1) (rchG a (nI p) 0 N 0 2) E else bsX a N k p (rchG a (nI p) 0 N 0 0) (rchG a (nI p) 1 N 0 0) (rchG a (nI p) 0 N 0 1) (rchG a (nI p) 1 N 0 1) Wf E
theorem m_edn {x : Nat × Int32 × Int32} {f s : Nat} {d : Int32} {E : eL_T} (hs : s < 10000) : x ∈ edF f (nI s) d E ↔ (x = (f, nI s, d) ∨ x ∈ E) := by
  rw [m_ed]
  exact ⟨fun u => u.imp_left (fun v => v.1), fun u => u.imp_left (fun v => ⟨v, nN _ (by omega)⟩)⟩
theorem m_enn {x : Nat × Int32 × Int32} {p s f : Nat} {E : eL_T} (hs : s < 10000) (hf : f < 10000) : x ∈ enF p (nI s) (nI f) E ↔ (x = (5 * p + 2, nI f, 0) ∨ x = (5 * p + 1, nI s, 0) ∨ x ∈ E) := by
  unfold enF
  rw [m_edn hf, m_edn hs]
section OW
variable {b : Nat → Nat → Int32} {V : Nat} {t : Std.Format}
theorem isE_y {m : Nat} (h : ¬ stS (SO t m)) : isE t m = true := decide_eq_true h
theorem isE_n {m : Nat} (h : stS (SO t m)) : ¬ isE t m = true := by rw [decide_eq_true_eq]; exact fun u => u h
theorem isS_y {m : Nat} (h : stS (SO t m)) : isS t m = true := decide_eq_true h
theorem isS_n {m : Nat} (h : ¬ stS (SO t m)) : ¬ isS t m = true := by rw [decide_eq_true_eq]; exact h
theorem kid_lt (h : RU b V t) {q r : Nat} (hq : q < sp_z t) (hr : r ∈ KI t q) : r < sp_z t ∧ ID t r < 240 := by
  have := (scn_KI h hq).2.1 r hr
  have := ID_lt this.2
  have := h.1.1.1
  exact ⟨by omega, by omega⟩
theorem ow_58 (h : RU b V t) {q s : Nat} (hq : q < sp_z t) (hs : SO t q = 58) (hK : KI t q = [s]) (g_s : stS (SO t s)) (k : Nat) (Wf : wL_T) (E : eL_T) (x : Nat × Int32 × Int32) : x ∈ own b (sp_z t) k (ID t q) Wf E ↔ (x = (5 * ID t s + 3, nI (5 * ID t q + 3), 0) ∨ x = (5 * ID t q + 0, nI (5 * ID t s + 0), 0) ∨ x ∈ E) := by
  have hst : ¬ b r_isStmt (ID t q) = 0 := (isS_1 h hq).mpr (by rw [hs]; unfold stS; omega)
  have so : b r_sort (ID t q) = 58 := (RU_is h hq (s := 58) (by decide)).mpr hs
  have lq := ID_lt hq
  have hN := h.1.1.1
  have l_s := (kid_lt h hq (show s ∈ KI t q by rw [hK]; simp)).2
  have fE : (KI t q).filter (isE t) = [] := by rw [hK, List.filter_cons_of_neg (isE_n g_s), List.filter_nil]
  have fS : (KI t q).filter (isS t) = [s] := by rw [hK, List.filter_cons_of_pos (isS_y g_s), List.filter_nil]
  unfold own
  rw [if_neg hst, rch_E h hq, rch_E h hq, rch_S h hq, rch_S h hq, fE, fS]
  unfold bsX
  rw [so, if_neg (by decide), if_pos rfl]
  show x ∈ edF (5 * ID t s + 3) (nI (5 * ID t q + 3)) 0 (edF (5 * ID t q + 0) (nI (5 * ID t s + 0)) 0 E) ↔ _
  rw [m_edn (by omega), m_edn (by omega)]
theorem ow_59 (h : RU b V t) {q e : Nat} (hq : q < sp_z t) (hs : SO t q = 59) (hK : KI t q = [e]) (g_e : ¬ stS (SO t e)) (k : Nat) (Wf : wL_T) (E : eL_T) (x : Nat × Int32 × Int32) : x ∈ own b (sp_z t) k (ID t q) Wf E ↔ (x = (5 * ID t e + 2, nI (5 * ID t q + 3), 0) ∨ x = (5 * ID t e + 1, nI (5 * ID t q + 3), 0) ∨ x = (5 * ID t q + 0, nI (5 * ID t e + 0), 0) ∨ x ∈ E) := by
  have hst : ¬ b r_isStmt (ID t q) = 0 := (isS_1 h hq).mpr (by rw [hs]; unfold stS; omega)
  have so : b r_sort (ID t q) = 59 := (RU_is h hq (s := 59) (by decide)).mpr hs
  have lq := ID_lt hq
  have hN := h.1.1.1
  have l_e := (kid_lt h hq (show e ∈ KI t q by rw [hK]; simp)).2
  have fE : (KI t q).filter (isE t) = [e] := by rw [hK, List.filter_cons_of_pos (isE_y g_e), List.filter_nil]
  have fS : (KI t q).filter (isS t) = [] := by rw [hK, List.filter_cons_of_neg (isS_n g_e), List.filter_nil]
  unfold own
  rw [if_neg hst, rch_E h hq, rch_E h hq, rch_S h hq, rch_S h hq, fE, fS]
  unfold bsX
  rw [so, if_neg (by decide), if_neg (by decide), if_pos rfl]
  show x ∈ enF (ID t e) (nI (5 * ID t q + 3)) (nI (5 * ID t q + 3)) (edF (5 * ID t q + 0) (nI (5 * ID t e + 0)) 0 E) ↔ _
  rw [m_enn (by omega) (by omega), m_edn (by omega)]
theorem ow_68 (h : RU b V t) {q s e : Nat} (hq : q < sp_z t) (hs : SO t q = 68) (hK : KI t q = [s, e]) (g_s : stS (SO t s)) (g_e : ¬ stS (SO t e)) (k : Nat) (Wf : wL_T) (E : eL_T) (x : Nat × Int32 × Int32) : x ∈ own b (sp_z t) k (ID t q) Wf E ↔ (x = (5 * ID t e + 2, nI (5 * ID t q + 3), 0) ∨ x = (5 * ID t e + 1, nI (5 * ID t s + 0), 0) ∨ x = (5 * ID t s + 3, nI (5 * ID t e + 0), 0) ∨ x = (5 * ID t q + 0, nI (5 * ID t s + 0), 0) ∨ x ∈ E) := by
  have hst : ¬ b r_isStmt (ID t q) = 0 := (isS_1 h hq).mpr (by rw [hs]; unfold stS; omega)
  have so : b r_sort (ID t q) = 68 := (RU_is h hq (s := 68) (by decide)).mpr hs
  have lq := ID_lt hq
  have hN := h.1.1.1
  have l_s := (kid_lt h hq (show s ∈ KI t q by rw [hK]; simp)).2
  have l_e := (kid_lt h hq (show e ∈ KI t q by rw [hK]; simp)).2
  have fE : (KI t q).filter (isE t) = [e] := by rw [hK, List.filter_cons_of_neg (isE_n g_s), List.filter_cons_of_pos (isE_y g_e), List.filter_nil]
  have fS : (KI t q).filter (isS t) = [s] := by rw [hK, List.filter_cons_of_pos (isS_y g_s), List.filter_cons_of_neg (isS_n g_e), List.filter_nil]
  unfold own
  rw [if_neg hst, rch_E h hq, rch_E h hq, rch_S h hq, rch_S h hq, fE, fS]
  unfold bsX
  rw [so, if_neg (by decide), if_neg (by decide), if_neg (by decide), if_pos rfl]
  show x ∈ enF (ID t e) (nI (5 * ID t s + 0)) (nI (5 * ID t q + 3)) (edF (5 * ID t s + 3) (nI (5 * ID t e + 0)) 0 (edF (5 * ID t q + 0) (nI (5 * ID t s + 0)) 0 E)) ↔ _
  rw [m_enn (by omega) (by omega), m_edn (by omega), m_edn (by omega)]
theorem ow_70 (h : RU b V t) {q e f s : Nat} (hq : q < sp_z t) (hs : SO t q = 70) (hK : KI t q = [e, f, s]) (g_e : ¬ stS (SO t e)) (g_f : ¬ stS (SO t f)) (g_s : stS (SO t s)) (k : Nat) (Wf : wL_T) (E : eL_T) (x : Nat × Int32 × Int32) : x ∈ own b (sp_z t) k (ID t q) Wf E ↔ (x = (5 * ID t f + 2, nI (5 * ID t e + 0), 0) ∨ x = (5 * ID t f + 1, nI (5 * ID t e + 0), 0) ∨ x = (5 * ID t s + 3, nI (5 * ID t f + 0), 0) ∨ x = (5 * ID t e + 2, nI (5 * ID t q + 3), 0) ∨ x = (5 * ID t e + 1, nI (5 * ID t s + 0), 0) ∨ x = (5 * ID t q + 0, nI (5 * ID t e + 0), 0) ∨ x ∈ E) := by
  have hst : ¬ b r_isStmt (ID t q) = 0 := (isS_1 h hq).mpr (by rw [hs]; unfold stS; omega)
  have so : b r_sort (ID t q) = 70 := (RU_is h hq (s := 70) (by decide)).mpr hs
  have lq := ID_lt hq
  have hN := h.1.1.1
  have l_e := (kid_lt h hq (show e ∈ KI t q by rw [hK]; simp)).2
  have l_f := (kid_lt h hq (show f ∈ KI t q by rw [hK]; simp)).2
  have l_s := (kid_lt h hq (show s ∈ KI t q by rw [hK]; simp)).2
  have fE : (KI t q).filter (isE t) = [e, f] := by rw [hK, List.filter_cons_of_pos (isE_y g_e), List.filter_cons_of_pos (isE_y g_f), List.filter_cons_of_neg (isE_n g_s), List.filter_nil]
  have fS : (KI t q).filter (isS t) = [s] := by rw [hK, List.filter_cons_of_neg (isS_n g_e), List.filter_cons_of_neg (isS_n g_f), List.filter_cons_of_pos (isS_y g_s), List.filter_nil]
  unfold own
  rw [if_neg hst, rch_E h hq, rch_E h hq, rch_S h hq, rch_S h hq, fE, fS]
  unfold bsX
  rw [so, if_neg (by decide), if_neg (by decide), if_neg (by decide), if_neg (by decide), if_pos rfl]
  show x ∈ enF (ID t f) (nI (5 * ID t e + 0)) (nI (5 * ID t e + 0)) (edF (5 * ID t s + 3) (nI (5 * ID t f + 0)) 0 (enF (ID t e) (nI (5 * ID t s + 0)) (nI (5 * ID t q + 3)) (edF (5 * ID t q + 0) (nI (5 * ID t e + 0)) 0 E))) ↔ _
  rw [m_enn (by omega) (by omega), m_edn (by omega), m_enn (by omega) (by omega), m_edn (by omega)]
theorem ow_73 (h : RU b V t) {q e s : Nat} (hq : q < sp_z t) (hs : SO t q = 73) (hK : KI t q = [e, s]) (g_e : ¬ stS (SO t e)) (g_s : stS (SO t s)) (k : Nat) (Wf : wL_T) (E : eL_T) (x : Nat × Int32 × Int32) : x ∈ own b (sp_z t) k (ID t q) Wf E ↔ (x = (5 * ID t s + 3, nI (5 * ID t q + 3), 0) ∨ x = (5 * ID t e + 2, nI (5 * ID t q + 3), 0) ∨ x = (5 * ID t e + 1, nI (5 * ID t s + 0), 0) ∨ x = (5 * ID t q + 0, nI (5 * ID t e + 0), 0) ∨ x ∈ E) := by
  have hst : ¬ b r_isStmt (ID t q) = 0 := (isS_1 h hq).mpr (by rw [hs]; unfold stS; omega)
  have so : b r_sort (ID t q) = 73 := (RU_is h hq (s := 73) (by decide)).mpr hs
  have lq := ID_lt hq
  have hN := h.1.1.1
  have l_e := (kid_lt h hq (show e ∈ KI t q by rw [hK]; simp)).2
  have l_s := (kid_lt h hq (show s ∈ KI t q by rw [hK]; simp)).2
  have fE : (KI t q).filter (isE t) = [e] := by rw [hK, List.filter_cons_of_pos (isE_y g_e), List.filter_cons_of_neg (isE_n g_s), List.filter_nil]
  have fS : (KI t q).filter (isS t) = [s] := by rw [hK, List.filter_cons_of_neg (isS_n g_e), List.filter_cons_of_pos (isS_y g_s), List.filter_nil]
  unfold own
  rw [if_neg hst, rch_E h hq, rch_E h hq, rch_S h hq, rch_S h hq, fE, fS]
  unfold bsX
  rw [so, if_neg (by decide), if_neg (by decide), if_neg (by decide), if_neg (by decide), if_neg (by decide), if_pos rfl]
  show x ∈ edF (5 * ID t s + 3) (nI (5 * ID t q + 3)) 0 (enF (ID t e) (nI (5 * ID t s + 0)) (nI (5 * ID t q + 3)) (edF (5 * ID t q + 0) (nI (5 * ID t e + 0)) 0 E)) ↔ _
  rw [m_edn (by omega), m_enn (by omega) (by omega), m_edn (by omega)]
theorem ow_73b (h : RU b V t) {q e s r : Nat} (hq : q < sp_z t) (hs : SO t q = 73) (hK : KI t q = [e, s, r]) (g_e : ¬ stS (SO t e)) (g_s : stS (SO t s)) (g_r : stS (SO t r)) (k : Nat) (Wf : wL_T) (E : eL_T) (x : Nat × Int32 × Int32) : x ∈ own b (sp_z t) k (ID t q) Wf E ↔ (x = (5 * ID t r + 3, nI (5 * ID t q + 3), 0) ∨ x = (5 * ID t s + 3, nI (5 * ID t q + 3), 0) ∨ x = (5 * ID t e + 2, nI (5 * ID t r + 0), 0) ∨ x = (5 * ID t e + 1, nI (5 * ID t s + 0), 0) ∨ x = (5 * ID t q + 0, nI (5 * ID t e + 0), 0) ∨ x ∈ E) := by
  have hst : ¬ b r_isStmt (ID t q) = 0 := (isS_1 h hq).mpr (by rw [hs]; unfold stS; omega)
  have so : b r_sort (ID t q) = 73 := (RU_is h hq (s := 73) (by decide)).mpr hs
  have lq := ID_lt hq
  have hN := h.1.1.1
  have l_e := (kid_lt h hq (show e ∈ KI t q by rw [hK]; simp)).2
  have l_s := (kid_lt h hq (show s ∈ KI t q by rw [hK]; simp)).2
  have l_r := (kid_lt h hq (show r ∈ KI t q by rw [hK]; simp)).2
  have fE : (KI t q).filter (isE t) = [e] := by rw [hK, List.filter_cons_of_pos (isE_y g_e), List.filter_cons_of_neg (isE_n g_s), List.filter_cons_of_neg (isE_n g_r), List.filter_nil]
  have fS : (KI t q).filter (isS t) = [s, r] := by rw [hK, List.filter_cons_of_neg (isS_n g_e), List.filter_cons_of_pos (isS_y g_s), List.filter_cons_of_pos (isS_y g_r), List.filter_nil]
  unfold own
  rw [if_neg hst, rch_E h hq, rch_E h hq, rch_S h hq, rch_S h hq, fE, fS]
  unfold bsX
  rw [so, if_neg (by decide), if_neg (by decide), if_neg (by decide), if_neg (by decide), if_neg (by decide), if_pos rfl]
  show x ∈ edF (5 * ID t r + 3) (nI (5 * ID t q + 3)) 0 (edF (5 * ID t s + 3) (nI (5 * ID t q + 3)) 0 (enF (ID t e) (nI (5 * ID t s + 0)) (nI (5 * ID t r + 0)) (edF (5 * ID t q + 0) (nI (5 * ID t e + 0)) 0 E))) ↔ _
  rw [m_edn (by omega), m_edn (by omega), m_enn (by omega) (by omega), m_edn (by omega)]
theorem ow_87 (h : RU b V t) {q e s : Nat} (hq : q < sp_z t) (hs : SO t q = 87) (hK : KI t q = [e, s]) (g_e : ¬ stS (SO t e)) (g_s : stS (SO t s)) (k : Nat) (Wf : wL_T) (E : eL_T) (x : Nat × Int32 × Int32) : x ∈ own b (sp_z t) k (ID t q) Wf E ↔ (x = (5 * ID t s + 3, nI (5 * ID t e + 0), 0) ∨ x = (5 * ID t e + 2, nI (5 * ID t q + 3), 0) ∨ x = (5 * ID t e + 1, nI (5 * ID t s + 0), 0) ∨ x = (5 * ID t q + 0, nI (5 * ID t e + 0), 0) ∨ x ∈ E) := by
  have hst : ¬ b r_isStmt (ID t q) = 0 := (isS_1 h hq).mpr (by rw [hs]; unfold stS; omega)
  have so : b r_sort (ID t q) = 87 := (RU_is h hq (s := 87) (by decide)).mpr hs
  have lq := ID_lt hq
  have hN := h.1.1.1
  have l_e := (kid_lt h hq (show e ∈ KI t q by rw [hK]; simp)).2
  have l_s := (kid_lt h hq (show s ∈ KI t q by rw [hK]; simp)).2
  have fE : (KI t q).filter (isE t) = [e] := by rw [hK, List.filter_cons_of_pos (isE_y g_e), List.filter_cons_of_neg (isE_n g_s), List.filter_nil]
  have fS : (KI t q).filter (isS t) = [s] := by rw [hK, List.filter_cons_of_neg (isS_n g_e), List.filter_cons_of_pos (isS_y g_s), List.filter_nil]
  unfold own
  rw [if_neg hst, rch_E h hq, rch_E h hq, rch_S h hq, rch_S h hq, fE, fS]
  unfold bsX
  rw [so, if_neg (by decide), if_neg (by decide), if_neg (by decide), if_neg (by decide), if_neg (by decide), if_neg (by decide), if_neg (by decide), if_neg (by decide), if_pos rfl]
  show x ∈ edF (5 * ID t s + 3) (nI (5 * ID t e + 0)) 0 (enF (ID t e) (nI (5 * ID t s + 0)) (nI (5 * ID t q + 3)) (edF (5 * ID t q + 0) (nI (5 * ID t e + 0)) 0 E)) ↔ _
  rw [m_edn (by omega), m_enn (by omega) (by omega), m_edn (by omega)]
theorem ow_33 (h : RU b V t) {q e : Nat} (hq : q < sp_z t) (hs : SO t q = 33) (hK : KI t q = [e]) (g_e : ¬ stS (SO t e)) (k : Nat) (Wf : wL_T) (E : eL_T) (x : Nat × Int32 × Int32) : x ∈ own b (sp_z t) k (ID t q) Wf E ↔ (x = (5 * ID t e + 2, nI (5 * ID t q + 1), 0) ∨ x = (5 * ID t e + 1, nI (5 * ID t q + 2), 0) ∨ x = (5 * ID t q + 0, nI (5 * ID t e + 0), 0) ∨ x ∈ E) := by
  have hn : ¬ stS (SO t q) := by rw [hs]; unfold stS; omega
  have hst : b r_isStmt (ID t q) = 0 := by rw [(RU_so h hq).2, if_neg hn]
  have so : b r_sort (ID t q) = 33 := (RU_is h hq (s := 33) (by decide)).mpr hs
  have lq := ID_lt hq
  have hN := h.1.1.1
  have l_e := (kid_lt h hq (show e ∈ KI t q by rw [hK]; simp)).2
  have fE : (KI t q).filter (isE t) = [e] := by rw [hK, List.filter_cons_of_pos (isE_y g_e), List.filter_nil]
  unfold own
  rw [if_pos hst, rch_E h hq, rch_E h hq, rch_E h hq, fE]
  unfold beF
  rw [so, if_pos rfl]
  show x ∈ enF (ID t e) (nI (5 * ID t q + 2)) (nI (5 * ID t q + 1)) (edF (5 * ID t q + 0) (nI (5 * ID t e + 0)) 0 E) ↔ _
  rw [m_enn (by omega) (by omega), m_edn (by omega)]
theorem ow_38 (h : RU b V t) {q e f : Nat} (hq : q < sp_z t) (hs : SO t q = 38) (hK : KI t q = [e, f]) (g_e : ¬ stS (SO t e)) (g_f : ¬ stS (SO t f)) (k : Nat) (Wf : wL_T) (E : eL_T) (x : Nat × Int32 × Int32) : x ∈ own b (sp_z t) k (ID t q) Wf E ↔ (x = (5 * ID t f + 2, nI (5 * ID t q + 2), 0) ∨ x = (5 * ID t f + 1, nI (5 * ID t q + 1), 0) ∨ x = (5 * ID t e + 2, nI (5 * ID t q + 2), 0) ∨ x = (5 * ID t e + 1, nI (5 * ID t f + 0), 0) ∨ x = (5 * ID t q + 0, nI (5 * ID t e + 0), 0) ∨ x ∈ E) := by
  have hn : ¬ stS (SO t q) := by rw [hs]; unfold stS; omega
  have hst : b r_isStmt (ID t q) = 0 := by rw [(RU_so h hq).2, if_neg hn]
  have so : b r_sort (ID t q) = 38 := (RU_is h hq (s := 38) (by decide)).mpr hs
  have lq := ID_lt hq
  have hN := h.1.1.1
  have l_e := (kid_lt h hq (show e ∈ KI t q by rw [hK]; simp)).2
  have l_f := (kid_lt h hq (show f ∈ KI t q by rw [hK]; simp)).2
  have fE : (KI t q).filter (isE t) = [e, f] := by rw [hK, List.filter_cons_of_pos (isE_y g_e), List.filter_cons_of_pos (isE_y g_f), List.filter_nil]
  unfold own
  rw [if_pos hst, rch_E h hq, rch_E h hq, rch_E h hq, fE]
  unfold beF
  rw [so, if_neg (by decide), if_pos rfl]
  show x ∈ enF (ID t f) (nI (5 * ID t q + 1)) (nI (5 * ID t q + 2)) (enF (ID t e) (nI (5 * ID t f + 0)) (nI (5 * ID t q + 2)) (edF (5 * ID t q + 0) (nI (5 * ID t e + 0)) 0 E)) ↔ _
  rw [m_enn (by omega) (by omega), m_enn (by omega) (by omega), m_edn (by omega)]
theorem ow_48 (h : RU b V t) {q  : Nat} (hq : q < sp_z t) (hs : SO t q = 48) (hK : KI t q = [])  (k : Nat) (Wf : wL_T) (E : eL_T) (x : Nat × Int32 × Int32) : x ∈ own b (sp_z t) k (ID t q) Wf E ↔ (x = (5 * ID t q + 0, nI (5 * ID t q + 2), 0) ∨ x ∈ E) := by
  have hn : ¬ stS (SO t q) := by rw [hs]; unfold stS; omega
  have hst : b r_isStmt (ID t q) = 0 := by rw [(RU_so h hq).2, if_neg hn]
  have so : b r_sort (ID t q) = 48 := (RU_is h hq (s := 48) (by decide)).mpr hs
  have lq := ID_lt hq
  have hN := h.1.1.1
  have fE : (KI t q).filter (isE t) = [] := by rw [hK, List.filter_nil]
  unfold own
  rw [if_pos hst, rch_E h hq, rch_E h hq, rch_E h hq, fE]
  unfold beF
  rw [so, if_neg (by decide), if_neg (by decide), if_pos rfl]
  show x ∈ edF (5 * ID t q + 0) (nI (5 * ID t q + 2)) 0 E ↔ _
  rw [m_edn (by omega)]
theorem ow_49 (h : RU b V t) {q  : Nat} (hq : q < sp_z t) (hs : SO t q = 49) (hK : KI t q = [])  (k : Nat) (Wf : wL_T) (E : eL_T) (x : Nat × Int32 × Int32) : x ∈ own b (sp_z t) k (ID t q) Wf E ↔ (x = (5 * ID t q + 0, nI (5 * ID t q + 1), 0) ∨ x ∈ E) := by
  have hn : ¬ stS (SO t q) := by rw [hs]; unfold stS; omega
  have hst : b r_isStmt (ID t q) = 0 := by rw [(RU_so h hq).2, if_neg hn]
  have so : b r_sort (ID t q) = 49 := (RU_is h hq (s := 49) (by decide)).mpr hs
  have lq := ID_lt hq
  have hN := h.1.1.1
  have fE : (KI t q).filter (isE t) = [] := by rw [hK, List.filter_nil]
  unfold own
  rw [if_pos hst, rch_E h hq, rch_E h hq, rch_E h hq, fE]
  unfold beF
  rw [so, if_neg (by decide), if_neg (by decide), if_neg (by decide), if_pos rfl]
  show x ∈ edF (5 * ID t q + 0) (nI (5 * ID t q + 1)) 0 E ↔ _
  rw [m_edn (by omega)]
theorem ow_61 (h : RU b V t) {q e : Nat} (hq : q < sp_z t) (hs : SO t q = 61) (hK : KI t q = [e]) (g_e : ¬ stS (SO t e)) (k : Nat) (Wf : wL_T) (E : eL_T) (x : Nat × Int32 × Int32) : x ∈ own b (sp_z t) k (ID t q) Wf E ↔ (x = (5 * ID t q + 4, nI (5 * ID t q + 2), (1 + nI (VR t q))) ∨ x = (5 * ID t q + 3, nI (5 * ID t q + 1), (1 + nI (VR t q))) ∨ x = (5 * ID t e + 2, nI (5 * ID t q + 4), 0) ∨ x = (5 * ID t e + 1, nI (5 * ID t q + 3), 0) ∨ x = (5 * ID t q + 0, nI (5 * ID t e + 0), 0) ∨ x ∈ E) := by
  have hn : ¬ stS (SO t q) := by rw [hs]; unfold stS; omega
  have hst : b r_isStmt (ID t q) = 0 := by rw [(RU_so h hq).2, if_neg hn]
  have so : b r_sort (ID t q) = 61 := (RU_is h hq (s := 61) (by decide)).mpr hs
  have lq := ID_lt hq
  have hN := h.1.1.1
  have l_e := (kid_lt h hq (show e ∈ KI t q by rw [hK]; simp)).2
  have fE : (KI t q).filter (isE t) = [e] := by rw [hK, List.filter_cons_of_pos (isE_y g_e), List.filter_nil]
  unfold own
  rw [if_pos hst, rch_E h hq, rch_E h hq, rch_E h hq, fE]
  unfold beF
  rw [so, if_neg (by decide), if_neg (by decide), if_neg (by decide), if_neg (by decide), if_pos rfl]
  rw [(RU_V h hq hn (Or.inl hs)).1]
  show x ∈ edF (5 * ID t q + 4) (nI (5 * ID t q + 2)) (1 + nI (VR t q)) (edF (5 * ID t q + 3) (nI (5 * ID t q + 1)) (1 + nI (VR t q)) (enF (ID t e) (nI (5 * ID t q + 3)) (nI (5 * ID t q + 4)) (edF (5 * ID t q + 0) (nI (5 * ID t e + 0)) 0 E))) ↔ _
  rw [m_edn (by omega), m_edn (by omega), m_enn (by omega) (by omega), m_edn (by omega)]
theorem ow_63 (h : RU b V t) {q e f g : Nat} (hq : q < sp_z t) (hs : SO t q = 63) (hK : KI t q = [e, f, g]) (g_e : ¬ stS (SO t e)) (g_f : ¬ stS (SO t f)) (g_g : ¬ stS (SO t g)) (k : Nat) (Wf : wL_T) (E : eL_T) (x : Nat × Int32 × Int32) : x ∈ own b (sp_z t) k (ID t q) Wf E ↔ (x = (5 * ID t g + 2, nI (5 * ID t q + 2), 0) ∨ x = (5 * ID t g + 1, nI (5 * ID t q + 1), 0) ∨ x = (5 * ID t f + 2, nI (5 * ID t q + 2), 0) ∨ x = (5 * ID t f + 1, nI (5 * ID t q + 1), 0) ∨ x = (5 * ID t e + 2, nI (5 * ID t g + 0), 0) ∨ x = (5 * ID t e + 1, nI (5 * ID t f + 0), 0) ∨ x = (5 * ID t q + 0, nI (5 * ID t e + 0), 0) ∨ x ∈ E) := by
  have hn : ¬ stS (SO t q) := by rw [hs]; unfold stS; omega
  have hst : b r_isStmt (ID t q) = 0 := by rw [(RU_so h hq).2, if_neg hn]
  have so : b r_sort (ID t q) = 63 := (RU_is h hq (s := 63) (by decide)).mpr hs
  have lq := ID_lt hq
  have hN := h.1.1.1
  have l_e := (kid_lt h hq (show e ∈ KI t q by rw [hK]; simp)).2
  have l_f := (kid_lt h hq (show f ∈ KI t q by rw [hK]; simp)).2
  have l_g := (kid_lt h hq (show g ∈ KI t q by rw [hK]; simp)).2
  have fE : (KI t q).filter (isE t) = [e, f, g] := by rw [hK, List.filter_cons_of_pos (isE_y g_e), List.filter_cons_of_pos (isE_y g_f), List.filter_cons_of_pos (isE_y g_g), List.filter_nil]
  unfold own
  rw [if_pos hst, rch_E h hq, rch_E h hq, rch_E h hq, fE]
  unfold beF
  rw [so, if_neg (by decide), if_neg (by decide), if_neg (by decide), if_neg (by decide), if_neg (by decide), if_pos rfl]
  show x ∈ enF (ID t g) (nI (5 * ID t q + 1)) (nI (5 * ID t q + 2)) (enF (ID t f) (nI (5 * ID t q + 1)) (nI (5 * ID t q + 2)) (enF (ID t e) (nI (5 * ID t f + 0)) (nI (5 * ID t g + 0)) (edF (5 * ID t q + 0) (nI (5 * ID t e + 0)) 0 E))) ↔ _
  rw [m_enn (by omega) (by omega), m_enn (by omega) (by omega), m_enn (by omega) (by omega), m_edn (by omega)]
theorem ow_124 (h : RU b V t) {q e f : Nat} (hq : q < sp_z t) (hs : SO t q = 124) (hK : KI t q = [e, f]) (g_e : ¬ stS (SO t e)) (g_f : ¬ stS (SO t f)) (k : Nat) (Wf : wL_T) (E : eL_T) (x : Nat × Int32 × Int32) : x ∈ own b (sp_z t) k (ID t q) Wf E ↔ (x = (5 * ID t f + 2, nI (5 * ID t q + 2), 0) ∨ x = (5 * ID t f + 1, nI (5 * ID t q + 1), 0) ∨ x = (5 * ID t e + 2, nI (5 * ID t f + 0), 0) ∨ x = (5 * ID t e + 1, nI (5 * ID t q + 1), 0) ∨ x = (5 * ID t q + 0, nI (5 * ID t e + 0), 0) ∨ x ∈ E) := by
  have hn : ¬ stS (SO t q) := by rw [hs]; unfold stS; omega
  have hst : b r_isStmt (ID t q) = 0 := by rw [(RU_so h hq).2, if_neg hn]
  have so : b r_sort (ID t q) = 124 := (RU_is h hq (s := 124) (by decide)).mpr hs
  have lq := ID_lt hq
  have hN := h.1.1.1
  have l_e := (kid_lt h hq (show e ∈ KI t q by rw [hK]; simp)).2
  have l_f := (kid_lt h hq (show f ∈ KI t q by rw [hK]; simp)).2
  have fE : (KI t q).filter (isE t) = [e, f] := by rw [hK, List.filter_cons_of_pos (isE_y g_e), List.filter_cons_of_pos (isE_y g_f), List.filter_nil]
  unfold own
  rw [if_pos hst, rch_E h hq, rch_E h hq, rch_E h hq, fE]
  unfold beF
  rw [so, if_neg (by decide), if_neg (by decide), if_neg (by decide), if_neg (by decide), if_neg (by decide), if_neg (by decide), if_pos rfl]
  show x ∈ enF (ID t f) (nI (5 * ID t q + 1)) (nI (5 * ID t q + 2)) (enF (ID t e) (nI (5 * ID t q + 1)) (nI (5 * ID t f + 0)) (edF (5 * ID t q + 0) (nI (5 * ID t e + 0)) 0 E)) ↔ _
  rw [m_enn (by omega) (by omega), m_enn (by omega) (by omega), m_edn (by omega)]
theorem ow_lf (h : RU b V t) {q : Nat} (hq : q < sp_z t) (hn : ¬ stS (SO t q)) (hs : (97 ≤ SO t q ∧ SO t q ≤ 122) ∨ SO t q = 35) (k : Nat) (Wf : wL_T) (E : eL_T) (x : Nat × Int32 × Int32) : x ∈ own b (sp_z t) k (ID t q) Wf E ↔ (x = (5 * ID t q + 0, nI (5 * ID t q + 2), 0) ∨ x = (5 * ID t q + 0, nI (5 * ID t q + 1), 0) ∨ x ∈ E) := by
  have hst : b r_isStmt (ID t q) = 0 := by rw [(RU_so h hq).2, if_neg hn]
  have lq := ID_lt hq
  have hN := h.1.1.1
  have ne : ∀ s : Nat, s < 256 → ¬ SO t q = s → ¬ b r_sort (ID t q) = nI s := fun s h1 h2 u => h2 ((RU_is h hq h1).mp u)
  unfold own
  rw [if_pos hst]
  unfold beF
  rw [if_neg (show ¬ b r_sort (ID t q) = 33 from ne 33 (by decide) (by omega)), if_neg (show ¬ b r_sort (ID t q) = 38 from ne 38 (by decide) (by omega)), if_neg (show ¬ b r_sort (ID t q) = 48 from ne 48 (by decide) (by omega)), if_neg (show ¬ b r_sort (ID t q) = 49 from ne 49 (by decide) (by omega)), if_neg (show ¬ b r_sort (ID t q) = 61 from ne 61 (by decide) (by omega)), if_neg (show ¬ b r_sort (ID t q) = 63 from ne 63 (by decide) (by omega)), if_neg (show ¬ b r_sort (ID t q) = 124 from ne 124 (by decide) (by omega)), m_edn (by omega), m_edn (by omega)]
theorem ow_36 (h : RU b V t) {q : Nat} (hq : q < sp_z t) (hs : SO t q = 36 ∨ SO t q = 37) (k : Nat) (Wf : wL_T) (E : eL_T) (x : Nat × Int32 × Int32) : x ∈ own b (sp_z t) k (ID t q) Wf E ↔ (x = (5 * ID t q + 0, nI (5 * ID t q + 3), 20 + nI (VR t q)) ∨ x ∈ E) := by
  have hs2 : stS (SO t q) := by unfold stS; omega
  have hst : ¬ b r_isStmt (ID t q) = 0 := (isS_1 h hq).mpr hs2
  have lq := ID_lt hq
  have hN := h.1.1.1
  have c : b r_sort (ID t q) = 36 ∨ b r_sort (ID t q) = 37 := hs.imp (fun u => (RU_is h hq (s := 36) (by decide)).mpr u) (fun u => (RU_is h hq (s := 37) (by decide)).mpr u)
  have hv := ((RU_S h hq hs2).1.2 hs).1
  unfold own
  rw [if_neg hst]
  unfold bsX
  rw [if_pos c, ID_st h.1.2.2 hq hs2, hv, m_edn (by rw [ID_st h.1.2.2 hq hs2] at lq; omega)]
theorem ow_123 (h : RU b V t) {q : Nat} (hq : q < sp_z t) (hs : SO t q = 123) (k : Nat) (Wf : wL_T) (E : eL_T) (x : Nat × Int32 × Int32) : x ∈ own b (sp_z t) k (ID t q) Wf E ↔ (chM (ID t) (KI t q) (5 * ID t q + 0) (nI (5 * ID t q + 3)) x ∨ x ∈ E) := by
  have hst : ¬ b r_isStmt (ID t q) = 0 := (isS_1 h hq).mpr (by rw [hs]; unfold stS; omega)
  have so : b r_sort (ID t q) = 123 := (RU_is h hq (s := 123) (by decide)).mpr hs
  unfold own
  rw [if_neg hst]
  unfold bsX
  rw [so, if_neg (by decide), if_neg (by decide), if_neg (by decide), if_neg (by decide), if_neg (by decide), if_neg (by decide), if_neg (by decide), if_neg (by decide), if_neg (by decide), if_pos rfl]
  unfold cnF
  rw [cn_123 h hq hs]
  exact m_cn _ _ _ (fun r hr => by have := (kid_lt h hq hr).2; omega)
theorem ow_83 (h : RU b V t) {q e : Nat} (hq : q < sp_z t) (hs : SO t q = 83) {L : List Nat} (hK : KI t q = e :: L) (he : ¬ stS (SO t e)) (hL : ∀ r ∈ L, stS (SO t r)) (k : Nat) (Wf : wL_T) (E : eL_T) (x : Nat × Int32 × Int32) : x ∈ own b (sp_z t) k (ID t q) Wf E ↔ ((fLine (XI t q) ∧ (x = (5 * ID t e + 2, nI (5 * ID t q + 3), 0) ∨ x = (5 * ID t e + 1, nI (5 * ID t q + 3), 0))) ∨ bcJ (ID t) (fun m => sp_en (CO t m)) (ID t e) (5 * ID t q + 3) L 0 x ∨ x = (5 * ID t q + 0, nI (5 * ID t e + 0), 0) ∨ x ∈ E) := by
  have hs2 : stS (SO t q) := by rw [hs]; unfold stS; omega
  have hst : ¬ b r_isStmt (ID t q) = 0 := (isS_1 h hq).mpr hs2
  have so : b r_sort (ID t q) = 83 := (RU_is h hq (s := 83) (by decide)).mpr hs
  have lq := ID_lt hq
  have hN := h.1.1.1
  have l_e := (kid_lt h hq (show e ∈ KI t q by rw [hK]; exact List.mem_cons_self)).2
  have fE : (KI t q).filter (isE t) = e :: L.filter (isE t) := by rw [hK, List.filter_cons_of_pos (isE_y he)]
  have hfl := (RU_S h hq hs2).2.2.2 hs
  have hid := ID_st h.1.2.2 hq hs2
  unfold own
  rw [if_neg hst, rch_E h hq 0, fE]
  unfold bsX
  rw [so, if_neg (by decide), if_neg (by decide), if_neg (by decide), if_neg (by decide), if_neg (by decide), if_neg (by decide), if_pos rfl]
  show x ∈ bcF b (sp_z t) (ID t q) (ID t e) (nI (5 * ID t q + 3)) E ↔ _
  unfold bcF
  rw [bc_83 h hq hK he hL]
  have m1 := m_bc (ID := ID t) (mk := fun m => sp_en (CO t m)) (e := ID t e) (af := 5 * ID t q + 3) (by omega) (x := x) L 0 (edF (5 * ID t q + 0) (nI (5 * ID t e + 0)) 0 E) (fun r hr => by have := (kid_lt h hq (show r ∈ KI t q by rw [hK]; exact List.mem_cons_of_mem _ hr)).2; omega)
  rw [m_edn (by omega)] at m1
  unfold bcT
  rw [hid]
  by_cases c : ¬ b r_tailMarked q = 0 ∨ b r_hasOther q = 0
  · rw [if_pos c, m_enn (by omega) (by omega)]
    rw [hid] at m1
    rw [m1]
    constructor
    · rintro (u | u | u)
      · exact Or.inl ⟨hfl.mpr c, Or.inl u⟩
      · exact Or.inl ⟨hfl.mpr c, Or.inr u⟩
      · exact Or.inr u
    · rintro (⟨-, u | u⟩ | u)
      · exact Or.inl u
      · exact Or.inr (Or.inl u)
      · exact Or.inr (Or.inr u)
  · rw [if_neg c]
    rw [hid] at m1
    rw [m1]
    exact ⟨Or.inr, fun u => u.resolve_left (fun v => c (hfl.mp v.1))⟩
theorem ow_84 (h : RU b V t) {q : Nat} (hq : q < sp_z t) (hs : SO t q = 84) {u v w : Std.Format} (e : XI t q = .append u (.append v w)) (hp : sp_pl (CO t q) ≤ 3) (k : Nat) (Wf : wL_T) (E : eL_T) (x : Nat × Int32 × Int32) : x ∈ own b (sp_z t) k (ID t q) Wf E ↔ ((hE t q ∧ chM (ID t) (rtL w (q + 1 + sp_z u + sp_z v)) (1301 + 3 * q + 1) (nI (1301 + 3 * q + 2)) x) ∨ (hC t q ∧ chM (ID t) (rtL v (q + 1 + sp_z u)) (1301 + 3 * q) (if hE t q then coW Wf 0 (.inr q) else nI (5 * q + 3)) x) ∨ chM (ID t) (rtL u (q + 1)) (5 * q + 0) (if hE t q then coW Wf 0 (.inr q) else nI (5 * q + 3)) x ∨ x ∈ E) := by
  have hs2 : stS (SO t q) := by rw [hs]; unfold stS; omega
  have hst : ¬ b r_isStmt (ID t q) = 0 := (isS_1 h hq).mpr hs2
  have so : b r_sort (ID t q) = 84 := (RU_is h hq (s := 84) (by decide)).mpr hs
  have lq := ID_lt hq
  have hN := h.1.1.1
  have hid := ID_st h.1.2.2 hq hs2
  obtain ⟨c0, c1, c2⟩ := cn_84 h hq hs e
  obtain ⟨hc, he⟩ := (RU_S h hq hs2).2.2.1 hs
  have kl : ∀ r ∈ KI t q, ID t r < 1000 := fun r hr => by have := (kid_lt h hq hr).2; omega
  have eK : KI t q = rtL u (q + 1) ++ (rtL v (q + 1 + sp_z u) ++ rtL w (q + 1 + sp_z u + sp_z v)) := by
    show rtL (XI t q) (q + 1) = _
    rw [e]; rfl
  rw [eK] at kl
  have hcE : (b r_hasEnd q = 0) ↔ ¬ hE t q := by
    rw [he]
    have : sp_pl (CO t q) / 2 = 0 ∨ sp_pl (CO t q) / 2 = 1 := by omega
    rcases this with z | z
    · rw [z]; exact ⟨fun _ u => by unfold hE at u; omega, fun _ => rfl⟩
    · rw [z]; exact ⟨fun u => absurd u (by decide), fun u => absurd z u⟩
  have hcC : (b r_hasCatch q = 0) ↔ ¬ hC t q := by
    rw [hc]
    have : sp_pl (CO t q) % 2 = 0 ∨ sp_pl (CO t q) % 2 = 1 := by omega
    rcases this with z | z
    · rw [z]; exact ⟨fun _ u => by unfold hC at u; omega, fun _ => rfl⟩
    · rw [z]; exact ⟨fun u => absurd u (by decide), fun u => absurd z u⟩
  unfold own
  rw [if_neg hst]
  unfold bsX
  rw [so, if_neg (by decide), if_neg (by decide), if_neg (by decide), if_neg (by decide), if_neg (by decide), if_neg (by decide), if_neg (by decide), if_pos rfl]
  rw [hid] at c0 c1 c2 ⊢
  have eo : (if b r_hasEnd q = 0 then nI (5 * q + 3) else coW Wf 0 (.inr q)) = (if hE t q then coW Wf 0 (.inr q) else nI (5 * q + 3)) := by
    by_cases c : hE t q
    · rw [if_pos c, if_neg (fun z => hcE.mp z c)]
    · rw [if_neg c, if_pos (hcE.mpr c)]
  rw [eo]
  generalize (if hE t q then coW Wf 0 (.inr q) else nI (5 * q + 3)) = ov
  have m0 : ∀ E, x ∈ cnF b (sp_z t) (nI q) 0 (5 * q + 0) ov E ↔ (chM (ID t) (rtL u (q + 1)) (5 * q + 0) ov x ∨ x ∈ E) := fun E => by
    unfold cnF
    rw [c0]
    exact m_cn _ _ _ (fun r hr => kl r (List.mem_append_left _ hr))
  have m1 : ∀ E, x ∈ cnF b (sp_z t) (nI q) 1 (1301 + 3 * q) ov E ↔ (chM (ID t) (rtL v (q + 1 + sp_z u)) (1301 + 3 * q) ov x ∨ x ∈ E) := fun E => by
    unfold cnF
    rw [c1]
    exact m_cn _ _ _ (fun r hr => kl r (List.mem_append_right _ (List.mem_append_left _ hr)))
  have m2 : ∀ E, x ∈ cnF b (sp_z t) (nI q) 2 (1301 + 3 * q + 1) (nI (1301 + 3 * q + 2)) E ↔ (chM (ID t) (rtL w (q + 1 + sp_z u + sp_z v)) (1301 + 3 * q + 1) (nI (1301 + 3 * q + 2)) x ∨ x ∈ E) := fun E => by
    unfold cnF
    rw [c2]
    exact m_cn _ _ _ (fun r hr => kl r (List.mem_append_right _ (List.mem_append_right _ hr)))
  have n1 : ∀ E, x ∈ (if b r_hasCatch q = 0 then E else cnF b (sp_z t) (nI q) 1 (1301 + 3 * q) ov E) ↔ ((hC t q ∧ chM (ID t) (rtL v (q + 1 + sp_z u)) (1301 + 3 * q) ov x) ∨ x ∈ E) := fun E => by
    by_cases c : hC t q
    · rw [if_neg (fun z => hcC.mp z c), m1]
      exact ⟨fun u => u.imp_left (fun z => ⟨c, z⟩), fun u => u.imp_left (fun z => z.2)⟩
    · rw [if_pos (hcC.mpr c)]
      exact ⟨Or.inr, fun u => u.resolve_left (fun z => c z.1)⟩
  have n2 : ∀ E, x ∈ (if b r_hasEnd q = 0 then E else cnF b (sp_z t) (nI q) 2 (1301 + 3 * q + 1) (nI (1301 + 3 * q + 2)) E) ↔ ((hE t q ∧ chM (ID t) (rtL w (q + 1 + sp_z u + sp_z v)) (1301 + 3 * q + 1) (nI (1301 + 3 * q + 2)) x) ∨ x ∈ E) := fun E => by
    by_cases c : hE t q
    · rw [if_neg (fun z => hcE.mp z c), m2]
      exact ⟨fun u => u.imp_left (fun z => ⟨c, z⟩), fun u => u.imp_left (fun z => z.2)⟩
    · rw [if_pos (hcE.mpr c)]
      exact ⟨Or.inr, fun u => u.resolve_left (fun z => c z.1)⟩
  unfold ttF
  dsimp only
  rw [n2, n1, m0]
/-- the leaving statements -/
theorem ow_lv (h : RU b V t) {q : Nat} (hq : q < sp_z t) (hs : SO t q = 66 ∨ SO t q = 67 ∨ SO t q = 82 ∨ SO t q = 88) (k : Nat) (Wf : wL_T) (E : eL_T) (x : Nat × Int32 × Int32) :
    (KI t q = [] → (x ∈ own b (sp_z t) k (ID t q) Wf E ↔ ((x = (5 * ID t q + 0, coW Wf (cdF b (ID t q)) (lvA b (sp_z t) (cdF b (ID t q)) k (ID t q) (b r_around (ID t q))), 0) ∧ ¬ coW Wf (cdF b (ID t q)) (lvA b (sp_z t) (cdF b (ID t q)) k (ID t q) (b r_around (ID t q))) = -1) ∨ x ∈ E))) ∧
    (∀ e, KI t q = [e] → ¬ stS (SO t e) → (x ∈ own b (sp_z t) k (ID t q) Wf E ↔ ((x = (5 * ID t e + 2, coW Wf (cdF b (ID t q)) (lvA b (sp_z t) (cdF b (ID t q)) k (ID t q) (b r_around (ID t q))), 0) ∧ ¬ coW Wf (cdF b (ID t q)) (lvA b (sp_z t) (cdF b (ID t q)) k (ID t q) (b r_around (ID t q))) = -1) ∨ (x = (5 * ID t e + 1, coW Wf (cdF b (ID t q)) (lvA b (sp_z t) (cdF b (ID t q)) k (ID t q) (b r_around (ID t q))), 0) ∧ ¬ coW Wf (cdF b (ID t q)) (lvA b (sp_z t) (cdF b (ID t q)) k (ID t q) (b r_around (ID t q))) = -1) ∨ x = (5 * ID t q + 0, nI (5 * ID t e + 0), 0) ∨ x ∈ E))) := by
  have hst : ¬ b r_isStmt (ID t q) = 0 := (isS_1 h hq).mpr (by unfold stS; omega)
  have ne : ∀ s : Nat, s < 256 → ¬ SO t q = s → ¬ b r_sort (ID t q) = nI s := fun s h1 h2 u => h2 ((RU_is h hq h1).mp u)
  have n36 : ¬ (b r_sort (ID t q) = 36 ∨ b r_sort (ID t q) = 37) := fun u => u.elim (ne 36 (by decide) (by omega)) (ne 37 (by decide) (by omega))
  have n58 : ¬ b r_sort (ID t q) = 58 := ne 58 (by decide) (by omega)
  have n59 : ¬ b r_sort (ID t q) = 59 := ne 59 (by decide) (by omega)
  have n68 : ¬ b r_sort (ID t q) = 68 := ne 68 (by decide) (by omega)
  have n70 : ¬ b r_sort (ID t q) = 70 := ne 70 (by decide) (by omega)
  have n73 : ¬ b r_sort (ID t q) = 73 := ne 73 (by decide) (by omega)
  have n83 : ¬ b r_sort (ID t q) = 83 := ne 83 (by decide) (by omega)
  have n84 : ¬ b r_sort (ID t q) = 84 := ne 84 (by decide) (by omega)
  have n87 : ¬ b r_sort (ID t q) = 87 := ne 87 (by decide) (by omega)
  have n123 : ¬ b r_sort (ID t q) = 123 := ne 123 (by decide) (by omega)
  unfold own
  rw [if_neg hst]
  unfold bsX
  rw [if_neg n36, if_neg n58, if_neg n59, if_neg n68, if_neg n70, if_neg n73, if_neg n83, if_neg n84, if_neg n87, if_neg n123, rch_E h hq 0]
  generalize coW Wf (cdF b (ID t q)) (lvA b (sp_z t) (cdF b (ID t q)) k (ID t q) (b r_around (ID t q))) = z
  refine ⟨fun hK => ?_, fun e hK he => ?_⟩
  · have fE : (KI t q).filter (isE t) = [] := by rw [hK, List.filter_nil]
    rw [fE]
    show x ∈ (if (0 : Nat) = 0 then edF (5 * ID t q + 0) z 0 E else _) ↔ _
    rw [if_pos rfl, m_ed]
  · have fE : (KI t q).filter (isE t) = [e] := by rw [hK, List.filter_cons_of_pos (isE_y he), List.filter_nil]
    have l_e := (kid_lt h hq (show e ∈ KI t q by rw [hK]; exact List.mem_cons_self)).2
    rw [fE]
    show x ∈ (if ID t e + 1 = 0 then _ else enF (ID t e) z z (edF (5 * ID t q + 0) (nI (5 * ID t e + 0)) 0 E)) ↔ _
    rw [if_neg (by omega), m_en, m_edn (by omega)]
end OW
