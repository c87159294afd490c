section CD
variable {l : Nat → Nat → Int64} {w : Int64}
/-- a part of a row goes up by one -/
def incR (f : Nat → Int32) (lo hi : Nat) : Nat → Int32 := fun i => if lo ≤ i ∧ i < hi then f i + 1 else f i
abbrev wrL (p s k : Int32) : pv_L := [(0, .ref 2), (1, .int p), (2, .int s), (3, .int k)]
abbrev wrM (p s k q : Int32) : pv_L := [(0, .ref 2), (1, .int p), (2, .int s), (3, .int k), (4, .int q)]
set_option maxRecDepth 100000 in
theorem wr_loop (d : Nat) (m : Nat → Int32) (a : Nat → Nat → Int32) {B lo : Nat} (hB : B ≤ 241) (hs : m c_P_size = nI B) (p s k : Int32) (P : pv_R) (h : ∀ x, pv_go cq_T20 1 (pv_call cq_mt d) P (135, wrM p s k x, [], cs m (upa a c_P_end (incR (a c_P_end) lo B)) l w)) : ∀ (j q : Nat), lo ≤ q → q + j = B → pv_go cq_T20 1 (pv_call cq_mt d) P (109, wrM p s k (nI q), [], cs m (upa a c_P_end (incR (a c_P_end) lo q)) l w) := by
  intro j
  induction j with
  | zero =>
    intro q hq hj
    have e : q = B := by omega
    subst e
    refine pv_run [135] 40 ?_
    refine And.intro (fun _ => h _) (fun c => ?_)
    exfalso
    have c : ¬ m 4 ≤ nI q := c
    rw [show m 4 = nI q from hs] at c
    exact c (Int32.le_refl _)
  | succ j ih =>
    intro q hq hj
    have g := ih (q + 1) (by omega) (by omega)
    have i1 : vp_in (nI q) 241 := vp_in_nI (by omega) (by decide)
    have c1 : (nI q).toNatClampNeg = q := nI_clamp (by omega)
    refine pv_run [109, 135] 40 ?_
    refine And.intro (fun c => ?_) (fun _ => ?_)
    · exfalso
      have c : m 4 ≤ nI q := c
      rw [show m 4 = nI B from hs, nI_leI (by omega) (by omega)] at c
      omega
    refine And.intro i1 ?_
    refine And.intro i1 ?_
    have ea : up2 (upa a c_P_end (incR (a c_P_end) lo q)) c_P_end (nI q).toNatClampNeg ((upa a c_P_end (incR (a c_P_end) lo q)) c_P_end (nI q).toNatClampNeg + 1) = upa a c_P_end (incR (a c_P_end) lo (q + 1)) := by
      rw [c1]
      funext x
      unfold up2 upa
      by_cases hx : x = c_P_end
      · rw [if_pos hx, if_pos hx]
        funext i
        unfold upd
        by_cases hi : i = q
        · rw [if_pos hi, if_pos rfl, hi]
          unfold incR
          rw [if_neg (by omega), if_pos (by omega)]
        · rw [if_neg hi, if_pos rfl]
          unfold incR
          by_cases hh : lo ≤ i ∧ i < q
          · rw [if_pos hh, if_pos (by omega)]
          · rw [if_neg hh, if_neg (by omega)]
      · rw [if_neg hx, if_neg hx, if_neg hx]
    rw [← nI_1, ← ea] at g
    exact g
/-- the rows behind an operator that is put ahead of its left side -/
def wrA (a : Nat → Nat → Int32) (b p : Nat) (s : Int32) : Nat → Nat → Int32 :=
  let a1 := apA a b s (a c_P_first p) (-1) (a c_P_there p)
  let a2 := upa a1 c_P_sort (va_cpy (a1 c_P_sort) (a1 c_P_sort) p (p + 1) (b - p))
  let a3 := upa a2 c_P_first (va_cpy (a2 c_P_first) (a2 c_P_first) p (p + 1) (b - p))
  let a4 := upa a3 c_P_named (va_cpy (a3 c_P_named) (a3 c_P_named) p (p + 1) (b - p))
  let a5 := upa a4 c_P_end (va_cpy (a4 c_P_end) (a4 c_P_end) p (p + 1) (b - p))
  up2 (up2 (upa a5 c_P_end (incR (a5 c_P_end) (p + 1) (b + 1))) c_P_sort p s) c_P_named p (-1)
set_option maxRecDepth 100000 in
theorem wr_135 (d : Nat) (m : Nat → Int32) (a : Nat → Nat → Int32) {p : Nat} (hp : p < 241) (s k x : Int32) (P : pv_R) (h : P (some (.int 1)) (cs m (up2 (up2 a c_P_sort p s) c_P_named p (-1)) l w)) : pv_go cq_T20 1 (pv_call cq_mt d) P (135, wrM (nI p) s k x, [], cs m a l w) := by
  have i1 : vp_in (nI p) 241 := vp_in_nI hp (by decide)
  have c1 : (nI p).toNatClampNeg = p := nI_clamp (by omega)
  refine pv_run [] 40 ?_
  refine And.intro i1 ?_
  refine And.intro i1 ?_
  have h2 : P (some (.int 1)) (cs m (up2 (up2 a c_P_sort (nI p).toNatClampNeg s) c_P_named (nI p).toNatClampNeg (-1)) l w) := by rw [c1]; exact h
  exact And.intro (Or.inr rfl) h2
set_option maxRecDepth 100000 in
theorem wr_104 (d : Nat) (m : Nat → Int32) (a : Nat → Nat → Int32) {b p : Nat} (hp : p < b) (hb : b < 241) (hs : m c_P_size = nI (b + 1)) (s k : Int32) (P : pv_R) (h : P (some (.int 1)) (cs m (up2 (up2 (upa a c_P_end (incR (a c_P_end) (p + 1) (b + 1))) c_P_sort p s) c_P_named p (-1)) l w)) : pv_go cq_T20 1 (pv_call cq_mt d) P (104, wrL (nI p) s k, [], cs m a l w) := by
  refine pv_run [109] 40 ?_
  have g := wr_loop d m a (B := b + 1) (lo := p + 1) (by omega) hs (nI p) s k P (fun x => wr_135 d m _ (by omega) s k x P h) (b + 1 - (p + 1)) (p + 1) (Nat.le_refl _) (by omega)
  have e0 : upa a c_P_end (incR (a c_P_end) (p + 1) (p + 1)) = a := by
    funext x
    unfold upa
    by_cases hx : x = c_P_end
    · rw [if_pos hx, hx]
      funext i
      unfold incR
      rw [if_neg (by omega)]
    · rw [if_neg hx]
  rw [e0, ← nI_1] at g
  exact g
set_option maxRecDepth 100000 in
theorem wr_40 (d : Nat) (m : Nat → Int32) (a : Nat → Nat → Int32) {p k : Nat} (hk : p + 1 + k ≤ 241) (s : Int32) (P : pv_R) (h : pv_go cq_T20 1 (pv_call cq_mt (d + 1)) P (56, wrL (nI p) s (nI k), [], cs m (upa a c_P_sort (va_cpy (a c_P_sort) (a c_P_sort) p (p + 1) k)) l w)) : pv_go cq_T20 1 (pv_call cq_mt (d + 1)) P (40, wrL (nI p) s (nI k), [], cs m a l w) := by
  have c1 : (nI p).toNatClampNeg = p := nI_clamp (by omega)
  have c2 : (nI p + 1).toNatClampNeg = p + 1 := by rw [nI_1, nI_clamp (by omega)]
  have c3 : (nI k).toNatClampNeg = k := nI_clamp (by omega)
  have cond : (¬ nI p < 0 ∧ ¬ nI p + 1 < 0 ∧ ¬ nI k < 0) ∧ (nI p).toNatClampNeg + (nI k).toNatClampNeg ≤ 241 ∧ (nI p + 1).toNatClampNeg + (nI k).toNatClampNeg ≤ 241 := ⟨⟨nI_pos (by omega), by rw [nI_1]; exact nI_pos (by omega), nI_pos (by omega)⟩, by rw [c1, c3]; omega, by rw [c2, c3]; omega⟩
  refine pv_run [56] 40 ?_
  refine And.intro cond ?_
  show pv_go cq_T20 1 (pv_call cq_mt (d + 1)) P (56, wrL (nI p) s (nI k), [], cs m (upa a c_P_sort (va_cpy (a c_P_sort) (a c_P_sort) (nI p).toNatClampNeg (nI p + 1).toNatClampNeg (nI k).toNatClampNeg)) l w)
  rw [c1, c2, c3]
  exact h
set_option maxRecDepth 100000 in
theorem wr_56 (d : Nat) (m : Nat → Int32) (a : Nat → Nat → Int32) {p k : Nat} (hk : p + 1 + k ≤ 241) (s : Int32) (P : pv_R) (h : pv_go cq_T20 1 (pv_call cq_mt (d + 1)) P (72, wrL (nI p) s (nI k), [], cs m (upa a c_P_first (va_cpy (a c_P_first) (a c_P_first) p (p + 1) k)) l w)) : pv_go cq_T20 1 (pv_call cq_mt (d + 1)) P (56, wrL (nI p) s (nI k), [], cs m a l w) := by
  have c1 : (nI p).toNatClampNeg = p := nI_clamp (by omega)
  have c2 : (nI p + 1).toNatClampNeg = p + 1 := by rw [nI_1, nI_clamp (by omega)]
  have c3 : (nI k).toNatClampNeg = k := nI_clamp (by omega)
  have cond : (¬ nI p < 0 ∧ ¬ nI p + 1 < 0 ∧ ¬ nI k < 0) ∧ (nI p).toNatClampNeg + (nI k).toNatClampNeg ≤ 241 ∧ (nI p + 1).toNatClampNeg + (nI k).toNatClampNeg ≤ 241 := ⟨⟨nI_pos (by omega), by rw [nI_1]; exact nI_pos (by omega), nI_pos (by omega)⟩, by rw [c1, c3]; omega, by rw [c2, c3]; omega⟩
  refine pv_run [72] 40 ?_
  refine And.intro cond ?_
  show pv_go cq_T20 1 (pv_call cq_mt (d + 1)) P (72, wrL (nI p) s (nI k), [], cs m (upa a c_P_first (va_cpy (a c_P_first) (a c_P_first) (nI p).toNatClampNeg (nI p + 1).toNatClampNeg (nI k).toNatClampNeg)) l w)
  rw [c1, c2, c3]
  exact h
set_option maxRecDepth 100000 in
theorem wr_72 (d : Nat) (m : Nat → Int32) (a : Nat → Nat → Int32) {p k : Nat} (hk : p + 1 + k ≤ 241) (s : Int32) (P : pv_R) (h : pv_go cq_T20 1 (pv_call cq_mt (d + 1)) P (88, wrL (nI p) s (nI k), [], cs m (upa a c_P_named (va_cpy (a c_P_named) (a c_P_named) p (p + 1) k)) l w)) : pv_go cq_T20 1 (pv_call cq_mt (d + 1)) P (72, wrL (nI p) s (nI k), [], cs m a l w) := by
  have c1 : (nI p).toNatClampNeg = p := nI_clamp (by omega)
  have c2 : (nI p + 1).toNatClampNeg = p + 1 := by rw [nI_1, nI_clamp (by omega)]
  have c3 : (nI k).toNatClampNeg = k := nI_clamp (by omega)
  have cond : (¬ nI p < 0 ∧ ¬ nI p + 1 < 0 ∧ ¬ nI k < 0) ∧ (nI p).toNatClampNeg + (nI k).toNatClampNeg ≤ 241 ∧ (nI p + 1).toNatClampNeg + (nI k).toNatClampNeg ≤ 241 := ⟨⟨nI_pos (by omega), by rw [nI_1]; exact nI_pos (by omega), nI_pos (by omega)⟩, by rw [c1, c3]; omega, by rw [c2, c3]; omega⟩
  refine pv_run [88] 40 ?_
  refine And.intro cond ?_
  show pv_go cq_T20 1 (pv_call cq_mt (d + 1)) P (88, wrL (nI p) s (nI k), [], cs m (upa a c_P_named (va_cpy (a c_P_named) (a c_P_named) (nI p).toNatClampNeg (nI p + 1).toNatClampNeg (nI k).toNatClampNeg)) l w)
  rw [c1, c2, c3]
  exact h
set_option maxRecDepth 100000 in
theorem wr_88 (d : Nat) (m : Nat → Int32) (a : Nat → Nat → Int32) {p k : Nat} (hk : p + 1 + k ≤ 241) (s : Int32) (P : pv_R) (h : pv_go cq_T20 1 (pv_call cq_mt (d + 1)) P (104, wrL (nI p) s (nI k), [], cs m (upa a c_P_end (va_cpy (a c_P_end) (a c_P_end) p (p + 1) k)) l w)) : pv_go cq_T20 1 (pv_call cq_mt (d + 1)) P (88, wrL (nI p) s (nI k), [], cs m a l w) := by
  have c1 : (nI p).toNatClampNeg = p := nI_clamp (by omega)
  have c2 : (nI p + 1).toNatClampNeg = p + 1 := by rw [nI_1, nI_clamp (by omega)]
  have c3 : (nI k).toNatClampNeg = k := nI_clamp (by omega)
  have cond : (¬ nI p < 0 ∧ ¬ nI p + 1 < 0 ∧ ¬ nI k < 0) ∧ (nI p).toNatClampNeg + (nI k).toNatClampNeg ≤ 241 ∧ (nI p + 1).toNatClampNeg + (nI k).toNatClampNeg ≤ 241 := ⟨⟨nI_pos (by omega), by rw [nI_1]; exact nI_pos (by omega), nI_pos (by omega)⟩, by rw [c1, c3]; omega, by rw [c2, c3]; omega⟩
  refine pv_run [104] 40 ?_
  refine And.intro cond ?_
  show pv_go cq_T20 1 (pv_call cq_mt (d + 1)) P (104, wrL (nI p) s (nI k), [], cs m (upa a c_P_end (va_cpy (a c_P_end) (a c_P_end) (nI p).toNatClampNeg (nI p + 1).toNatClampNeg (nI k).toNatClampNeg)) l w)
  rw [c1, c2, c3]
  exact h
set_option maxRecDepth 100000 in
theorem cc_wrap (d : Nat) (m : Nat → Int32) (a : Nat → Nat → Int32) {b p : Nat} (hp : p < b) (hb : b < 241) (hs : m c_P_size = nI b) (s : Int32) (P : pv_R) (h : P (some (.int 1)) (cs (upd m c_P_size (nI (b + 1))) (wrA a b p s) l w)) : pv_call cq_mt (d + 2) cq_m_Places_wrapFrom [.ref 2, .int (nI p), .int s] (cs m a l w) P := by
  have i1 : vp_in (nI p) 241 := vp_in_nI (by omega) (by decide)
  have c1 : (nI p).toNatClampNeg = p := nI_clamp (by omega)
  refine pv_call_of rfl rfl rfl (pv_run [31] 40 ?_)
  refine cc_has d m a (p := p) (b := b) (by omega) (by omega) hs _ (fun _ => ?_) (fun q => absurd hp q)
  refine And.intro (fun q => absurd q (by decide)) (fun _ => ?_)
  refine And.intro i1 ?_
  refine And.intro i1 ?_
  show pv_call cq_mt (d + 1) 19 [.ref 2, .int s, .int (a 3 (nI p).toNatClampNeg), .int (-1), .int (a 5 (nI p).toNatClampNeg)] (cs m a l w) _
  rw [c1]
  refine cc_append d m a hb hs s (a 3 p) (-1) (a 5 p) _ ?_
  refine And.intro (fun q => absurd q (by decide)) (fun _ => ?_)
  unfold wrA at h
  generalize hA1 : apA a b s (a c_P_first p) (-1) (a c_P_there p) = a1 at h
  show pv_go cq_T20 1 (pv_call cq_mt (d + 1)) P (31, [(0, .ref 2), (1, .int (nI p)), (2, .int s)], [], cs (upd m c_P_size (nI (b + 1))) a1 l w)
  have hs1 : (upd m c_P_size (nI (b + 1))) c_P_size = nI (b + 1) := rfl
  generalize upd m c_P_size (nI (b + 1)) = m1 at *
  refine pv_run [40] 40 ?_
  show pv_go cq_T20 1 (pv_call cq_mt (d + 1)) P (40, wrL (nI p) s (m1 4 - 1 - nI p), [], cs m1 a1 l w)
  have ek : m1 4 - 1 - nI p = nI (b - p) := by
    rw [show m1 4 = nI (b + 1) from hs1, nI_pred]
    have e1 : nI (b - p) + nI p = nI b := by rw [nI_add, show b - p + p = b by omega]
    rw [← e1]
    exact Int32.add_sub_cancel _ _
  rw [ek]
  refine wr_40 d m1 a1 (k := b - p) (by omega) s P ?_
  refine wr_56 d m1 _ (k := b - p) (by omega) s P ?_
  refine wr_72 d m1 _ (k := b - p) (by omega) s P ?_
  refine wr_88 d m1 _ (k := b - p) (by omega) s P ?_
  refine wr_104 (d + 1) m1 _ hp hb hs1 s (nI (b - p)) P ?_
  exact h
set_option maxRecDepth 100000 in
theorem cc_operator (d : Nat) (m : Nat → Int32) (a : Nat → Nat → Int32) {b p : Nat} (hp : p < b) (hb : b < 241) (hs : m c_P_size = nI b) {q : Nat} (hat : m c_R_at = nI q) (s : Int32) (P : pv_R) (h : P (some (.int 1)) (cs (upd (upd m c_P_size (nI (b + 1))) c_R_at (nI (q + 1))) (wrA a b p s) l w)) : pv_call cq_mt (d + 3) cq_m_Reader_operator [.ref 3, .int (nI p), .int s] (cs m a l w) P := by
  refine pv_call_of rfl rfl rfl (pv_run [17] 40 ?_)
  refine cc_wrap d m a hp hb hs s _ ?_
  refine And.intro (fun q => absurd q (by decide)) (fun _ => ?_)
  generalize wrA a b p s = a1 at *
  show pv_go cq_T56 1 (pv_call cq_mt (d + 2)) P (17, [(0, .ref 3), (1, .int (nI p)), (2, .int s)], [], cs (upd m c_P_size (nI (b + 1))) a1 l w)
  have hat1 : (upd m c_P_size (nI (b + 1))) c_R_at = nI q := hat
  generalize upd m c_P_size (nI (b + 1)) = m1 at *
  refine pv_run [] 40 ?_
  rw [← nI_1, ← show m1 7 = nI q from hat1] at h
  exact And.intro (Or.inr rfl) h
end CD
