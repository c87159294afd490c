/-! the class's small methods -/
theorem cc_isName (d : Nat) (S : pv_S) (c : Int32) (P : pv_R) (h : P (some (.int (if 97 ≤ c ∧ c ≤ 122 then 1 else 0))) S) : pv_call cq_mt (d + 1) cq_m_A_isName [.int c] S P := by
  refine pv_call_of rfl rfl rfl (pv_run [] 50 ?_)
  refine And.intro (fun c1 => ?_) (fun c1 => ?_)
  · refine And.intro (Or.inl rfl) ?_
    rw [if_neg (by intro q; exact absurd c1 (Int32.not_lt.mpr q.1))] at h
    exact h
  · refine And.intro (fun c2 => ?_) (fun c2 => ?_)
    · refine And.intro (Or.inl rfl) ?_
      rw [if_neg (by intro q; exact absurd c2 (Int32.not_lt.mpr q.2))] at h
      exact h
    · refine And.intro (Or.inr rfl) ?_
      rw [if_pos ⟨Int32.not_lt.mp c1, Int32.not_lt.mp c2⟩] at h
      exact h
theorem cc_isLabel (d : Nat) (S : pv_S) (c : Int32) (P : pv_R) (h : P (some (.int (if 50 ≤ c ∧ c ≤ 57 then 1 else 0))) S) : pv_call cq_mt (d + 1) cq_m_A_isLabel [.int c] S P := by
  refine pv_call_of rfl rfl rfl (pv_run [] 50 ?_)
  refine And.intro (fun c1 => ?_) (fun c1 => ?_)
  · refine And.intro (Or.inl rfl) ?_
    rw [if_neg (by intro q; exact absurd c1 (Int32.not_lt.mpr q.1))] at h
    exact h
  · refine And.intro (fun c2 => ?_) (fun c2 => ?_)
    · refine And.intro (Or.inl rfl) ?_
      rw [if_neg (by intro q; exact absurd c2 (Int32.not_lt.mpr q.2))] at h
      exact h
    · refine And.intro (Or.inr rfl) ?_
      rw [if_pos ⟨Int32.not_lt.mp c1, Int32.not_lt.mp c2⟩] at h
      exact h
theorem cc_isLoop (d : Nat) (S : pv_S) (c : Int32) (P : pv_R) (h : P (some (.int (if c = 87 ∨ c = 68 ∨ c = 70 then 1 else 0))) S) : pv_call cq_mt (d + 1) cq_m_A_isLoop [.int c] S P := by
  refine pv_call_of rfl rfl rfl (pv_run [] 50 ?_)
  refine And.intro (fun c1 => ?_) (fun c1 => ?_)
  · rw [if_pos (Or.inl c1)] at h
    exact And.intro (Or.inr rfl) h
  · refine And.intro (fun c2 => ?_) (fun c2 => ?_)
    · rw [if_pos (Or.inr (Or.inl c2))] at h
      exact And.intro (Or.inr rfl) h
    · refine And.intro (fun c3 => ?_) (fun c3 => ?_)
      · rw [if_pos (Or.inr (Or.inr c3))] at h
        exact And.intro (Or.inr rfl) h
      · rw [if_neg (fun r => r.elim c1 (fun r => r.elim c2 c3))] at h
        exact And.intro (Or.inl rfl) h
section CC
variable {l : Nat → Nat → Int64} {w : Int64}
set_option maxRecDepth 100000 in
theorem cc_has (d : Nat) (m : Nat → Int32) (a : Nat → Nat → Int32) {p b : Nat} (hp : p < 2 ^ 31) (hb : b < 2 ^ 31) (hs : m c_P_size = nI b) (P : pv_R) (h1 : p < b → P (some (.int 1)) (cs m a l w)) (h0 : ¬ p < b → P (some (.int 0)) (cs m a l w)) : pv_call cq_mt (d + 1) cq_m_Places_has [.ref 2, .int (nI p)] (cs m a l w) P := by
  refine pv_call_of rfl rfl rfl (pv_run [] 50 ?_)
  refine And.intro (fun q => absurd q (nI_pos hp)) (fun _ => ?_)
  refine And.intro (fun q => ?_) (fun q => ?_)
  · have q : m 4 ≤ nI p := q
    rw [show m 4 = nI b from hs, nI_leI hb hp] at q
    exact And.intro (Or.inl rfl) (h0 (by omega))
  · have q : ¬ m 4 ≤ nI p := q
    rw [show m 4 = nI b from hs, nI_leI hb hp] at q
    exact And.intro (Or.inr rfl) (h1 (by omega))
set_option maxRecDepth 100000 in
theorem cc_hasNo (d : Nat) (m : Nat → Int32) (a : Nat → Nat → Int32) (P : pv_R) (h0 : P (some (.int 0)) (cs m a l w)) : pv_call cq_mt (d + 1) cq_m_Places_has [.ref 2, .int (-1)] (cs m a l w) P := by
  refine pv_call_of rfl rfl rfl (pv_run [] 50 ?_)
  refine And.intro (fun _ => And.intro (Or.inl rfl) h0) (fun q => absurd (by decide) q)
set_option maxRecDepth 100000 in
theorem cc_isFull (d : Nat) (m : Nat → Int32) (a : Nat → Nat → Int32) {V : Nat} (hV : V < 2 ^ 31) (hs : m c_V_size = nI V) (P : pv_R) (h : P (some (.int (if 12 ≤ V then 1 else 0))) (cs m a l w)) : pv_call cq_mt (d + 1) cq_m_Variables_isFull [.ref 1] (cs m a l w) P := by
  refine pv_call_of rfl rfl rfl (pv_run [] 50 ?_)
  refine And.intro (fun q => ?_) (fun q => ?_)
  · have q : m 10 < 12 := q
    rw [show m 10 = nI V from hs, show (12 : Int32) = nI 12 from rfl, nI_ltI hV (by omega)] at q
    rw [if_neg (by omega)] at h
    exact And.intro (Or.inl rfl) h
  · have q : ¬ m 10 < 12 := q
    rw [show m 10 = nI V from hs, show (12 : Int32) = nI 12 from rfl, nI_ltI hV (by omega)] at q
    rw [if_pos (by omega)] at h
    exact And.intro (Or.inr rfl) h
set_option maxRecDepth 100000 in
theorem cc_fail (d : Nat) (m : Nat → Int32) (a : Nat → Nat → Int32) (P : pv_R) (h : P (some (.int 0)) (cs (upd m c_R_faultAt (m c_R_at)) a l w)) : pv_call cq_mt (d + 1) cq_m_Reader_fail [.ref 3] (cs m a l w) P := by
  refine pv_call_of rfl rfl rfl (pv_run [] 50 ?_)
  exact And.intro (Or.inl rfl) h
set_option maxRecDepth 100000 in
theorem cc_sign_end (d : Nat) (m : Nat → Int32) (a : Nat → Nat → Int32) {n q : Nat} (hn : n ≤ 240) (hq : q ≤ n) (hat : m c_R_at = nI q) (hsz : m c_R_length = nI n) (P : pv_R) (h : P (some (.int (sp_c (a c_A_collected) n q))) (cs m a l w)) : pv_go cq_T31 0 (pv_call cq_mt d) P (52, [(0, .ref 3)], [], cs m a l w) := by
  refine pv_run [] 50 ?_
  refine And.intro (fun c1 => ?_) (fun c1 => ?_)
  · have c1 : m 6 ≤ m 7 := c1
    rw [show m 6 = nI n from hsz, show m 7 = nI q from hat, nI_leI (by omega) (by omega)] at c1
    unfold sp_c at h
    rw [if_neg (by omega)] at h
    exact h
  · have c1 : ¬ m 6 ≤ m 7 := c1
    rw [show m 6 = nI n from hsz, show m 7 = nI q from hat, nI_leI (by omega) (by omega)] at c1
    have hi : vp_in (m 7) 240 := by rw [show m 7 = nI q from hat]; exact vp_in_nI (by omega) (by decide)
    refine And.intro hi ?_
    unfold sp_c at h
    rw [if_pos (by omega)] at h
    have hv : (a 0) (m 7).toNatClampNeg = a c_A_collected q := by rw [show m 7 = nI q from hat, nI_clamp (by omega)]
    rw [← hv] at h
    exact h
set_option maxRecDepth 100000 in
theorem cc_sign_loop (d : Nat) (a : Nat → Nat → Int32) (n : Nat) (hn : n ≤ 240) (P : pv_R) : ∀ (k p : Nat) (m : Nat → Int32), p + k = n → m c_R_at = nI p → m c_R_length = nI n → P (some (.int (sp_c (a c_A_collected) n (skp (a c_A_collected) k p)))) (cs (upd m c_R_at (nI (skp (a c_A_collected) k p))) a l w) → pv_go cq_T31 0 (pv_call cq_mt d) P (0, [(0, .ref 3)], [], cs m a l w) := by
  intro k
  induction k with
  | zero =>
    intro p m hp hat hsz h
    have e : p = n := by omega
    refine pv_run [52] 50 ?_
    refine And.intro (fun _ => ?_) (fun c1 => ?_)
    · rw [show upd m c_R_at (nI (skp (a c_A_collected) 0 p)) = m from upd_same hat] at h
      exact cc_sign_end d m a hn (by omega) hat hsz P h
    · exfalso
      have c1 : ¬ m 6 ≤ m 7 := c1
      rw [show m 7 = nI p from hat, show m 6 = nI n from hsz, e] at c1
      exact c1 (Int32.le_refl _)
  | succ k ih =>
    intro p m hp hat hsz h
    refine pv_run [0, 52] 50 ?_
    refine And.intro (fun c1 => ?_) (fun c1 => ?_)
    · exfalso
      have c1 : m 6 ≤ m 7 := c1
      rw [show m 7 = nI p from hat, show m 6 = nI n from hsz] at c1
      exact nI_ge (show p < n by omega) (by omega) c1
    · have hi : vp_in (m 7) 240 := by rw [show m 7 = nI p from hat]; exact vp_in_nI (by omega) (by decide)
      have hv : (a 0) (m 7).toNatClampNeg = a c_A_collected p := by rw [show m 7 = nI p from hat, nI_clamp (by omega)]
      have hnext : (a c_A_collected p = 32 ∨ a c_A_collected p = 10) → pv_go cq_T31 0 (pv_call cq_mt d) P (0, [(0, .ref 3)], [], cs (upd m c_R_at (m 7 + 1)) a l w) := by
        intro hb
        refine ih (p + 1) (upd m c_R_at (m 7 + 1)) (by omega) ?_ hsz ?_
        · show m 7 + 1 = nI (p + 1)
          rw [show m 7 = nI p from hat, nI_1]
        · rw [upd_upd]
          unfold skp at h
          rw [if_pos hb] at h
          exact h
      refine And.intro hi ?_
      refine And.intro (fun c2 => ?_) (fun c2 => ?_)
      · exact hnext (Or.inl (hv.symm.trans c2))
      · refine And.intro hi ?_
        refine And.intro (fun c3 => ?_) (fun c3 => ?_)
        · exact hnext (Or.inr (hv.symm.trans c3))
        · unfold skp at h
          rw [if_neg (fun q => q.elim (fun q => c2 (hv.trans q)) (fun q => c3 (hv.trans q))), show upd m c_R_at (nI p) = m from upd_same hat] at h
          exact cc_sign_end d m a hn (by omega) hat hsz P h
theorem cc_sign (d : Nat) (m : Nat → Int32) (a : Nat → Nat → Int32) {n p : Nat} (hn : n ≤ 240) (hp : p ≤ n) (hat : m c_R_at = nI p) (hsz : m c_R_length = nI n) (P : pv_R) (h : P (some (.int (sp_c (a c_A_collected) n (sp_x (a c_A_collected) n p)))) (cs (upd m c_R_at (nI (sp_x (a c_A_collected) n p))) a l w)) : pv_call cq_mt (d + 1) cq_m_Reader_sign [.ref 3] (cs m a l w) P :=
  pv_call_of rfl rfl rfl (cc_sign_loop d a n hn P (n - p) p m (by omega) hat hsz h)
set_option maxRecDepth 100000 in
theorem cc_expect (d : Nat) (m : Nat → Int32) (a : Nat → Nat → Int32) {n p : Nat} (hn : n ≤ 240) (hp : p ≤ n) (hat : m c_R_at = nI p) (hsz : m c_R_length = nI n) (c : Int32) (P : pv_R)
    (h1 : sp_c (a c_A_collected) n (sp_x (a c_A_collected) n p) = c → P (some (.int 1)) (cs (upd m c_R_at (nI (sp_x (a c_A_collected) n p + 1))) a l w))
    (h0 : ¬ sp_c (a c_A_collected) n (sp_x (a c_A_collected) n p) = c → P (some (.int 0)) (cs (upd (upd m c_R_at (nI (sp_x (a c_A_collected) n p))) c_R_faultAt (nI (sp_x (a c_A_collected) n p))) a l w)) : pv_call cq_mt (d + 2) cq_m_Reader_expect [.ref 3, .int c] (cs m a l w) P := by
  refine pv_call_of rfl rfl rfl (pv_run [8, 13] 50 ?_)
  refine cc_sign d m a hn hp hat hsz _ ?_
  generalize sp_x (a c_A_collected) n p = q at *
  refine And.intro (fun e => ?_) (fun e => ?_)
  · have h1 := h1 e
    show pv_go cq_T34 1 (pv_call cq_mt (d + 1)) P (13, [(0, .ref 3), (1, .int c)], [], cs (upd m c_R_at (nI q)) a l w)
    refine pv_run [] 50 ?_
    rw [← nI_1, ← upd_upd m c_R_at (nI q)] at h1
    exact And.intro (Or.inr rfl) h1
  · have h0 := h0 e
    show pv_go cq_T34 1 (pv_call cq_mt (d + 1)) P (8, [(0, .ref 3), (1, .int c)], [], cs (upd m c_R_at (nI q)) a l w)
    refine pv_run [] 50 ?_
    refine cc_fail d (upd m c_R_at (nI q)) a _ ?_
    exact And.intro (Or.inl rfl) h0
set_option maxRecDepth 100000 in
theorem cc_signBehind (d : Nat) (m : Nat → Int32) (a : Nat → Nat → Int32) {n p : Nat} (hn : n ≤ 240) (hp : p < n) (hat : m c_R_at = nI p) (hsz : m c_R_length = nI n) (P : pv_R) (h : P (some (.int (sp_c (a c_A_collected) n (sp_x (a c_A_collected) n (p + 1))))) (cs m a l w)) : pv_call cq_mt (d + 2) cq_m_Reader_signBehindNext [.ref 3] (cs m a l w) P := by
  refine pv_call_of rfl rfl rfl (pv_run [] 50 ?_)
  show pv_call cq_mt (d + 1) cq_m_Reader_sign [.ref 3] (cs (upd m c_R_at (m 7 + 1)) a l w) _
  rw [show m 7 = nI p from hat, nI_1]
  refine cc_sign d (upd m c_R_at (nI (p + 1))) a hn (by omega) rfl hsz _ ?_
  generalize sp_x (a c_A_collected) n (p + 1) = q at *
  generalize sp_c (a c_A_collected) n q = c at *
  have e : upd (upd (upd m c_R_at (nI (p + 1))) c_R_at (nI q)) c_R_at (nI p) = m := by rw [upd_upd, upd_upd]; exact upd_same hat
  rw [← e] at h
  exact h
/-- the rows behind a new PLACE -/
def apA (a : Nat → Nat → Int32) (b : Nat) (s f v th : Int32) : Nat → Nat → Int32 := up2 (up2 (up2 (up2 (up2 (up2 (up2 (up2 (up2 (up2 a c_P_sort b s) c_P_first b f) c_P_named b v) c_P_there b th) c_P_end b (nI (b + 1))) c_P_target b (-1)) c_P_catchFrom b (-1)) c_P_finallyFrom b (-1)) c_P_isEntered b 0) c_P_isSkipped b 0
def apB (a : Nat → Nat → Int32) (b : Nat) (s f v th e : Int32) : Nat → Nat → Int32 := up2 (up2 (up2 (up2 (up2 a c_P_sort b s) c_P_first b f) c_P_named b v) c_P_there b th) c_P_end b e
abbrev apL (s f v th b : Int32) : pv_L := [(0, .ref 2), (1, .int s), (2, .int f), (3, .int v), (4, .int th), (5, .int b)]
set_option maxRecDepth 100000 in
theorem ap_62 (d : Nat) (m : Nat → Int32) (a : Nat → Nat → Int32) {b : Nat} (hb : b < 241) (hs : m c_P_size = nI b) (s f v th : Int32) (P : pv_R) (h : P (some (.int 1)) (cs (upd m c_P_size (nI (b + 1))) (up2 (up2 (up2 (up2 (up2 a c_P_target b (-1)) c_P_catchFrom b (-1)) c_P_finallyFrom b (-1)) c_P_isEntered b 0) c_P_isSkipped b 0) l w)) : pv_go cq_T19 1 (pv_call cq_mt d) P (62, apL s f v th (nI b), [], cs m a l w) := by
  have i1 : vp_in (nI b) 241 := vp_in_nI hb (by decide)
  have c1 : (nI b).toNatClampNeg = b := nI_clamp (by omega)
  refine pv_run [] 60 ?_
  refine And.intro i1 ?_
  refine And.intro i1 ?_
  refine And.intro i1 ?_
  refine And.intro (And.intro i1 (Or.inl rfl)) ?_
  refine And.intro (And.intro i1 (Or.inl rfl)) ?_
  have h2 : P (some (.int 1)) (cs (upd m c_P_size (m 4 + 1)) (up2 (up2 (up2 (up2 (up2 a c_P_target (nI b).toNatClampNeg (-1)) c_P_catchFrom (nI b).toNatClampNeg (-1)) c_P_finallyFrom (nI b).toNatClampNeg (-1)) c_P_isEntered (nI b).toNatClampNeg 0) c_P_isSkipped (nI b).toNatClampNeg 0) l w) := by
    rw [c1, show m 4 = nI b from hs, nI_1]
    exact h
  exact And.intro (Or.inr rfl) h2
set_option maxRecDepth 100000 in
theorem cc_append (d : Nat) (m : Nat → Int32) (a : Nat → Nat → Int32) {b : Nat} (hb : b < 241) (hs : m c_P_size = nI b) (s f v th : Int32) (P : pv_R) (h : P (some (.int 1)) (cs (upd m c_P_size (nI (b + 1))) (apA a b s f v th) l w)) : pv_call cq_mt (d + 1) cq_m_Places_append [.ref 2, .int s, .int f, .int v, .int th] (cs m a l w) P := by
  have i1 : vp_in (nI b) 241 := vp_in_nI hb (by decide)
  have c1 : (nI b).toNatClampNeg = b := nI_clamp (by omega)
  have g : pv_go cq_T19 1 (pv_call cq_mt d) P (18, apL s f v th (nI b), [], cs m a l w) := by
    refine pv_run [62] 60 ?_
    refine And.intro i1 ?_
    refine And.intro i1 ?_
    refine And.intro i1 ?_
    refine And.intro i1 ?_
    refine And.intro i1 ?_
    have g2 : pv_go cq_T19 1 (pv_call cq_mt d) P (62, apL s f v th (nI b), [], cs m (apB a (nI b).toNatClampNeg s f v th (nI b + 1)) l w) := by
      rw [c1, nI_1]
      exact ap_62 d m (apB a b s f v th (nI (b + 1))) hb hs s f v th P h
    exact g2
  refine pv_call_of rfl rfl rfl (pv_run [18] 60 ?_)
  refine And.intro (fun _ => ?_) (fun q => ?_)
  · rw [← show m 4 = nI b from hs] at g
    exact g
  · exfalso
    have q : ¬ m 4 < 241 := q
    rw [show m 4 = nI b from hs, show (241 : Int32) = nI 241 from rfl, nI_ltI (by omega) (by omega)] at q
    omega
set_option maxRecDepth 100000 in
theorem cc_rappend (d : Nat) (m : Nat → Int32) (a : Nat → Nat → Int32) {b : Nat} (hb : b < 241) (hs : m c_P_size = nI b) (s v : Int32) (P : pv_R) (h : P (some (.int 1)) (cs (upd m c_P_size (nI (b + 1))) (apA a b s (m c_R_at) v (m c_R_there)) l w)) : pv_call cq_mt (d + 2) cq_m_Reader_append [.ref 3, .int s, .int v] (cs m a l w) P := by
  refine pv_call_of rfl rfl rfl (pv_run [] 60 ?_)
  refine cc_append d m a hb hs s (m 7) v (m 9) _ ?_
  refine And.intro (fun q => absurd q (by decide)) (fun _ => ?_)
  exact And.intro (Or.inr rfl) h
set_option maxRecDepth 100000 in
theorem cc_close (d : Nat) (m : Nat → Int32) (a : Nat → Nat → Int32) {p b : Nat} (hp : p < b) (hb : b ≤ 241) (hs : m c_P_size = nI b) (P : pv_R) (h : P none (cs m (up2 a c_P_end p (nI b)) l w)) : pv_call cq_mt (d + 2) cq_m_Places_close [.ref 2, .int (nI p)] (cs m a l w) P := by
  have i1 : vp_in (nI p) 241 := vp_in_nI (by omega) (by decide)
  have c1 : (nI p).toNatClampNeg = p := nI_clamp (by omega)
  refine pv_call_of rfl rfl rfl (pv_run [] 60 ?_)
  refine cc_has d m a (p := p) (b := b) (by omega) (by omega) hs _ (fun _ => ?_) (fun q => absurd hp q)
  refine And.intro (fun q => absurd q (by decide)) (fun _ => ?_)
  refine And.intro i1 ?_
  have h2 : P none (cs m (up2 a c_P_end (nI p).toNatClampNeg (m 4)) l w) := by rw [c1, show m 4 = nI b from hs]; exact h
  exact h2
/-- a bit of what is there -/
abbrev thB (th : Int32) (v : Nat) : Prop := (th >>> (nI v &&& 31)) &&& 1 = 1
def fnd (a : Nat → Nat → Int32) (c th : Int32) : Nat → Nat → Int32
  | 0, _ => -1
  | k + 1, v => if thB th v ∧ a c_V_name v = c then nI v else fnd a c th k (v + 1)
set_option maxRecDepth 100000 in
theorem cc_find_loop (d : Nat) (m : Nat → Int32) (a : Nat → Nat → Int32) {V : Nat} (hV : V ≤ 12) (hs : m c_V_size = nI V) (c th : Int32) (P : pv_R) : ∀ (k v : Nat), v + k = V → P (some (.int (fnd a c th k v))) (cs m a l w) → pv_go cq_T69 0 (pv_call cq_mt d) P (2, [(0, .ref 1), (1, .int c), (2, .int th), (3, .int (nI v))], [], cs m a l w) := by
  intro k
  induction k with
  | zero =>
    intro v hv h
    have e : v = V := by omega
    subst e
    refine pv_run [] 60 ?_
    refine And.intro (fun _ => h) (fun q => ?_)
    exfalso
    have q : ¬ m 10 ≤ nI v := q
    rw [show m 10 = nI v from hs] at q
    exact q (Int32.le_refl _)
  | succ k ih =>
    intro v hv h
    have i1 : vp_in (nI v) 12 := vp_in_nI (by omega) (by decide)
    have c1 : (nI v).toNatClampNeg = v := nI_clamp (by omega)
    have nx : ¬ (thB th v ∧ a c_V_name v = c) → pv_go cq_T69 0 (pv_call cq_mt d) P (31, [(0, .ref 1), (1, .int c), (2, .int th), (3, .int (nI v))], [], cs m a l w) := by
      intro hq
      refine pv_run [2] 20 ?_
      show pv_go cq_T69 0 (pv_call cq_mt d) P (2, [(0, .ref 1), (1, .int c), (2, .int th), (3, .int (nI v + 1))], [], cs m a l w)
      rw [nI_1]
      refine ih (v + 1) (by omega) ?_
      unfold fnd at h
      rw [if_neg hq] at h
      exact h
    refine pv_run [31] 60 ?_
    refine And.intro (fun q => ?_) (fun _ => ?_)
    · exfalso
      have q : m 10 ≤ nI v := q
      rw [show m 10 = nI V from hs, nI_leI (by omega) (by omega)] at q
      omega
    refine And.intro (fun q1 => ?_) (fun q1 => nx (fun r => q1 r.1))
    refine And.intro i1 ?_
    refine And.intro (fun q2 => ?_) (fun q2 => nx (fun r => q2 (by show a 19 (nI v).toNatClampNeg = c; rw [c1]; exact r.2)))
    have q2 : a 19 (nI v).toNatClampNeg = c := q2
    rw [c1] at q2
    unfold fnd at h
    rw [if_pos ⟨q1, q2⟩] at h
    exact h
theorem cc_find (d : Nat) (m : Nat → Int32) (a : Nat → Nat → Int32) {V : Nat} (hV : V ≤ 12) (hs : m c_V_size = nI V) (c th : Int32) (P : pv_R) (h : P (some (.int (fnd a c th V 0))) (cs m a l w)) : pv_call cq_mt (d + 1) cq_m_Variables_find [.ref 1, .int c, .int th] (cs m a l w) P := by
  refine pv_call_of rfl rfl rfl (pv_run [2] 20 ?_)
  exact cc_find_loop d m a hV hs c th P V 0 (by omega) h
end CC
