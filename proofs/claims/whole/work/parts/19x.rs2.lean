/-- the rows behind a variable that is given -/
def gvX (a : Nat → Nat → Int32) (ib iV iu is : Nat) (xV xu xf xb : Int32) : Nat → Nat → Int32 := up2 (up2 (up2 (up2 (up2 (up2 a r_variable ib xV) r_nameOf iV xu) r_isFinal iV xf) r_givenAt iV xb) r_named iu xV) r_scope is xV
def gvA (a : Nat → Nat → Int32) (b V u sc : Nat) (f : Int32) : Nat → Nat → Int32 := up2 (gvX a b V u sc (nI V) (nI u) f (nI b)) r_thereAfter b (thr ((gvX a b V u sc (nI V) (nI u) f (nI b)) r_scope) (sc + 1))
abbrev gL (b c n : Int32) : pv_L := [(0, .ref 0), (1, .int b), (2, .int c), (3, .int n)]
set_option maxRecDepth 100000 in
theorem gv_end (d : Nat) (m : Nat → Int32) (a : Nat → Nat → Int32) {b sc : Nat} (hb : b < 260) (hsc2 : sc ≤ 12) (hsc : m r_scopes = nI sc) (c n1 : Int32) (P : pv_R) (h : P none (rs m (up2 a r_thereAfter b (thr (a r_scope) sc)))) : pv_go rq_T27 3 (pv_call rq_mt (d + 1)) P (173, gL (nI b) c n1, [], rs m a) := by
  have ib : vp_in (nI b) 260 := vp_in_nI hb (by decide)
  have cb : (nI b).toNatClampNeg = b := nI_clamp (by omega)
  refine pv_run [] 50 ?_
  refine rc_thereNow d m a hsc2 hsc _ ?_
  refine And.intro ib ?_
  have h2 : P none (rs m (up2 a r_thereAfter (nI b).toNatClampNeg (thr (a r_scope) sc))) := by rw [cb]; exact h
  exact h2
set_option maxRecDepth 100000 in
theorem gv_153 (d : Nat) (m : Nat → Int32) (a : Nat → Nat → Int32) {V sc : Nat} (hv : m r_variables = nI V) (hsc : m r_scopes = nI sc) (b c n1 : Int32) (P : pv_R) (h : pv_go rq_T27 3 (pv_call rq_mt d) P (173, gL b c n1, [], rs (upd (upd m r_scopes (nI (sc + 1))) r_variables (nI (V + 1))) a)) : pv_go rq_T27 3 (pv_call rq_mt d) P (153, gL b c n1, [], rs m a) := by
  refine pv_run [173] 40 ?_
  show pv_go rq_T27 3 (pv_call rq_mt d) P (173, gL b c n1, [], rs (upd (upd m r_scopes (m 25 + 1)) r_variables (m 19 + 1)) a)
  rw [show m 19 = nI V from hv, show m 25 = nI sc from hsc, nI_1, nI_1]
  exact h
set_option maxRecDepth 100000 in
theorem gv_127 (d : Nat) (m : Nat → Int32) (a : Nat → Nat → Int32) {V sc u : Nat} (hv : m r_variables = nI V) (hsc2 : sc < 12) (hsc : m r_scopes = nI sc) (b c n1 : Int32) (hu : u < 26) (hn1 : n1 - 97 = nI u) (P : pv_R) (h : pv_go rq_T27 3 (pv_call rq_mt d) P (153, gL b c n1, [], rs m (up2 (up2 a r_named u (nI V)) r_scope sc (nI V)))) : pv_go rq_T27 3 (pv_call rq_mt d) P (127, gL b c n1, [], rs m a) := by
  have is : vp_in (m 25) 12 := by rw [show m 25 = nI sc from hsc]; exact vp_in_nI hsc2 (by decide)
  have cs : (m 25).toNatClampNeg = sc := by rw [show m 25 = nI sc from hsc, nI_clamp (by omega)]
  have iu : vp_in (n1 - 97) 26 := by rw [hn1]; exact vp_in_nI hu (by decide)
  have cu : (n1 - 97).toNatClampNeg = u := by rw [hn1, nI_clamp (by omega)]
  refine pv_run [153] 40 ?_
  refine And.intro iu ?_
  refine And.intro is ?_
  show pv_go rq_T27 3 (pv_call rq_mt d) P (153, gL b c n1, [], rs m (up2 (up2 a r_named (n1 - 97).toNatClampNeg (m 19)) r_scope (m 25).toNatClampNeg (m 19)))
  rw [cs, cu, show m 19 = nI V from hv]
  exact h
set_option maxRecDepth 100000 in
theorem gv_116 (d : Nat) (m : Nat → Int32) (a : Nat → Nat → Int32) {V : Nat} (hV : V < 12) (hv : m r_variables = nI V) (b c n1 f : Int32) (hf : f = 0 ∨ f = 1) (P : pv_R) (h : pv_go rq_T27 3 (pv_call rq_mt d) P (127, gL b c n1, [], rs m (up2 (up2 a r_isFinal V f) r_givenAt V b))) : pv_go rq_T27 3 (pv_call rq_mt d) P (116, gL b c n1, [.int f, .int (m 19), .ref 18], rs m a) := by
  have iV : vp_in (m 19) 12 := by rw [show m 19 = nI V from hv]; exact vp_in_nI hV (by decide)
  have cV : (m 19).toNatClampNeg = V := by rw [show m 19 = nI V from hv, nI_clamp (by omega)]
  refine pv_run [127] 40 ?_
  refine And.intro (And.intro iV hf) ?_
  refine And.intro iV ?_
  show pv_go rq_T27 3 (pv_call rq_mt d) P (127, gL b c n1, [], rs m (up2 (up2 a r_isFinal (m 19).toNatClampNeg f) r_givenAt (m 19).toNatClampNeg b))
  rw [cV]
  exact h
set_option maxRecDepth 100000 in
theorem gv_97 (d : Nat) (m : Nat → Int32) (a : Nat → Nat → Int32) {V : Nat} (hV : V < 12) (hv : m r_variables = nI V) (b c n1 : Int32) (P : pv_R) (h : pv_go rq_T27 3 (pv_call rq_mt d) P (127, gL b c n1, [], rs m (up2 (up2 a r_isFinal V (if c = 37 then 1 else 0)) r_givenAt V b))) : pv_go rq_T27 3 (pv_call rq_mt d) P (97, gL b c n1, [], rs m a) := by
  refine pv_run [116] 40 ?_
  refine And.intro (fun q => ?_) (fun q => ?_)
  · rw [if_pos (show c = 37 from q)] at h
    exact gv_116 d m a hV hv b c n1 1 (Or.inr rfl) P h
  · rw [if_neg (show ¬ c = 37 from q)] at h
    exact gv_116 d m a hV hv b c n1 0 (Or.inl rfl) P h
set_option maxRecDepth 100000 in
theorem gv_74 (d : Nat) (m : Nat → Int32) (a : Nat → Nat → Int32) {b V : Nat} (hb : b < 260) (hV : V < 12) (hv : m r_variables = nI V) (c n1 : Int32) (P : pv_R) (h : pv_go rq_T27 3 (pv_call rq_mt d) P (97, gL (nI b) c n1, [], rs m (up2 (up2 a r_variable b (nI V)) r_nameOf V (n1 - 97)))) : pv_go rq_T27 3 (pv_call rq_mt d) P (74, gL (nI b) c n1, [], rs m a) := by
  have ib : vp_in (nI b) 260 := vp_in_nI hb (by decide)
  have cb : (nI b).toNatClampNeg = b := nI_clamp (by omega)
  have iV : vp_in (m 19) 12 := by rw [show m 19 = nI V from hv]; exact vp_in_nI hV (by decide)
  have cV : (m 19).toNatClampNeg = V := by rw [show m 19 = nI V from hv, nI_clamp (by omega)]
  refine pv_run [97] 40 ?_
  refine And.intro ib ?_
  refine And.intro iV ?_
  show pv_go rq_T27 3 (pv_call rq_mt d) P (97, gL (nI b) c n1, [], rs m (up2 (up2 a r_variable (nI b).toNatClampNeg (m 19)) r_nameOf (m 19).toNatClampNeg (n1 - 97)))
  rw [cb, cV, show m 19 = nI V from hv]
  exact h
theorem gv_tail (d : Nat) (m : Nat → Int32) (a : Nat → Nat → Int32) {b V sc u : Nat} (hb : b < 260) (hV : V < 12) (hv : m r_variables = nI V) (hsc2 : sc < 12) (hsc : m r_scopes = nI sc) (c n1 : Int32) (hu : u < 26) (hn1 : n1 - 97 = nI u) (P : pv_R) (h : P none (rs (upd (upd m r_scopes (nI (sc + 1))) r_variables (nI (V + 1))) (gvA a b V u sc (if c = 37 then 1 else 0)))) : pv_go rq_T27 3 (pv_call rq_mt (d + 1)) P (74, gL (nI b) c n1, [], rs m a) := by
  refine gv_74 (d + 1) m a hb hV hv c n1 P ?_
  refine gv_97 (d + 1) m _ hV hv (nI b) c n1 P ?_
  refine gv_127 (d + 1) m _ hv hsc2 hsc (nI b) c n1 hu hn1 P ?_
  refine gv_153 (d + 1) m _ hv hsc (nI b) c n1 P ?_
  rw [hn1]
  exact gv_end d _ _ hb (sc := sc + 1) (by omega) rfl c n1 P h
set_option maxRecDepth 100000 in
theorem rc_readGiven (d : Nat) (m : Nat → Int32) (a : Nat → Nat → Int32) {n p b V sc : Nat} (hn : n ≤ 240) (hp : p < n) (hat : m r_at = nI p) (hsz : m r_size = nI n) (hw : m r_wrong = -1) (hb : b < 260) (hV : V ≤ 12) (hv : m r_variables = nI V) (hsc2 : sc ≤ V) (hsc : m r_scopes = nI sc) (c : Int32) (P : pv_R)
    (h12 : V = 12 → P none (rs (upd m r_wrong (nI p)) a))
    (hbad : V < 12 → ¬ ((97 ≤ r_ch a n (r_nx a n (p + 1)) ∧ r_ch a n (r_nx a n (p + 1)) ≤ 122) ∧ a r_named (r_ch a n (r_nx a n (p + 1)) - 97).toNatClampNeg = -1) → P none (rs (upd (upd m r_at (nI (r_nx a n (p + 1)))) r_wrong (nI (r_nx a n (p + 1)))) a))
    (hok : V < 12 → ∀ u, u < 26 → r_ch a n (r_nx a n (p + 1)) - 97 = nI u → (97 ≤ r_ch a n (r_nx a n (p + 1)) ∧ r_ch a n (r_nx a n (p + 1)) ≤ 122) → a r_named u = -1 → r_nx a n (p + 1) < n →
      (r_ch a n (r_nx a n (r_nx a n (p + 1) + 1)) = 59 → P none (rs (upd (upd (upd m r_at (nI (r_nx a n (r_nx a n (p + 1) + 1) + 1))) r_scopes (nI (sc + 1))) r_variables (nI (V + 1))) (gvA a b V u sc (if c = 37 then 1 else 0)))) ∧
      (¬ r_ch a n (r_nx a n (r_nx a n (p + 1) + 1)) = 59 → P none (rs (upd (upd (upd (upd m r_at (nI (r_nx a n (r_nx a n (p + 1) + 1)))) r_wrong (nI (r_nx a n (r_nx a n (p + 1) + 1)))) r_scopes (nI (sc + 1))) r_variables (nI (V + 1))) (gvA a b V u sc (if c = 37 then 1 else 0))))) : pv_call rq_mt (d + 4) rq_m_R_readGiven [.ref 0, .int (nI b), .int c] (rs m a) P := by
  refine pv_call_of rfl rfl rfl (pv_run [33] 80 ?_)
  refine And.intro (fun q => ?_) (fun q => ?_)
  · have q : m 19 = 12 := q
    rw [show m 19 = nI V from hv, show (12 : Int32) = nI 12 from rfl, nI_eq (by omega) (by omega)] at q
    refine rc_fail (d + 2) m a (m 26) _ ?_
    rw [if_pos hw, show m 26 = nI p from hat]
    exact h12 q
  · have q : ¬ m 19 = 12 := q
    rw [show m 19 = nI V from hv, show (12 : Int32) = nI 12 from rfl, nI_eq (by omega) (by omega)] at q
    have hV2 : V < 12 := by omega
    show pv_call rq_mt (d + 3) 5 [.ref 0] (rs (upd m r_at (m 26 + 1)) a) _
    rw [show m 26 = nI p from hat, nI_1]
    refine rc_here (d + 1) (upd m r_at (nI (p + 1))) a hn (by omega) rfl hsz _ ?_
    rw [upd_upd]
    obtain ⟨l1, l2⟩ := r_nx_le (a := a) (n := n) (p := p + 1) (by omega)
    have hbad := hbad hV2
    have hok := hok hV2
    have hnn : r_nx a n (r_nx a n (p + 1)) = r_nx a n (p + 1) := r_nx_nx (by omega)
    have hlt : (97 ≤ r_ch a n (r_nx a n (p + 1)) ∧ r_ch a n (r_nx a n (p + 1)) ≤ 122) → r_nx a n (p + 1) < n := by
      intro hc
      refine Decidable.byContradiction fun hq => ?_
      unfold r_ch at hc
      rw [if_neg hq] at hc
      exact absurd hc.1 (by decide)
    generalize r_nx a n (p + 1) = q1 at *
    generalize r_ch a n q1 = c1 at *
    show pv_go rq_T27 3 (pv_call rq_mt (d + 3)) P (33, gL (nI b) c c1, [], rs (upd m r_at (nI q1)) a)
    have bad : ¬ ((97 ≤ c1 ∧ c1 ≤ 122) ∧ a r_named (c1 - 97).toNatClampNeg = -1) → pv_go rq_T27 3 (pv_call rq_mt (d + 3)) P (53, gL (nI b) c c1, [], rs (upd m r_at (nI q1)) a) := by
      intro hb
      refine pv_run [] 50 ?_
      refine rc_failHere (d + 1) (upd m r_at (nI q1)) a hn l2 rfl hsz _ ?_
      rw [hnn, upd_upd, if_pos (show (upd m r_at (nI q1)) r_wrong = -1 from hw)]
      exact hbad hb
    refine pv_run [53, 58] 50 ?_
    refine rc_isName (d + 2) _ c1 _ ?_
    by_cases hc1 : 97 ≤ c1 ∧ c1 ≤ 122
    · rw [if_pos hc1]
      refine And.intro (fun q => absurd q (by decide)) (fun _ => ?_)
      obtain ⟨u, hu, hu2, hu3, -⟩ := nm_u hc1
      have iu : vp_in (c1 - 97) 26 := by rw [hu2]; exact vp_in_nI hu (by decide)
      refine And.intro iu ?_
      refine And.intro (fun q2 => ?_) (fun q2 => ?_)
      · have q2 : a 23 (c1 - 97).toNatClampNeg = -1 := q2
        rw [hu3] at q2
        obtain ⟨ok1, ok2⟩ := hok u hu hu2 hc1 q2 (hlt hc1)
        have hq1 := hlt hc1
        show pv_go rq_T27 3 (pv_call rq_mt (d + 3)) P (58, gL (nI b) c c1, [], rs (upd m r_at (nI q1)) a)
        refine pv_run [74] 50 ?_
        show pv_call rq_mt (d + 3) 9 [.ref 0, .int 59] (rs (upd (upd m r_at (nI q1)) r_at (nI q1 + 1)) a) _
        rw [upd_upd, nI_1]
        refine rc_take d (upd m r_at (nI (q1 + 1))) a hn (by omega) rfl hsz 59 _ (fun q => absurd hw q) (fun _ e => ?_) (fun _ e => ?_)
        · rw [upd_upd]
          exact gv_tail (d + 2) (upd m r_at (nI (r_nx a n (q1 + 1) + 1))) a hb hV2 hv (by omega) hsc c c1 hu hu2 P (ok1 e)
        · rw [upd_upd]
          exact gv_tail (d + 2) (upd (upd m r_at (nI (r_nx a n (q1 + 1)))) r_wrong (nI (r_nx a n (q1 + 1)))) a hb hV2 hv (by omega) hsc c c1 hu hu2 P (ok2 e)
      · exact bad (fun r => q2 r.2)
    · rw [if_neg hc1]
      refine And.intro (fun _ => ?_) (fun q => absurd rfl q)
      exact bad (fun r => hc1 r.1)
/-- is the label of one of the first k open stmts c? -/
def lbH (a : Nat → Nat → Int32) (c : Int32) : Nat → Prop
  | 0 => False
  | k + 1 => lbH a c k ∨ a r_label (a r_open k).toNatClampNeg = c
set_option maxRecDepth 100000 in
theorem rl_loop (d : Nat) (m : Nat → Int32) (a : Nat → Nat → Int32) {p b k : Nat} (hk : k ≤ 24) (hop : m r_opened = nI k) (hat : m r_at = nI p) (hopen : ∀ i, i < k → ∃ x, x < 260 ∧ a r_open i = nI x) (c : Int32) (P : pv_R) : ∀ (j i : Nat) (w : Int32), i + j = k → ((¬ lbH a c i ∧ w = -1) ∨ (lbH a c i ∧ w = nI p)) → (∀ w : Int32, ((¬ lbH a c k ∧ w = -1) ∨ (lbH a c k ∧ w = nI p)) → ∀ x, pv_go rq_T28 3 (pv_call rq_mt (d + 1)) P (39, [(0, .ref 0), (1, .int (nI b)), (2, .int c), (3, .int x)], [], rs (upd m r_wrong w) a)) → pv_go rq_T28 3 (pv_call rq_mt (d + 1)) P (2, [(0, .ref 0), (1, .int (nI b)), (2, .int c), (3, .int (nI i))], [], rs (upd m r_wrong w) a) := by
  intro j
  induction j with
  | zero =>
    intro i w hi hw h
    have e : i = k := by omega
    subst e
    refine pv_run [39] 50 ?_
    refine And.intro (fun _ => h w hw _) (fun q => ?_)
    exfalso
    have q : ¬ m 40 ≤ nI i := q
    rw [show m 40 = nI i from hop] at q
    exact q (Int32.le_refl _)
  | succ j ih =>
    intro i w hi hw h
    obtain ⟨x, hx, hx2⟩ := hopen i (by omega)
    have i1 : vp_in (nI i) 24 := vp_in_nI (by omega) (by decide)
    have c1 : (nI i).toNatClampNeg = i := nI_clamp (by omega)
    have f1 : a 37 (nI i).toNatClampNeg = nI x := by rw [c1]; exact hx2
    have i2 : vp_in (a 37 (nI i).toNatClampNeg) 260 := by rw [f1]; exact vp_in_nI hx (by decide)
    have c2 : (a 37 (nI i).toNatClampNeg).toNatClampNeg = (a r_open i).toNatClampNeg := by rw [c1]
    refine pv_run [2, 39] 50 ?_
    refine And.intro (fun q => ?_) (fun _ => ?_)
    · exfalso
      have q : m 40 ≤ nI i := q
      rw [show m 40 = nI k from hop, nI_leI (by omega) (by omega)] at q
      omega
    refine And.intro i1 ?_
    refine And.intro i2 ?_
    refine And.intro (fun q => ?_) (fun q => ?_)
    · have q : a 11 (a 37 (nI i).toNatClampNeg).toNatClampNeg = c := q
      rw [c2] at q
      refine rc_fail d (upd m r_wrong w) a (m 26) _ ?_
      rw [upd_upd]
      show pv_go rq_T28 3 (pv_call rq_mt (d + 1)) P (2, [(0, .ref 0), (1, .int (nI b)), (2, .int c), (3, .int (nI i + 1))], [], rs (upd m r_wrong (if w = -1 then m 26 else w)) a)
      rw [nI_1]
      refine ih (i + 1) _ (by omega) (Or.inr ⟨Or.inr q, ?_⟩) h
      rw [show m 26 = nI p from hat]
      rcases hw with ⟨-, e⟩ | ⟨-, e⟩
      · rw [if_pos e]
      · by_cases e2 : w = -1
        · rw [if_pos e2]
        · rw [if_neg e2]; exact e
    · have q : ¬ a 11 (a 37 (nI i).toNatClampNeg).toNatClampNeg = c := q
      rw [c2] at q
      show pv_go rq_T28 3 (pv_call rq_mt (d + 1)) P (2, [(0, .ref 0), (1, .int (nI b)), (2, .int c), (3, .int (nI i + 1))], [], rs (upd m r_wrong w) a)
      rw [nI_1]
      refine ih (i + 1) w (by omega) ?_ h
      rcases hw with ⟨g1, e⟩ | ⟨g1, e⟩
      · exact Or.inl ⟨fun r => r.elim g1 q, e⟩
      · exact Or.inr ⟨Or.inl g1, e⟩
set_option maxRecDepth 100000 in
theorem rc_readLabel (d : Nat) (m : Nat → Int32) (a : Nat → Nat → Int32) {n p b k : Nat} (hn : n ≤ 240) (hp : p < n) (hat : m r_at = nI p) (hsz : m r_size = nI n) (hw : m r_wrong = -1) (hb : b < 260) (hk : k ≤ 24) (hop : m r_opened = nI k) (hopen : ∀ i, i < k → ∃ x, x < 260 ∧ a r_open i = nI x) (c : Int32) (P : pv_R)
    (h0 : lbH a c k → P none (rs (upd (upd m r_wrong (nI p)) r_at (nI (p + 1))) (up2 a r_label b c)))
    (h1 : ¬ lbH a c k → r_ch a n (r_nx a n (p + 1)) = 58 → P none (rs (upd m r_at (nI (r_nx a n (p + 1) + 1))) (up2 a r_label b c)))
    (h2 : ¬ lbH a c k → ¬ r_ch a n (r_nx a n (p + 1)) = 58 → P none (rs (upd (upd m r_at (nI (r_nx a n (p + 1)))) r_wrong (nI (r_nx a n (p + 1)))) (up2 a r_label b c))) : pv_call rq_mt (d + 4) rq_m_R_readLabel [.ref 0, .int (nI b), .int c] (rs m a) P := by
  have ib : vp_in (nI b) 260 := vp_in_nI hb (by decide)
  have cb : (nI b).toNatClampNeg = b := nI_clamp (by omega)
  refine pv_call_of rfl rfl rfl (pv_run [2] 20 ?_)
  have key := rl_loop (d + 2) m a hk hop hat hopen c P (b := b) k 0 (-1) (by omega) (Or.inl ⟨fun r => r, rfl⟩) (fun w hw2 x => ?_)
  · rw [upd_same hw] at key
    exact key
  · refine pv_run [] 50 ?_
    refine And.intro ib ?_
    show pv_call rq_mt (d + 3) 9 [.ref 0, .int 58] (rs (upd (upd m r_wrong w) r_at (m 26 + 1)) (up2 a r_label (nI b).toNatClampNeg c)) _
    rw [cb, show m 26 = nI p from hat, nI_1]
    rcases hw2 with ⟨g1, rfl⟩ | ⟨g1, rfl⟩
    · rw [upd_same hw]
      refine rc_take d (upd m r_at (nI (p + 1))) (up2 a r_label b c) hn (by omega) rfl hsz 58 _ (fun q => absurd hw q) (fun _ e => ?_) (fun _ e => ?_)
      · rw [upd_upd]
        exact h1 g1 e
      · rw [upd_upd]
        exact h2 g1 e
    · refine rc_take d (upd (upd m r_wrong (nI p)) r_at (nI (p + 1))) (up2 a r_label b c) hn (by omega) rfl hsz 58 _ (fun _ => h0 g1) (fun q => ?_) (fun q => ?_)
      · exfalso
        have q : nI p = -1 := q
        have := congrArg Int32.toInt q
        rw [nI_toInt (by omega)] at this
        have h2 : (-1 : Int32).toInt = -1 := by decide
        omega
      · exfalso
        have q : nI p = -1 := q
        have := congrArg Int32.toInt q
        rw [nI_toInt (by omega)] at this
        have h2 : (-1 : Int32).toInt = -1 := by decide
        omega
