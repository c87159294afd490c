section CI
variable {l : Nat → Nat → Int64} {w : Int64}
/-- the rows of the stmts around -/
def arA (a : Nat → Nat → Int32) (k : Nat) (p s b : Int32) : Nat → Nat → Int32 := up2 (up2 (up2 a c_R_placeAround k p) c_R_sortAround k s) c_R_labelAround k b
abbrev s4L (k : Nat) (c b s : Int32) : pv_L := [(0, .ref 3), (1, .int (nI k)), (2, .int c), (3, .int b), (4, .int s)]
set_option maxRecDepth 100000 in
theorem cs_112 (d : Nat) (m : Nat → Int32) (a : Nat → Nat → Int32) (k b : Nat) (c s : Int32) (P : pv_R) (h : pv_call cq_mt d cq_m_Reader_statementRest [.ref 3, .int (nI b), .int s, .int (nI k)] (cs m a l w) (bq l w (fun S => P (some (.int 0)) S) (fun m' a' => pv_call cq_mt d cq_m_Places_close [.ref 2, .int (nI b)] (cs m' a' l w) (fun o S => o = none ∧ P (some (.int 1)) S)))) : pv_go cq_T36 1 (pv_call cq_mt d) P (112, s4L k c (nI b) s, [], cs m a l w) := by
  refine pv_run [] 40 ?_
  refine pv_call_cm cq_mt d _ _ _ _ _ ?_ h
  intro o S h
  rcases h with ⟨rfl, h⟩ | ⟨rfl, m', a', rfl, h⟩
  · refine And.intro (fun _ => ?_) (fun q => absurd rfl q)
    exact And.intro (Or.inl rfl) h
  · refine And.intro (fun q => absurd q (by decide)) (fun _ => ?_)
    refine pv_call_cm cq_mt d _ _ _ _ _ ?_ h
    intro o S h
    obtain ⟨rfl, h⟩ := h
    exact And.intro (Or.inr rfl) h
set_option maxRecDepth 100000 in
theorem cs_76 (d : Nat) (m : Nat → Int32) (a : Nat → Nat → Int32) {k b q : Nat} (hb : b < 241) (hs : m c_P_size = nI b) (hat : m c_R_at = nI q) (c s : Int32) (P : pv_R) (h : pv_call cq_mt (d + 2) cq_m_Reader_statementRest [.ref 3, .int (nI b), .int s, .int (nI k)] (cs (upd (upd m c_P_size (nI (b + 1))) c_R_at (nI (if s = 59 ∨ s = 123 then q else q + 1))) (apA a b s (nI q) (-1) (m c_R_there)) l w) (bq l w (fun S => P (some (.int 0)) S) (fun m' a' => pv_call cq_mt (d + 2) cq_m_Places_close [.ref 2, .int (nI b)] (cs m' a' l w) (fun o S => o = none ∧ P (some (.int 1)) S)))) : pv_go cq_T36 1 (pv_call cq_mt (d + 2)) P (76, s4L k c (nI b) s, [], cs m a l w) := by
  refine pv_run [88] 40 ?_
  refine cc_rappend d m a hb hs s (-1) _ ?_
  rw [hat]
  refine And.intro (fun q => absurd q (by decide)) (fun _ => ?_)
  generalize apA a b s (nI q) (-1) (m c_R_there) = a1 at *
  show pv_go cq_T36 1 (pv_call cq_mt (d + 2)) P (88, s4L k c (nI b) s, [], cs (upd m c_P_size (nI (b + 1))) a1 l w)
  have hat1 : (upd m c_P_size (nI (b + 1))) c_R_at = nI q := hat
  generalize upd m c_P_size (nI (b + 1)) = m1 at *
  have same : (s = 59 ∨ s = 123) → pv_go cq_T36 1 (pv_call cq_mt (d + 2)) P (112, s4L k c (nI b) s, [], cs m1 a1 l w) := by
    intro hq
    rw [if_pos hq, upd_same hat1] at h
    exact cs_112 (d + 2) m1 a1 k b c s P h
  refine pv_run [112] 40 ?_
  refine And.intro (fun e => same (Or.inl e)) (fun e1 => ?_)
  refine And.intro (fun e => same (Or.inr e)) (fun e2 => ?_)
  rw [if_neg (fun r => r.elim e1 e2), ← nI_1, ← show m1 7 = nI q from hat1] at h
  exact cs_112 (d + 2) (upd m1 c_R_at (m1 7 + 1)) a1 k b c s P h
set_option maxRecDepth 100000 in
theorem cs_29 (d : Nat) (m : Nat → Int32) (a : Nat → Nat → Int32) {k b q : Nat} (hk : k < 20) (hb : b < 241) (hs : m c_P_size = nI b) (hat : m c_R_at = nI q) (c s : Int32) (hsc : s = (if 50 ≤ c ∧ c ≤ 57 then 58 else if stI c ∧ ¬ c = 58 then c else 59)) (P : pv_R) (h : pv_call cq_mt (d + 2) cq_m_Reader_statementRest [.ref 3, .int (nI b), .int s, .int (nI k)] (cs (upd (upd m c_P_size (nI (b + 1))) c_R_at (nI (if s = 59 ∨ s = 123 then q else q + 1))) (apA (arA a k (nI b) s (if 50 ≤ c ∧ c ≤ 57 then c else -1)) b s (nI q) (-1) (m c_R_there)) l w) (bq l w (fun S => P (some (.int 0)) S) (fun m' a' => pv_call cq_mt (d + 2) cq_m_Places_close [.ref 2, .int (nI b)] (cs m' a' l w) (fun o S => o = none ∧ P (some (.int 1)) S)))) : pv_go cq_T36 1 (pv_call cq_mt (d + 2)) P (29, [(0, .ref 3), (1, .int (nI k)), (2, .int c)], [], cs m a l w) := by
  have ik : vp_in (nI k) 20 := vp_in_nI hk (by decide)
  have ck : (nI k).toNatClampNeg = k := nI_clamp (by omega)
  refine pv_run [43] 40 ?_
  refine cc_sort d _ c _ ?_
  rw [← hsc]
  show pv_go cq_T36 1 (pv_call cq_mt (d + 2)) P (43, s4L k c (m 4) s, [], cs m a l w)
  rw [show m 4 = nI b from hs]
  have fin : ∀ x : Int32, x = (if 50 ≤ c ∧ c ≤ 57 then c else -1) → pv_go cq_T36 1 (pv_call cq_mt (d + 2)) P (75, s4L k c (nI b) s, [.int x, .int (nI k), .ref 25], cs m (up2 (up2 a c_R_placeAround k (nI b)) c_R_sortAround k s) l w) := by
    intro x hx
    rw [← hx] at h
    refine pv_run [76] 20 ?_
    refine And.intro ik ?_
    have g := cs_76 d m (arA a k (nI b) s x) hb hs hat c s P h
    have ea : arA a k (nI b) s x = up2 (up2 (up2 a c_R_placeAround k (nI b)) c_R_sortAround k s) c_R_labelAround (nI k).toNatClampNeg x := by rw [ck]; rfl
    rw [ea] at g
    exact g
  have e2 : up2 (up2 a c_R_placeAround (nI k).toNatClampNeg (nI b)) c_R_sortAround (nI k).toNatClampNeg s = up2 (up2 a c_R_placeAround k (nI b)) c_R_sortAround k s := by rw [ck]
  rw [← e2] at fin
  refine pv_run [75] 40 ?_
  refine And.intro ik ?_
  refine And.intro ik ?_
  refine cc_isLabel (d + 1) _ c _ ?_
  by_cases hl : 50 ≤ c ∧ c ≤ 57
  · rw [if_pos hl]
    refine And.intro (fun q => absurd q (by decide)) (fun _ => ?_)
    exact fin c (by rw [if_pos hl])
  · rw [if_neg hl]
    refine And.intro (fun _ => ?_) (fun q => absurd rfl q)
    exact fin (-1) (by rw [if_neg hl])
set_option maxRecDepth 100000 in
/-- a stmt: refused, or on to its rest -/
theorem cc_stmt (d : Nat) (m : Nat → Int32) (a : Nat → Nat → Int32) {n p k b V : Nat} (hn : n ≤ 240) (hp : p ≤ n) (hat : m c_R_at = nI p) (hsz : m c_R_length = nI n) (hk : k ≤ 20) (hV : V ≤ 12) (hvs : m c_V_size = nI V) (hb : b < 241) (hs : m c_P_size = nI b) (c s : Int32) (hc : c = sp_c (a c_A_collected) n (sp_x (a c_A_collected) n p)) (hsc : s = (if 50 ≤ c ∧ c ≤ 57 then 58 else if stI c ∧ ¬ c = 58 then c else 59)) (P : pv_R)
    (h0 : (20 ≤ k ∨ ((c = 36 ∨ c = 37) ∧ V = 12) ∨ ((50 ≤ c ∧ c ≤ 57) ∧ ¬ dlb a c k = -1)) → P (some (.int 0)) (cs (upd (upd m c_R_at (nI (sp_x (a c_A_collected) n p))) c_R_faultAt (nI (sp_x (a c_A_collected) n p))) a l w))
    (h1 : ¬ (20 ≤ k ∨ ((c = 36 ∨ c = 37) ∧ V = 12) ∨ ((50 ≤ c ∧ c ≤ 57) ∧ ¬ dlb a c k = -1)) → pv_call cq_mt (d + 3) cq_m_Reader_statementRest [.ref 3, .int (nI b), .int s, .int (nI k)] (cs (upd (upd (upd m c_R_at (nI (sp_x (a c_A_collected) n p))) c_P_size (nI (b + 1))) c_R_at (nI (if s = 59 ∨ s = 123 then sp_x (a c_A_collected) n p else sp_x (a c_A_collected) n p + 1))) (apA (arA a k (nI b) s (if 50 ≤ c ∧ c ≤ 57 then c else -1)) b s (nI (sp_x (a c_A_collected) n p)) (-1) (m c_R_there)) l w) (bq l w (fun S => P (some (.int 0)) S) (fun m' a' => pv_call cq_mt (d + 3) cq_m_Places_close [.ref 2, .int (nI b)] (cs m' a' l w) (fun o S => o = none ∧ P (some (.int 1)) S)))) : pv_call cq_mt (d + 4) cq_m_Reader_statement [.ref 3, .int (nI k)] (cs m a l w) P := by
  refine pv_call_of rfl rfl rfl (pv_run [24, 29] 60 ?_)
  refine cc_sign (d + 2) m a hn hp hat hsz _ ?_
  rw [← hc]
  generalize sp_x (a c_A_collected) n p = q at *
  have bad : (20 ≤ k ∨ ((c = 36 ∨ c = 37) ∧ V = 12) ∨ ((50 ≤ c ∧ c ≤ 57) ∧ ¬ dlb a c k = -1)) → pv_go cq_T36 1 (pv_call cq_mt (d + 3)) P (24, [(0, .ref 3), (1, .int (nI k)), (2, .int c)], [], cs (upd m c_R_at (nI q)) a l w) := by
    intro hq
    refine pv_run [] 20 ?_
    refine cc_fail (d + 2) (upd m c_R_at (nI q)) a _ ?_
    exact And.intro (Or.inl rfl) (h0 hq)
  refine And.intro (fun e => absurd e (nI_pos (by omega))) (fun _ => ?_)
  refine And.intro (fun e => ?_) (fun e => ?_)
  · have e : (20 : Int32) ≤ nI k := e
    rw [show (20 : Int32) = nI 20 from rfl, nI_leI (by omega) (by omega)] at e
    exact bad (Or.inl e)
  · have e : ¬ (20 : Int32) ≤ nI k := e
    rw [show (20 : Int32) = nI 20 from rfl, nI_leI (by omega) (by omega)] at e
    refine cc_isRefused d (upd m c_R_at (nI q)) a hk hV hvs c _ ?_
    by_cases hr : ((c = 36 ∨ c = 37) ∧ V = 12) ∨ ((50 ≤ c ∧ c ≤ 57) ∧ ¬ dlb a c k = -1)
    · rw [if_pos hr]
      exact And.intro (fun q => absurd q (by decide)) (fun _ => bad (Or.inr hr))
    · rw [if_neg hr]
      refine And.intro (fun _ => ?_) (fun q => absurd rfl q)
      exact cs_29 (d + 1) (upd m c_R_at (nI q)) a (by omega) hb hs rfl c s hsc P (h1 (fun r => r.elim e hr))
set_option maxRecDepth 100000 in
theorem cg_88 (d : Nat) (m : Nat → Int32) (a : Nat → Nat → Int32) {q V : Nat} (hat : m c_R_at = nI q) (b c1 s : Int32) (P : pv_R) (h : pv_call cq_mt d cq_m_Reader_expect [.ref 3, .int 59] (cs (upd m c_R_at (nI (q + 1))) a l w) (bq l w (fun S => P (some (.int 0)) S) (fun m' a' => P (some (.int 1)) (cs (upd m' c_R_there (m' c_R_there ||| (1 <<< (nI V &&& 31)))) a' l w)))) : pv_go cq_T40 1 (pv_call cq_mt d) P (88, [(0, .ref 3), (1, .int b), (2, .int s), (3, .int c1), (4, .int (nI V))], [], cs m a l w) := by
  refine pv_run [] 60 ?_
  show pv_call cq_mt d 34 [.ref 3, .int 59] (cs (upd m c_R_at (m 7 + 1)) a l w) _
  rw [show m 7 = nI q from hat, nI_1]
  refine pv_call_cm cq_mt d _ _ _ _ _ ?_ h
  intro o S h
  rcases h with ⟨rfl, h⟩ | ⟨rfl, m', a', rfl, h⟩
  · refine And.intro (fun _ => ?_) (fun q => absurd rfl q)
    exact And.intro (Or.inl rfl) h
  · refine And.intro (fun q => absurd q (by decide)) (fun _ => ?_)
    exact And.intro (Or.inr rfl) h
set_option maxRecDepth 100000 in
theorem cc_given (d : Nat) (m : Nat → Int32) (a : Nat → Nat → Int32) {n p b V B : Nat} (hn : n ≤ 240) (hp : p ≤ n) (hat : m c_R_at = nI p) (hsz : m c_R_length = nI n) (hV : V < 12) (hvs : m c_V_size = nI V) (hb : b < B) (hB : B ≤ 241) (hs : m c_P_size = nI B) (s : Int32) (P : pv_R)
    (h0 : ¬ ((97 ≤ sp_c (a c_A_collected) n (sp_x (a c_A_collected) n p) ∧ sp_c (a c_A_collected) n (sp_x (a c_A_collected) n p) ≤ 122) ∧ fnd a (sp_c (a c_A_collected) n (sp_x (a c_A_collected) n p)) (m c_R_there) V 0 = -1) → P (some (.int 0)) (cs (upd (upd m c_R_at (nI (sp_x (a c_A_collected) n p))) c_R_faultAt (nI (sp_x (a c_A_collected) n p))) a l w))
    (h1 : (97 ≤ sp_c (a c_A_collected) n (sp_x (a c_A_collected) n p) ∧ sp_c (a c_A_collected) n (sp_x (a c_A_collected) n p) ≤ 122) → fnd a (sp_c (a c_A_collected) n (sp_x (a c_A_collected) n p)) (m c_R_there) V 0 = -1 → pv_call cq_mt (d + 2) cq_m_Reader_expect [.ref 3, .int 59] (cs (upd (upd (upd m c_R_at (nI (sp_x (a c_A_collected) n p))) c_V_size (nI (V + 1))) c_R_at (nI (sp_x (a c_A_collected) n p + 1))) (up2 (gvC a V (sp_c (a c_A_collected) n (sp_x (a c_A_collected) n p)) (if s = 37 then 1 else 0) (nI b)) c_P_named b (nI V)) l w) (bq l w (fun S => P (some (.int 0)) S) (fun m' a' => P (some (.int 1)) (cs (upd m' c_R_there (m' c_R_there ||| (1 <<< (nI V &&& 31)))) a' l w)))) : pv_call cq_mt (d + 3) cq_m_Reader_given [.ref 3, .int (nI b), .int s] (cs m a l w) P := by
  have ib : vp_in (nI b) 241 := vp_in_nI (by omega) (by decide)
  have cb : (nI b).toNatClampNeg = b := nI_clamp (by omega)
  have nv : ¬ nI V = -1 := nI_m1 (by omega)
  refine pv_call_of rfl rfl rfl (pv_run [28, 33] 60 ?_)
  refine cc_sign (d + 1) m a hn hp hat hsz _ ?_
  generalize sp_x (a c_A_collected) n p = q at *
  generalize sp_c (a c_A_collected) n q = c at *
  have bad : ¬ ((97 ≤ c ∧ c ≤ 122) ∧ fnd a c (m c_R_there) V 0 = -1) → pv_go cq_T40 1 (pv_call cq_mt (d + 2)) P (28, [(0, .ref 3), (1, .int (nI b)), (2, .int s), (3, .int c)], [], cs (upd m c_R_at (nI q)) a l w) := by
    intro hq
    refine pv_run [] 20 ?_
    refine cc_fail (d + 1) (upd m c_R_at (nI q)) a _ ?_
    exact And.intro (Or.inl rfl) (h0 hq)
  refine cc_isName (d + 1) _ c _ ?_
  by_cases hc : 97 ≤ c ∧ c ≤ 122
  · rw [if_pos hc]
    refine And.intro (fun q => absurd q (by decide)) (fun _ => ?_)
    refine cc_find (d + 1) (upd m c_R_at (nI q)) a (by omega) hvs c (m 9) _ ?_
    refine And.intro (fun e => ?_) (fun e => bad (fun r => e r.2))
    have h1 := h1 hc e
    show pv_go cq_T40 1 (pv_call cq_mt (d + 2)) P (33, [(0, .ref 3), (1, .int (nI b)), (2, .int s), (3, .int c)], [], cs (upd m c_R_at (nI q)) a l w)
    have hat1 : (upd m c_R_at (nI q)) c_R_at = nI q := rfl
    have hvs1 : (upd m c_R_at (nI q)) c_V_size = nI V := hvs
    have hs1 : (upd m c_R_at (nI q)) c_P_size = nI B := hs
    generalize upd m c_R_at (nI q) = m1 at *
    have gv : ∀ f : Int32, f = 0 ∨ f = 1 → f = (if s = 37 then 1 else 0) → pv_go cq_T40 1 (pv_call cq_mt (d + 2)) P (49, [(0, .ref 3), (1, .int (nI b)), (2, .int s), (3, .int c)], [.int f, .int c, .ref 1], cs m1 a l w) := by
      intro f hf hf2
      rw [← hf2] at h1
      refine pv_run [53] 20 ?_
      refine cc_give d m1 a hV hvs1 c f (nI b) hf _ ?_
      generalize gvC a V c f (nI b) = a1 at *
      show pv_go cq_T40 1 (pv_call cq_mt (d + 2)) P (53, [(0, .ref 3), (1, .int (nI b)), (2, .int s), (3, .int c)], [.int (nI V)], cs (upd m1 c_V_size (nI (V + 1))) a1 l w)
      have hat2 : (upd m1 c_V_size (nI (V + 1))) c_R_at = nI q := hat1
      have hs2 : (upd m1 c_V_size (nI (V + 1))) c_P_size = nI B := hs1
      generalize upd m1 c_V_size (nI (V + 1)) = m2 at *
      refine pv_run [88] 40 ?_
      refine And.intro (fun e => absurd e nv) (fun _ => ?_)
      refine cc_has (d + 1) m2 a1 (p := b) (b := B) (by omega) (by omega) hs2 _ (fun _ => ?_) (fun e => absurd hb e)
      refine And.intro (fun e => absurd e (by decide)) (fun _ => ?_)
      refine And.intro ib ?_
      have g := cg_88 (d + 2) m2 (up2 a1 c_P_named b (nI V)) hat2 (nI b) c s P h1
      have ea : up2 a1 c_P_named b (nI V) = up2 a1 c_P_named (nI b).toNatClampNeg (nI V) := by rw [cb]
      rw [ea] at g
      exact g
    refine pv_run [49] 20 ?_
    refine And.intro (fun e => ?_) (fun e => ?_)
    · exact gv 1 (Or.inr rfl) (by rw [if_pos e])
    · exact gv 0 (Or.inl rfl) (by rw [if_neg e])
  · rw [if_neg hc]
    exact And.intro (fun _ => bad (fun r => hc r.1)) (fun q => absurd rfl q)
abbrev jL4 (b : Nat) (s : Int32) (k : Nat) (c : Int32) : pv_L := [(0, .ref 3), (1, .int (nI b)), (2, .int s), (3, .int (nI k)), (4, .int c)]
set_option maxRecDepth 100000 in
/-- a jump whose target T is found, or none (-1) -/
theorem cj_51 (d : Nat) (m : Nat → Int32) (a : Nat → Nat → Int32) {b B q : Nat} (hb : b < B) (hB : B ≤ 241) (hs : m c_P_size = nI B) (hat : m c_R_at = nI q) (s : Int32) (k : Nat) (c T : Int32) (P : pv_R)
    (h0 : T = -1 → P (some (.int 0)) (cs (upd m c_R_faultAt (nI q)) a l w))
    (h1 : ¬ T = -1 → pv_call cq_mt (d + 1) cq_m_Reader_expect [.ref 3, .int 59] (cs (upd m c_R_at (nI (if 50 ≤ c ∧ c ≤ 57 then q + 1 else q))) (up2 a c_P_target b T) l w) (bz P)) : pv_go cq_T48 1 (pv_call cq_mt (d + 1)) P (51, jL4 b s k c, [.int T], cs m a l w) := by
  have ib : vp_in (nI b) 241 := vp_in_nI (by omega) (by decide)
  have cb : (nI b).toNatClampNeg = b := nI_clamp (by omega)
  refine pv_run [75] 40 ?_
  refine And.intro (fun e => ?_) (fun e => ?_)
  · refine cc_fail d m a _ ?_
    rw [hat]
    exact And.intro (Or.inl rfl) (h0 e)
  · have h1 := h1 e
    refine cc_has d m a (p := b) (b := B) (by omega) (by omega) hs _ (fun _ => ?_) (fun e => absurd hb e)
    refine And.intro (fun e => absurd e (by decide)) (fun _ => ?_)
    show pv_go cq_T48 1 (pv_call cq_mt (d + 1)) P (75, jL4 b s k c ++ [(5, .int T)], [], cs m a l w)
    have ex : ∀ (m2 : Nat → Int32) (a2 : Nat → Nat → Int32), pv_call cq_mt (d + 1) cq_m_Reader_expect [.ref 3, .int 59] (cs m2 a2 l w) (bz P) → pv_go cq_T48 1 (pv_call cq_mt (d + 1)) P (104, jL4 b s k c ++ [(5, .int T)], [], cs m2 a2 l w) := by
      intro m2 a2 h
      refine pv_run [] 20 ?_
      refine pv_call_cm cq_mt (d + 1) _ _ _ _ _ ?_ h
      intro o S h
      rcases h with ⟨rfl, h⟩ | ⟨rfl, h⟩
      · exact And.intro (Or.inl rfl) h
      · exact And.intro (Or.inr rfl) h
    rw [← cb] at h1
    generalize hA : up2 a c_P_target (nI b).toNatClampNeg T = a2 at h1
    refine pv_run [86] 20 ?_
    refine And.intro ib ?_
    show pv_go cq_T48 1 (pv_call cq_mt (d + 1)) P (86, jL4 b s k c ++ [(5, .int T)], [], cs m (up2 a c_P_target (nI b).toNatClampNeg T) l w)
    rw [hA]
    refine pv_run [104] 40 ?_
    refine cc_isLabel d _ c _ ?_
    by_cases hl : 50 ≤ c ∧ c ≤ 57
    · rw [if_pos hl] at h1 ⊢
      refine And.intro (fun e => absurd e (by decide)) (fun _ => ?_)
      rw [← nI_1, ← show m 7 = nI q from hat] at h1
      exact ex _ a2 h1
    · rw [if_neg hl] at h1 ⊢
      refine And.intro (fun _ => ?_) (fun e => absurd rfl e)
      rw [upd_same hat] at h1
      exact ex m a2 h1
set_option maxRecDepth 100000 in
theorem cc_jump (d : Nat) (m : Nat → Int32) (a : Nat → Nat → Int32) {n p b B k : Nat} (hn : n ≤ 240) (hp : p ≤ n) (hat : m c_R_at = nI p) (hsz : m c_R_length = nI n) (hb : b < B) (hB : B ≤ 241) (hs : m c_P_size = nI B) (hk : k ≤ 20) (s c : Int32) (hc : c = sp_c (a c_A_collected) n (sp_x (a c_A_collected) n p)) (P : pv_R)
    (h0 : ¬ ((50 ≤ c ∧ c ≤ 57) ∨ c = 59) → P (some (.int 0)) (cs (upd (upd m c_R_at (nI (sp_x (a c_A_collected) n p))) c_R_faultAt (nI (sp_x (a c_A_collected) n p))) a l w))
    (h1 : (50 ≤ c ∧ c ≤ 57) → pv_call cq_mt (d + 3) cq_m_Reader_labelledTarget [.ref 3, .int c, .int s, .int (nI k)] (cs (upd m c_R_at (nI (sp_x (a c_A_collected) n p))) a l w) (fun o S => ∃ T, o = some (.int T) ∧ S = cs (upd m c_R_at (nI (sp_x (a c_A_collected) n p))) a l w ∧ pv_go cq_T48 1 (pv_call cq_mt (d + 3)) P (51, jL4 b s k c, [.int T], S)))
    (h2 : c = 59 → pv_go cq_T48 1 (pv_call cq_mt (d + 3)) P (51, jL4 b s k c, [.int (nrT a s k)], cs (upd m c_R_at (nI (sp_x (a c_A_collected) n p))) a l w)) : pv_call cq_mt (d + 4) cq_m_Reader_jump [.ref 3, .int (nI b), .int s, .int (nI k)] (cs m a l w) P := by
  refine pv_call_of rfl rfl rfl (pv_run [26] 60 ?_)
  refine cc_sign (d + 2) m a hn hp hat hsz _ ?_
  rw [← hc]
  generalize sp_x (a c_A_collected) n p = q at *
  have g : ((50 ≤ c ∧ c ≤ 57) ∨ c = 59) → pv_go cq_T48 1 (pv_call cq_mt (d + 3)) P (26, jL4 b s k c, [], cs (upd m c_R_at (nI q)) a l w) := by
    intro hq
    refine pv_run [51] 40 ?_
    refine cc_isLabel (d + 2) _ c _ ?_
    by_cases hl : 50 ≤ c ∧ c ≤ 57
    · rw [if_pos hl]
      refine And.intro (fun e => absurd e (by decide)) (fun _ => ?_)
      refine pv_call_cm cq_mt (d + 3) _ _ _ _ _ ?_ (h1 hl)
      intro o S h
      obtain ⟨T, rfl, rfl, h⟩ := h
      exact h
    · rw [if_neg hl]
      refine And.intro (fun _ => ?_) (fun e => absurd rfl e)
      refine cc_nearest (d + 1) (upd m c_R_at (nI q)) a hk s _ ?_
      exact h2 (hq.resolve_left hl)
  refine cc_isLabel (d + 2) _ c _ ?_
  by_cases hl : 50 ≤ c ∧ c ≤ 57
  · rw [if_pos hl]
    exact And.intro (fun e => absurd e (by decide)) (fun _ => g (Or.inl hl))
  · rw [if_neg hl]
    refine And.intro (fun _ => ?_) (fun e => absurd rfl e)
    refine And.intro (fun e => g (Or.inr e)) (fun e => ?_)
    refine cc_fail (d + 2) (upd m c_R_at (nI q)) a _ ?_
    exact And.intro (Or.inl rfl) (h0 (fun r => r.elim hl e))
end CI
