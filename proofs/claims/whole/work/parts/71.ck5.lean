def clS (p : Nat) (f : Nat → Int64) : Nat → Int64 := vp_updL (vp_updL (vp_updL (vp_updL f p 0) (241 + p) 0) (482 + p) 0) (723 + p) 0
def clZ : Nat → Nat → (Nat → Int64) → Nat → Int64
  | 0, _, f => f
  | j + 1, p, f => clZ j (p + 1) (clS p f)
def wkL (step : GF → GF) : Nat → GF → GF
  | 0, G => G
  | k + 1, G => if G.1 = 0 then G else wkL step k (step (0, G.2))
def wkF (a : Nat → Nat → Int32) (N : Nat) (root : Int32) (fm : Nat → Int64) (fr to : Nat) (s : Int64) (f : Nat → Int64) : GF := wkL (swF a N root fm fr (to - fr) fr) 61760 (flw (if to ≤ fr then 964 else nI fr) s (0, vp_updL (clZ (to - fr) fr f) 964 0))
section CK5
variable {m : Nat → Int32} {a : Nat → Nat → Int32} {l : Nat → Nat → Int64} {w : Int64}
theorem in_964 : vp_in (964 : Int32) 965 ∧ (964 : Int32).toNatClampNeg = 964 := ⟨vp_in_nI (n := 964) (by omega) (by decide), nI_clamp (n := 964) (by omega)⟩
theorem W_grown (G : GF) (g : Int32) : upd (upd m c_W_hasGrown G.1) c_W_hasGrown g = upd m c_W_hasGrown g := upd_upd _ _ _ _
abbrev wkQ (fr to : Nat) (s : Int64) : pv_L := [(0, .ref 5), (1, .int (nI fr)), (2, .int (nI to)), (3, .long s)]
set_option maxRecDepth 100000 in
theorem wk_140 (d : Nat) (fr to : Nat) (s : Int64) (x : Int32) (G : GF) (P : pv_R) (h : P (some (.long (G.2 964))) (WS m a l w G)) : pv_go cq_T72 2 (pv_call cq_mt d) P (140, wkQ fr to s ++ [(5, .int x)], [], WS m a l w G) := by
  refine pv_run [] 20 ?_
  refine And.intro in_964.1 ?_
  have h2 : P (some (.long (lst l G.2 0 (964 : Int32).toNatClampNeg))) (WS m a l w G) := by rw [in_964.2]; exact h
  exact h2
set_option maxRecDepth 100000 in
theorem wk_109 (d : Nat) {N fr to : Nat} (hN : N ≤ 241) (hft : fr ≤ to) (hto : to ≤ N) (hs : m c_P_size = nI N) (hA : aRow a N) (hO : oRow a N) (s : Int64) (P : pv_R) : ∀ (j k : Nat) (G : GF), k + j = 61760 → P (some (.long ((wkL (swF a N (m c_W_root) (l 1) fr (to - fr) fr) j G).2 964))) (WS m a l w (wkL (swF a N (m c_W_root) (l 1) fr (to - fr) fr) j G)) → pv_go cq_T72 2 (pv_call cq_mt (d + 5)) P (109, wkQ fr to s ++ [(5, .int (nI k))], [], WS m a l w G) := by
  intro j
  induction j with
  | zero =>
    intro k G hk h
    have e : k = 61760 := by omega
    subst e
    have g := wk_140 (m := m) (a := a) (l := l) (w := w) (d + 5) fr to s (nI 61760) G P h
    refine pv_run [140] 20 ?_
    exact And.intro (fun _ => g) (fun z => absurd (show (61760 : Int32) ≤ nI 61760 from Int32.le_refl _) z)
  | succ j ih =>
    intro k G hk h
    have nk : ¬ (61760 : Int32) ≤ nI k := by
      rw [show (61760 : Int32) = nI 61760 from rfl, nI_leI (by omega) (by omega)]
      omega
    have e0 : wkL (swF a N (m c_W_root) (l 1) fr (to - fr) fr) (j + 1) G = if G.1 = 0 then G else wkL (swF a N (m c_W_root) (l 1) fr (to - fr) fr) j (swF a N (m c_W_root) (l 1) fr (to - fr) fr (0, G.2)) := rfl
    rw [e0] at h
    refine pv_run [140, 109] 40 ?_
    refine And.intro (fun z => absurd z nk) (fun _ => ?_)
    refine And.intro (fun z => ?_) (fun z => ?_)
    · have z : G.1 = 0 := z
      rw [if_pos z] at h
      exact wk_140 (d + 5) fr to s (nI k) G P h
    · have z : ¬ G.1 = 0 := z
      rw [if_neg z] at h
      refine And.intro (Or.inl rfl) ?_
      have g : pv_call cq_mt (d + 5) cq_m_Walks_sweep [.ref 5, .int (nI fr), .int (nI to)] (cs (upd (upd m c_W_hasGrown G.1) c_W_hasGrown 0) a (lst l G.2) w) (fun o S => o = none ∧ S = WS m a l w (swF a N (m c_W_root) (l 1) fr (to - fr) fr (0, G.2))) := by
        rw [W_grown G 0]
        exact cc_sweep d hN hft hto hs hA hO (0, G.2) _ ⟨rfl, rfl⟩
      refine pv_call_cm _ _ _ _ _ _ _ ?_ g
      rintro o S ⟨rfl, rfl⟩
      show pv_go cq_T72 2 (pv_call cq_mt (d + 5)) P (109, wkQ fr to s ++ [(5, .int (nI k + 1))], [], WS m a l w (swF a N (m c_W_root) (l 1) fr (to - fr) fr (0, G.2)))
      rw [nI_1]
      exact ih (k + 1) _ (by omega) h
set_option maxRecDepth 100000 in
theorem wk_73 (d : Nat) {N fr to : Nat} (hN : N ≤ 241) (hft : fr ≤ to) (hto : to ≤ N) (hs : m c_P_size = nI N) (hA : aRow a N) (hO : oRow a N) (s : Int64) (x : Int32) (G : GF) (P : pv_R) (h : P (some (.long ((wkL (swF a N (m c_W_root) (l 1) fr (to - fr) fr) 61760 (flw (if to ≤ fr then 964 else nI fr) s (0, vp_updL G.2 964 0))).2 964))) (WS m a l w (wkL (swF a N (m c_W_root) (l 1) fr (to - fr) fr) 61760 (flw (if to ≤ fr then 964 else nI fr) s (0, vp_updL G.2 964 0))))) : pv_go cq_T72 2 (pv_call cq_mt (d + 5)) P (73, wkQ fr to s ++ [(5, .int x)], [], WS m a l w G) := by
  have g := wk_109 (m := m) (a := a) (l := l) (w := w) d hN hft hto hs hA hO s P 61760 0 _ (by omega) h
  have gf : ∀ y : Int32, y = (if to ≤ fr then 964 else nI fr) → pv_call cq_mt (d + 5) cq_m_Walks_flow [.ref 5, .int y, .long s] (cs (upd (upd m c_W_hasGrown G.1) c_W_hasGrown 0) a (lst l (vp_updL (lst l G.2 0) (964 : Int32).toNatClampNeg 0)) w) (fun o S => o = none ∧ S = WS m a l w (flw (if to ≤ fr then 964 else nI fr) s (0, vp_updL G.2 964 0))) := by
    intro y hy
    rw [W_grown G 0, in_964.2, hy]
    exact cc_flow (d + 4) (0, vp_updL G.2 964 0) (if to ≤ fr then 964 else nI fr) s _ ⟨rfl, rfl⟩
  refine pv_run [109] 60 ?_
  refine And.intro in_964.1 ?_
  refine And.intro (Or.inl rfl) ?_
  refine And.intro (fun z => ?_) (fun z => ?_)
  · have z : nI to ≤ nI fr := z
    rw [nI_leI (by omega) (by omega)] at z
    refine pv_call_cm _ _ _ _ _ _ _ ?_ (gf 964 (by rw [if_pos z]))
    rintro o S ⟨rfl, rfl⟩
    exact g
  · have z : ¬ nI to ≤ nI fr := z
    rw [nI_leI (by omega) (by omega)] at z
    refine pv_call_cm _ _ _ _ _ _ _ ?_ (gf (0 + nI fr) (by rw [if_neg z, p0_]))
    rintro o S ⟨rfl, rfl⟩
    exact g
set_option maxRecDepth 100000 in
theorem wk_3 (d : Nat) {N fr to : Nat} (hN : N ≤ 241) (hft : fr ≤ to) (hto : to ≤ N) (hs : m c_P_size = nI N) (hA : aRow a N) (hO : oRow a N) (s : Int64) (g : Int32) (P : pv_R) (f0 : Nat → Int64) (h : P (some (.long ((wkF a N (m c_W_root) (l 1) fr to s f0).2 964))) (WS m a l w (wkF a N (m c_W_root) (l 1) fr to s f0))) : ∀ (j p : Nat) (f : Nat → Int64), p + j = to → clZ j p f = clZ (to - fr) fr f0 → pv_go cq_T72 2 (pv_call cq_mt (d + 5)) P (3, wkQ fr to s ++ [(5, .int (nI p))], [], WS m a l w (g, f)) := by
  intro j
  induction j with
  | zero =>
    intro p f hp hf
    have e : p = to := by omega
    subst e
    have hf : f = clZ (p - fr) fr f0 := hf
    have g73 := wk_73 (m := m) (a := a) (l := l) (w := w) d hN hft hto hs hA hO s (nI p) (g, f) P (by
      show P (some (.long ((wkL (swF a N (m c_W_root) (l 1) fr (p - fr) fr) 61760 (flw (if p ≤ fr then 964 else nI fr) s (0, vp_updL f 964 0))).2 964))) (WS m a l w (wkL (swF a N (m c_W_root) (l 1) fr (p - fr) fr) 61760 (flw (if p ≤ fr then 964 else nI fr) s (0, vp_updL f 964 0))))
      rw [hf]; exact h)
    refine pv_run [73] 20 ?_
    exact And.intro (fun _ => g73) (fun z => absurd (Int32.le_refl _) z)
  | succ j ih =>
    intro p f hp hf
    have hpN : p < N := by omega
    have nle : ¬ nI to ≤ nI p := by rw [nI_leI (by omega) (by omega)]; omega
    have j0 := in_0 (p := p) (by omega)
    have jT := in_T (p := p) (by omega)
    have jF := in_F (p := p) (by omega)
    have jN := in_N (p := p) (by omega)
    have gg := ih (p + 1) (clS p f) (by omega) hf
    refine pv_run [73, 3] 60 ?_
    refine And.intro (fun z => absurd z nle) (fun _ => ?_)
    refine cc_has (d + 4) (upd m c_W_hasGrown g) a (p := p) (b := N) (by omega) (by omega) hs _ (fun _ => ?_) (fun y => absurd hpN y)
    refine And.intro (fun y => absurd y (by decide)) (fun _ => ?_)
    refine And.intro j0.1 ?_
    refine And.intro jT.1 ?_
    refine And.intro jF.1 ?_
    refine And.intro jN.1 ?_
    show pv_go cq_T72 2 (pv_call cq_mt (d + 5)) P (3, wkQ fr to s ++ [(5, .int (nI p + 1))], [], WS m a l w (g, vp_updL (vp_updL (vp_updL (vp_updL f ((0 : Int32) + nI p).toNatClampNeg 0) ((241 : Int32) + nI p).toNatClampNeg 0) ((482 : Int32) + nI p).toNatClampNeg 0) ((723 : Int32) + nI p).toNatClampNeg 0))
    rw [nI_1, j0.2, jT.2, jF.2, jN.2]
    exact gg
set_option maxRecDepth 100000 in
theorem cc_walk (d : Nat) {N fr to : Nat} (hN : N ≤ 241) (hft : fr ≤ to) (hto : to ≤ N) (hs : m c_P_size = nI N) (hA : aRow a N) (hO : oRow a N) (s : Int64) (G : GF) (P : pv_R) (h : P (some (.long ((wkF a N (m c_W_root) (l 1) fr to s G.2).2 964))) (WS m a l w (wkF a N (m c_W_root) (l 1) fr to s G.2))) : pv_call cq_mt (d + 6) cq_m_Walks_walk [.ref 5, .int (nI fr), .int (nI to), .long s] (WS m a l w G) P := by
  refine pv_call_of rfl rfl rfl (pv_run [3] 10 ?_)
  exact wk_3 d hN hft hto hs hA hO s G.1 P G.2 h (to - fr) fr G.2 (by omega) rfl
end CK5
/-- the store of the walks: root, what N's make, points -/
abbrev WU (m : Nat → Int32) (a : Nat → Nat → Int32) (w : Int64) (root : Int32) (fm : Nat → Int64) (G : GF) : pv_S := WS (upd m c_W_root root) a (fun _ => fm) w G
def wuL (a : Nat → Nat → Int32) (N : Nat) : Nat → (Nat → Int64) → GF → (Nat → Int64) × GF
  | 0, fm, G => (fm, G)
  | t + 1, fm, G => if a c_P_finallyFrom t = -1 then wuL a N t fm G else wuL a N t (vp_updL fm t ((wkF a N (nI t) fm (dN (a c_P_finallyFrom t)) (dN (a c_P_end t)) 2305561534236991487 G.2).2 964)) (wkF a N (nI t) fm (dN (a c_P_finallyFrom t)) (dN (a c_P_end t)) 2305561534236991487 G.2)
def ffRow (a : Nat → Nat → Int32) (N : Nat) : Prop := ∀ t, t < N → a c_P_finallyFrom t = -1 ∨ ∃ x e, (a c_P_finallyFrom t = nI x ∧ a c_P_end t = nI e) ∧ x ≤ e ∧ e ≤ N
section CK6
variable {m : Nat → Int32} {a : Nat → Nat → Int32} {w : Int64}
theorem W_root (root r : Int32) (g : Int32) : upd (upd (upd m c_W_root root) c_W_hasGrown g) c_W_root r = upd (upd m c_W_root r) c_W_hasGrown g := by
  funext j
  unfold upd
  by_cases h1 : j = c_W_root
  · rw [if_pos h1, if_pos h1, if_neg (by rw [h1]; decide)]
  · rw [if_neg h1, if_neg h1, if_neg h1]
set_option maxRecDepth 100000 in
theorem wu_10 (d : Nat) {N : Nat} (hN : N ≤ 241) (hs : m c_P_size = nI N) (hA : aRow a N) (hO : oRow a N) (hF : ffRow a N) (P : pv_R) : ∀ (t : Nat) (root : Int32) (fm : Nat → Int64) (G : GF), t ≤ N →
    (∀ root', pv_go cq_T71 3 (pv_call cq_mt (d + 6)) P (67, [(0, .ref 5), (1, .int (oI 0))], [], WU m a w root' (wuL a N t fm G).1 (wuL a N t fm G).2)) → pv_go cq_T71 3 (pv_call cq_mt (d + 6)) P (10, [(0, .ref 5), (1, .int (oI t))], [], WU m a w root fm G) := by
  intro t
  induction t with
  | zero =>
    intro root fm G _ h
    refine pv_run [67] 20 ?_
    exact And.intro (fun _ => h root) (fun z => absurd (show oI 0 < 0 by decide) z)
  | succ t ih =>
    intro root fm G ht h
    have htN : t < N := by omega
    have i1 : vp_in (nI t) 241 := vp_in_nI (by omega) (by decide)
    have c1 : (nI t).toNatClampNeg = t := nI_clamp (by omega)
    have dec : nI t + -1 = oI t := by
      cases t with
      | zero => rfl
      | succ q => rw [oI_s, ← Int32.sub_eq_add_neg]; exact nI_pred q
    have e0 : wuL a N (t + 1) fm G = if a c_P_finallyFrom t = -1 then wuL a N t fm G else wuL a N t (vp_updL fm t ((wkF a N (nI t) fm (dN (a c_P_finallyFrom t)) (dN (a c_P_end t)) 2305561534236991487 G.2).2 964)) (wkF a N (nI t) fm (dN (a c_P_finallyFrom t)) (dN (a c_P_end t)) 2305561534236991487 G.2) := rfl
    rw [e0] at h
    rw [oI_s t]
    refine pv_run [67, 10] 60 ?_
    refine And.intro (fun z => absurd z (nI_pos (by omega))) (fun _ => ?_)
    refine cc_hasFinally (d + 4) (upd (upd m c_W_root root) c_W_hasGrown G.1) a htN hN hs _ (fun q => ?_) (fun q => ?_)
    · rw [if_neg q] at h
      obtain ⟨x, e, ⟨hx, he⟩, hxe, heN⟩ := (hF t htN).resolve_left q
      rw [hx, he, show dN (nI x) = x from nI_clamp (by omega), show dN (nI e) = e from nI_clamp (by omega)] at h
      refine And.intro (fun z => absurd z (by decide)) (fun _ => ?_)
      refine And.intro i1 ?_
      refine And.intro i1 ?_
      have g : pv_call cq_mt (d + 6) cq_m_Walks_walk [.ref 5, .int (nI x), .int (nI e), .long 2305561534236991487] (cs (upd (upd (upd m c_W_root root) c_W_hasGrown G.1) c_W_root (nI t)) a (lst (fun _ => fm) G.2) w) (fun o S => o = some (.long ((wkF a N (nI t) fm x e 2305561534236991487 G.2).2 964)) ∧ S = WU m a w (nI t) fm (wkF a N (nI t) fm x e 2305561534236991487 G.2)) := by
        rw [W_root]
        exact cc_walk (m := upd m c_W_root (nI t)) (a := a) (l := fun _ => fm) (w := w) d hN hxe heN hs hA hO 2305561534236991487 G _ ⟨rfl, rfl⟩
      have g : pv_call cq_mt (d + 6) cq_m_Walks_walk [.ref 5, .int (a c_P_finallyFrom (nI t).toNatClampNeg), .int (a c_P_end (nI t).toNatClampNeg), .long 2305561534236991487] (cs (upd (upd (upd m c_W_root root) c_W_hasGrown G.1) c_W_root (nI t)) a (lst (fun _ => fm) G.2) w) (fun o S => o = some (.long ((wkF a N (nI t) fm x e 2305561534236991487 G.2).2 964)) ∧ S = WU m a w (nI t) fm (wkF a N (nI t) fm x e 2305561534236991487 G.2)) := by
        rw [c1, hx, he]; exact g
      refine pv_call_cm _ _ _ _ _ _ _ ?_ g
      rintro o S ⟨rfl, rfl⟩
      refine And.intro i1 ?_
      show pv_go cq_T71 3 (pv_call cq_mt (d + 6)) P (10, [(0, .ref 5), (1, .int (nI t + -1))], [], WU m a w (nI t) (vp_updL fm (nI t).toNatClampNeg ((wkF a N (nI t) fm x e 2305561534236991487 G.2).2 964)) (wkF a N (nI t) fm x e 2305561534236991487 G.2))
      rw [c1, dec]
      exact ih (nI t) _ _ (by omega) h
    · rw [if_pos q] at h
      refine And.intro (fun _ => ?_) (fun z => absurd rfl z)
      show pv_go cq_T71 3 (pv_call cq_mt (d + 6)) P (10, [(0, .ref 5), (1, .int (nI t + -1))], [], WU m a w root fm G)
      rw [dec]
      exact ih root fm G (by omega) h
set_option maxRecDepth 100000 in
theorem wu_67 (d : Nat) {N : Nat} (hN : N ≤ 241) (hs : m c_P_size = nI N) (hA : aRow a N) (hO : oRow a N) (root : Int32) (fm : Nat → Int64) (G : GF) (P : pv_R) (h : P none (WU m a ((wkF a N (-1) fm 0 N 8191 G.2).2 964) (-1) fm (wkF a N (-1) fm 0 N 8191 G.2))) : pv_go cq_T71 3 (pv_call cq_mt (d + 6)) P (67, [(0, .ref 5), (1, .int (oI 0))], [], WU m a w root fm G) := by
  refine pv_run [] 40 ?_
  have g : pv_call cq_mt (d + 6) cq_m_Walks_walk [.ref 5, .int (nI 0), .int (nI N), .long 8191] (cs (upd (upd (upd m c_W_root root) c_W_hasGrown G.1) c_W_root (-1)) a (lst (fun _ => fm) G.2) w) (fun o S => o = some (.long ((wkF a N (-1) fm 0 N 8191 G.2).2 964)) ∧ S = WU m a w (-1) fm (wkF a N (-1) fm 0 N 8191 G.2)) := by
    rw [W_root]
    exact cc_walk (m := upd m c_W_root (-1)) (a := a) (l := fun _ => fm) (w := w) d hN (Nat.zero_le _) (Nat.le_refl _) hs hA hO 8191 G _ ⟨rfl, rfl⟩
  have g : pv_call cq_mt (d + 6) cq_m_Walks_walk [.ref 5, .int 0, .int (m c_P_size), .long 8191] (cs (upd (upd (upd m c_W_root root) c_W_hasGrown G.1) c_W_root (-1)) a (lst (fun _ => fm) G.2) w) (fun o S => o = some (.long ((wkF a N (-1) fm 0 N 8191 G.2).2 964)) ∧ S = WU m a w (-1) fm (wkF a N (-1) fm 0 N 8191 G.2)) := by
    rw [hs]; exact g
  refine pv_call_cm _ _ _ _ _ _ _ ?_ g
  rintro o S ⟨rfl, rfl⟩
  exact h
set_option maxRecDepth 100000 in
theorem cc_walkUnit (d : Nat) {N : Nat} (hN : N ≤ 241) (hs : m c_P_size = nI N) (hA : aRow a N) (hO : oRow a N) (hF : ffRow a N) (root : Int32) (fm : Nat → Int64) (G : GF) (P : pv_R) (h : P none (WU m a ((wkF a N (-1) (wuL a N N fm G).1 0 N 8191 (wuL a N N fm G).2.2).2 964) (-1) (wuL a N N fm G).1 (wkF a N (-1) (wuL a N N fm G).1 0 N 8191 (wuL a N N fm G).2.2))) : pv_call cq_mt (d + 7) cq_m_Walks_walkUnit [.ref 5] (WU m a w root fm G) P := by
  have g := wu_10 (m := m) (a := a) (w := w) d hN hs hA hO hF P N root fm G (Nat.le_refl _) (fun root' => wu_67 d hN hs hA hO root' _ _ P h)
  have dec : m c_P_size - 1 = oI N := by
    rw [hs]
    cases N with
    | zero => rfl
    | succ q => rw [oI_s]; exact nI_pred q
  refine pv_call_of rfl rfl rfl (pv_run [10] 20 ?_)
  show pv_go cq_T71 3 (pv_call cq_mt (d + 6)) P (10, [(0, .ref 5), (1, .int (m c_P_size - 1))], [], WU m a w root fm G)
  rw [dec]
  exact g
end CK6
