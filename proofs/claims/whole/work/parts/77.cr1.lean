/-! the class's read -/
theorem upd_id {m : Nat → Int32} {k : Nat} {x : Int32} (h : m k = x) : upd m k x = m := by
  funext j
  unfold upd
  by_cases e : j = k
  · rw [if_pos e, e, h]
  · rw [if_neg e]
/-- what read makes behind the reader: rows of link, ways, walks, judge -/
def rdR (m : Nat → Int32) (a : Nat → Nat → Int32) (l : Nat → Nat → Int64) (t : Std.Format) (V : Nat) (m' : Nat → Int32) (a' : Nat → Nat → Int32) (l' : Nat → Nat → Int64) (w' : Int64) : Prop :=
  ∃ (a2 a3 : Nat → Nat → Int32) (fm : Nat → Int64) (K : GF) (sz : Int32), ((FL a a2 0 ∧ LkS a2 t 0 0 0 0 0 false) ∧ wyOK a2 a3 (sp_z t) (sp_z t)) ∧
    ((fm = (wuL a3 (sp_z t) (sp_z t) (l 1) (m c_W_hasGrown, l 0)).1 ∧ K = wkF a3 (sp_z t) (-1) fm 0 (sp_z t) 8191 (wuL a3 (sp_z t) (sp_z t) (l 1) (m c_W_hasGrown, l 0)).2.2) ∧ (l' 0 = K.2 ∧ l' 1 = fm ∧ w' = K.2 964)) ∧
    (m' = upd (upd (upd m c_W_root (-1)) c_W_hasGrown K.1) c_J_size sz ∧ jdO a3 (sp_z t) V K.2 (sp_z t) sz a')
section CR1
variable {m : Nat → Int32} {a : Nat → Nat → Int32} {l : Nat → Nat → Int64} {w : Int64}
set_option maxRecDepth 100000 in
theorem rd_54 (d : Nat) {V : Nat} {t : Std.Format} (ht : fT V t) (hE : EdS a t 0) (hN : sp_z t ≤ 241) (hV : V ≤ 12) (hs : m c_P_size = nI (sp_z t)) (hvs : m c_V_size = nI V) (hpl : ∀ i, i < sp_z t → plR a (sp_z t) i) (g : Int32) (P : pv_R) (h : ∀ m' a' l' w', rdR m a l t V m' a' l' w' → P (some (.int (if g = 0 then -4 else nI (sp_z t)))) (cs m' a' l' w')) : pv_go cq_T2 0 (pv_call cq_mt (d + 7)) P (54, [(0, .ref 0), (1, .int g)], [], cs m a l w) := by
  have fin : ∀ m' a' l' w', m' c_P_size = nI (sp_z t) → rdR m a l t V m' a' l' w' → pv_go cq_T2 0 (pv_call cq_mt (d + 7)) P (82, [(0, .ref 0), (1, .int g)], [], cs m' a' l' w') := by
    intro m' a' l' w' hs' hr
    have h := h m' a' l' w' hr
    refine pv_run [] 20 ?_
    refine And.intro (fun q => ?_) (fun q => ?_)
    · have q : g = 0 := q
      rw [if_pos q] at h
      exact h
    · have q : ¬ g = 0 := q
      rw [if_neg q, ← hs'] at h
      exact h
  refine pv_run [82] 40 ?_
  refine cc_link_ok (d + 3) m a ht hE hN hs _ (fun a2 g1 g2 => ?_)
  have hlk : ∀ i, i < sp_z t → lkR a2 (sp_z t) i := fun i hi => lkR_all ht 0 0 0 0 0 false (by omega) (by omega) (by omega) g2 i (Nat.zero_le _) (by omega)
  have hpl2 : ∀ i, i < sp_z t → plR a2 (sp_z t) i := fun i hi => plR_row (fun j hj => congrFun (FL_oth g1 (j := j) (by omega)) i) (hpl i hi)
  have rows2 := rows_all hN hpl2 hlk
  refine cc_wlink (d + 1) m a2 hN hs rows2.1.1 _ (fun a3 g3 => ?_)
  have hLo := g3.1
  have rows3 := rows_all hN (fun i hi => plR_row (a' := a3) (fun j hj => by rw [hLo j (by omega)]) (hpl2 i hi)) (fun i hi => lkR_row (a' := a3) (fun j hj => by rw [hLo j (by omega)]) (hlk i hi))
  have e1 : upd (upd m c_W_root (m c_W_root)) c_W_hasGrown (m c_W_hasGrown) = m := by rw [upd_id (rfl : m c_W_root = m c_W_root)]; exact upd_id rfl
  have wu := cc_walkUnit (m := m) (a := a3) (w := w) d hN hs rows3.1.2 rows3.2.1.1 rows3.2.1.2 (m c_W_root) (l 1) (m c_W_hasGrown, l 0)
    (fun o S => o = none ∧ S = WU m a3 ((wkF a3 (sp_z t) (-1) (wuL a3 (sp_z t) (sp_z t) (l 1) (m c_W_hasGrown, l 0)).1 0 (sp_z t) 8191 (wuL a3 (sp_z t) (sp_z t) (l 1) (m c_W_hasGrown, l 0)).2.2).2 964) (-1) (wuL a3 (sp_z t) (sp_z t) (l 1) (m c_W_hasGrown, l 0)).1 (wkF a3 (sp_z t) (-1) (wuL a3 (sp_z t) (sp_z t) (l 1) (m c_W_hasGrown, l 0)).1 0 (sp_z t) 8191 (wuL a3 (sp_z t) (sp_z t) (l 1) (m c_W_hasGrown, l 0)).2.2)) ⟨rfl, rfl⟩
  have wu : pv_call cq_mt (d + 7) cq_m_Walks_walkUnit [.ref 5] (cs m a3 l w) (fun o S => o = none ∧ S = WU m a3 ((wkF a3 (sp_z t) (-1) (wuL a3 (sp_z t) (sp_z t) (l 1) (m c_W_hasGrown, l 0)).1 0 (sp_z t) 8191 (wuL a3 (sp_z t) (sp_z t) (l 1) (m c_W_hasGrown, l 0)).2.2).2 964) (-1) (wuL a3 (sp_z t) (sp_z t) (l 1) (m c_W_hasGrown, l 0)).1 (wkF a3 (sp_z t) (-1) (wuL a3 (sp_z t) (sp_z t) (l 1) (m c_W_hasGrown, l 0)).1 0 (sp_z t) 8191 (wuL a3 (sp_z t) (sp_z t) (l 1) (m c_W_hasGrown, l 0)).2.2)) := by
    have e2 : cs m a3 l w = WU m a3 w (m c_W_root) (l 1) (m c_W_hasGrown, l 0) := by
      show cs m a3 (lst (fun _ => l 1) (l 0)) w = cs (upd (upd m c_W_root (m c_W_root)) c_W_hasGrown (m c_W_hasGrown)) a3 (lst (fun _ => l 1) (l 0)) w
      rw [e1]
    rw [e2]; exact wu
  generalize hfm : (wuL a3 (sp_z t) (sp_z t) (l 1) (m c_W_hasGrown, l 0)).1 = fm at wu
  generalize hK : wkF a3 (sp_z t) (-1) fm 0 (sp_z t) 8191 (wuL a3 (sp_z t) (sp_z t) (l 1) (m c_W_hasGrown, l 0)).2.2 = K at wu
  refine pv_call_cm _ _ _ _ _ _ _ ?_ wu
  rintro o S ⟨rfl, rfl⟩
  refine cc_judgeAll (m := upd (upd m c_W_root (-1)) c_W_hasGrown K.1) (a := a3) (l := lst (fun _ => fm) K.2) (w := K.2 964) (d + 2) hN hs rows3.1.1.1 hV hvs rows3.2.2 _ (fun sz a' hj => ?_)
  exact fin _ a' _ _ hs ⟨a2, a3, fm, K, sz, ⟨⟨g1, g2⟩, g3⟩, ⟨⟨hfm.symm, hK.symm⟩, rfl, rfl, rfl⟩, rfl, hj⟩
end CR1
