theorem ctV_Lo {a a' : Nat → Nat → Int32} (h : Lo a a') (N p : Nat) : ctV a' N p = ctV a N p := by
  unfold ctV
  rw [h c_P_catchFrom (by decide), fiF_Lo h, endT_Lo h]
theorem bgV_Lo {a a' : Nat → Nat → Int32} (h : Lo a a') (N p : Nat) : bgV a' N p = bgV a N p := by
  unfold bgV
  rw [h c_P_sort (by decide), h c_P_target (by decide), fiF_Lo h, endT_Lo h, chF_Lo h, chF_Lo h]
theorem lpV_Lo {a a' : Nat → Nat → Int32} (h : Lo a a') (N p q t b : Nat) : lpV a' N p q t b = lpV a N p q t b := by
  unfold lpV
  rw [h c_P_part (by decide), h c_P_sort (by decide), chF_Lo h, chF_Lo h, chF_Lo h]
theorem enV_Lo {a a' : Nat → Nat → Int32} (h : Lo a a') (N p : Nat) : enV a' N p = enV a N p := by
  unfold enV leV lpW ifV tyV exV
  rw [nxF_Lo h, h c_P_around (by decide), h c_P_sort (by decide), h c_P_part (by decide), lpV_Lo h, lpV_Lo h, lpV_Lo h, chF_Lo h, chF_Lo h, endT_Lo h]
def wRow (a : Nat → Nat → Int32) (N : Nat) : Prop := eRow a N ∧ ∀ p, p < N → tRow a p ∧ (a c_P_sort p = 66 ∨ a c_P_sort p = 67 → ∃ t, t < N ∧ a c_P_target p = nI t) ∧ (a c_P_around p = -1 ∨ ∃ q, q < N ∧ a c_P_around p = nI q)
theorem wRow_Lo {a a' : Nat → Nat → Int32} {N : Nat} (h : Lo a a') (hw : wRow a N) : wRow a' N := by
  refine ⟨eRow_Lo h hw.1, fun p hp => ?_⟩
  have := hw.2 p hp
  unfold tRow at this ⊢
  rw [h c_P_catchFrom (by decide), h c_P_finallyFrom (by decide), h c_P_sort (by decide), h c_P_target (by decide), h c_P_around (by decide)]
  exact this
/-- the ways of places below k -/
def wyOK (a a' : Nat → Nat → Int32) (N k : Nat) : Prop := Lo a a' ∧ ∀ p, p < k → (a' c_Y_beginTo p = bgV a N p ∧ a' c_Y_catchTo p = ctV a N p ∧ a' c_Y_finallyTo p = fnV a N p) ∧ (a' c_Y_trueTo p = (enV a N p).1 ∧ a' c_Y_falseTo p = (enV a N p).2)
section CW4
variable {l : Nat → Nat → Int64} {w : Int64}
def wyS (a : Nat → Nat → Int32) (N p : Nat) : Nat → Nat → Int32 := wyA (up2 (up2 (up2 a c_Y_beginTo p (bgV a N p)) c_Y_catchTo p (ctV a N p)) c_Y_finallyTo p (fnV a N p)) p (enV a N p).1 (enV a N p).2
theorem wyS_Lo (a : Nat → Nat → Int32) (N p : Nat) : Lo a (wyS a N p) := by
  unfold wyS wyA
  exact Lo_trans (Lo_trans (Lo_trans (Lo_trans (Lo_up _ _ (by decide)) (Lo_up _ _ (by decide))) (Lo_up _ _ (by decide))) (Lo_up _ _ (by decide))) (Lo_up _ _ (by decide))
theorem wyS_OK {a a' : Nat → Nat → Int32} {N p : Nat} (h : wyOK a a' N p) : wyOK a (wyS a' N p) N (p + 1) := by
  have hl := wyS_Lo a' N p
  refine ⟨Lo_trans h.1 hl, fun q hq => ?_⟩
  by_cases e : q = p
  · subst e
    unfold wyS wyA
    refine ⟨⟨?_, ?_, ?_⟩, ?_, ?_⟩
    · rw [up2_row (by decide), up2_row (by decide), up2_row (by decide), up2_row (by decide), up2_eq, bgV_Lo h.1]
    · rw [up2_row (by decide), up2_row (by decide), up2_row (by decide), up2_eq, ctV_Lo h.1]
    · rw [up2_row (by decide), up2_row (by decide), up2_eq, fnV_Lo h.1]
    · rw [up2_row (by decide), up2_eq, enV_Lo h.1]
    · rw [up2_eq, enV_Lo h.1]
  · have k := h.2 q (by omega)
    have o : ∀ j, wyS a' N p j q = a' j q := by
      intro j
      unfold wyS wyA
      rw [up2_no (fun z => e z.2), up2_no (fun z => e z.2), up2_no (fun z => e z.2), up2_no (fun z => e z.2), up2_no (fun z => e z.2)]
    rw [o, o, o, o, o]
    exact k
set_option maxRecDepth 100000 in
theorem wl_2 (d : Nat) (m : Nat → Int32) (a : Nat → Nat → Int32) {N : Nat} (hN : N ≤ 241) (hs : m c_P_size = nI N) (hw : wRow a N) (P : pv_R) (h : ∀ a', wyOK a a' N N → P none (cs m a' l w)) : ∀ (j p : Nat) (a' : Nat → Nat → Int32), p + j = N → wyOK a a' N p → pv_go cq_T80 3 (pv_call cq_mt (d + 5)) P (2, [(0, .ref 4), (1, .int (nI p))], [], cs m a' l w) := by
  intro j
  induction j with
  | zero =>
    intro p a' hp ho
    have e : p = N := by omega
    subst e
    refine pv_run [] 40 ?_
    refine And.intro (fun _ => h a' ho) (fun q => ?_)
    exfalso
    have q : ¬ m 4 ≤ nI p := q
    rw [show m 4 = nI p from hs] at q
    exact q (Int32.le_refl _)
  | succ j ih =>
    intro p a' hp ho
    have hpN : p < N := by omega
    have nlt : ¬ m 4 ≤ nI p := by
      rw [show m 4 = nI N from hs, nI_leI (by omega) (by omega)]
      omega
    have g := ih (p + 1) (wyS a' N p) (by omega) (wyS_OK ho)
    have hw1 := wRow_Lo ho.1 hw
    have l1 : Lo a' (up2 a' c_Y_beginTo p (bgV a' N p)) := Lo_up _ _ (by decide)
    have hw2 := wRow_Lo l1 hw1
    have l2 : Lo (up2 a' c_Y_beginTo p (bgV a' N p)) (up2 (up2 (up2 a' c_Y_beginTo p (bgV a' N p)) c_Y_catchTo p (ctV a' N p)) c_Y_finallyTo p (fnV a' N p)) := Lo_trans (Lo_up _ _ (by decide)) (Lo_up _ _ (by decide))
    have hw3 := wRow_Lo l2 hw2
    refine pv_run [2] 40 ?_
    refine And.intro (fun q => absurd q nlt) (fun _ => ?_)
    refine cc_linkBegin d m a' hN hpN hs hw1.1 (hw1.2 p hpN).2.1 _ ?_
    refine cc_linkTry d m _ hN hpN hs hw2.1 (hw2.2 p hpN).1 _ ?_
    rw [ctV_Lo l1, fnV_Lo l1]
    refine cc_linkEnds d m _ hN hpN (hw3.2 p hpN).2.2 hs hw3.1 _ ?_
    rw [enV_Lo l2, enV_Lo l1]
    show pv_go cq_T80 3 (pv_call cq_mt (d + 5)) P (2, [(0, .ref 4), (1, .int (nI p + 1))], [], cs m (wyS a' N p) l w)
    rw [nI_1]
    exact g
set_option maxRecDepth 100000 in
theorem cc_wlink (d : Nat) (m : Nat → Int32) (a : Nat → Nat → Int32) {N : Nat} (hN : N ≤ 241) (hs : m c_P_size = nI N) (hw : wRow a N) (P : pv_R) (h : ∀ a', wyOK a a' N N → P none (cs m a' l w)) : pv_call cq_mt (d + 6) cq_m_Ways_link [.ref 4] (cs m a l w) P := by
  refine pv_call_of rfl rfl rfl (pv_run [2] 10 ?_)
  exact wl_2 d m a hN hs hw P h N 0 a (by omega) ⟨fun _ _ => rfl, fun p hp => by omega⟩
end CW4
