/-- a unit read without a fault -/
def uOK (tx : Nat → Int32) (n q V : Nat) (sc : sc_T) (t : Std.Format) : Prop := st tx n 500 3 [] 0 (sp_x tx n 0) 0 [] 0 = .inr (q, V, sc, t)
theorem uOK_shape {tx : Nat → Int32} {n q V : Nat} {sc : sc_T} {t : Std.Format} (hn : n ≤ 240) (h : uOK tx n q V sc t) : ((sW V 1 [] t 0 ∧ fT V t) ∧ FO t (sp_x tx n 0) q) ∧ (sp_z t ≤ n ∧ V ≤ 12 ∧ q ≤ n) := by
  have hx := sp_x_le (tx := tx) (n := n) (p := 0) (Nat.zero_le _)
  have hxx := sp_x_x (tx := tx) (n := n) (p := 0) (Nat.zero_le _)
  have hG := st_good (tx := tx) (n := n) 500 3 [] 0 (sp_x tx n 0) 0 [] 0 q V sc t (by omega) hx.2 hxx h
  have hW := (st_W (tx := tx) (n := n) (W := V) hn 500 3 [] 0 (sp_x tx n 0) 0 [] 0 q V sc t (by omega) hx.2 hxx (by omega) trivial (fun e he => absurd he List.not_mem_nil) ⟨Nat.le_refl _, by omega⟩ h).1
  have hs : sW V 1 [] t 0 := hW.1
  exact ⟨⟨⟨hs, sW_fT _ t (Nat.lt_succ_self _) 1 [] 0 (by omega) hs⟩, hW.2⟩, by have := hG.1.1; omega, (hG.2.2 trivial (by omega)).2, hG.1.1.2⟩
section CR2
variable {m : Nat → Int32} {a : Nat → Nat → Int32} {l : Nat → Nat → Int64} {w : Int64}
/-- the numbers when a fault was found -/
def fltM (m : Nat → Int32) : Nat → Int32 := upd (upd (upd (upd (upd m c_A_collectedSize 0) c_A_faultAt (m c_R_faultAt)) c_P_size 0) c_P_thereAtEnd 0) c_V_size 0
def okM (m : Nat → Int32) : Nat → Int32 := upd (upd m c_A_collectedSize 0) c_A_faultAt (-1)
set_option maxRecDepth 100000 in
theorem rd_ok (d : Nat) (P : pv_R) (h : pv_go cq_T2 0 (pv_call cq_mt d) P (54, [(0, .ref 0), (1, .int 1)], [], cs (okM m) a l w)) : pv_go cq_T2 0 (pv_call cq_mt d) P (12, [(0, .ref 0), (1, .int 1)], [], cs m a l w) := by
  refine pv_run [54] 40 ?_
  refine And.intro (fun q => absurd q (by decide)) (fun _ => ?_)
  refine And.intro (fun q => absurd q (by decide)) (fun _ => ?_)
  exact h
set_option maxRecDepth 100000 in
theorem rd_flt (d : Nat) (P : pv_R) (h : pv_go cq_T2 0 (pv_call cq_mt (d + 1)) P (54, [(0, .ref 0), (1, .int 0)], [], cs (fltM m) a l w)) : pv_go cq_T2 0 (pv_call cq_mt (d + 1)) P (12, [(0, .ref 0), (1, .int 0)], [], cs m a l w) := by
  refine pv_run [54] 40 ?_
  refine And.intro (fun _ => ?_) (fun q => absurd rfl q)
  refine And.intro (fun _ => ?_) (fun q => absurd rfl q)
  refine cc_pclear d (upd (upd m c_A_collectedSize 0) c_A_faultAt (m c_R_faultAt)) a _ ?_
  refine cc_vclear d (upd (upd (upd (upd m c_A_collectedSize 0) c_A_faultAt (m c_R_faultAt)) c_P_size 0) c_P_thereAtEnd 0) a _ ?_
  exact h
set_option maxRecDepth 100000 in
theorem cc_read (d : Nat) {n : Nat} (hn : n ≤ 240) (hs : m c_A_collectedSize = nI n) (P : pv_R)
    (h0 : ∀ q, st (a c_A_collected) n 500 3 [] 0 (sp_x (a c_A_collected) n 0) 0 [] 0 = .inl q → ∀ m1 a1, Cms (cm0 m n) m1 → m1 c_R_faultAt = nI q → Cg a a1 → ∀ m' a' l' w', rdR (fltM m1) a1 l .nil 0 m' a' l' w' → P (some (.int (-4))) (cs m' a' l' w'))
    (h1 : ∀ q V sc t, uOK (a c_A_collected) n q V sc t → ∀ m1 a1, Cms (cm0 m n) m1 → cSt (a c_A_collected) n m1 a1 [] (sp_z t) q V sc → m1 c_P_thereAtEnd = thOf sc → Cg a a1 → PrS a1 V t 0 [] → cnR (a c_V_uses) (a c_V_assigns) 0 a1 V t → ∀ m' a' l' w', rdR (okM m1) a1 l t V m' a' l' w' → P (some (.int (nI (sp_z t)))) (cs m' a' l' w')) : pv_call cq_mt (d + 253) cq_m_A_read [.ref 0] (cs m a l w) P := by
  refine pv_call_of rfl rfl rfl (pv_run [12] 20 ?_)
  have g : pv_call cq_mt (d + 252) cq_m_Reader_readUnit [.ref 3, .int (nI n)] (cs m a l w) (fun o S => ∃ r, o = some (.int r) ∧ (r = 0 ∨ r = 1) ∧ pv_go cq_T2 0 (pv_call cq_mt (d + 252)) P (12, [(0, .ref 0), (1, .int r)], [], S)) := by
    refine cc_readUnit_ok (l := l) (w := w) d m a hn _ (fun q hq => ?_) (fun q V sc t hq m1 a1 g1 g2 g3 g4 g5 g6 => ?_)
    · intro m1 a1 B g1 g2 g3 g4
      refine ⟨0, rfl, Or.inl rfl, rd_flt (d + 251) P ?_⟩
      refine rd_54 (d + 245) (V := 0) (t := .nil) trivial trivial (Nat.zero_le _) (by omega) rfl rfl (fun i hi => by simp only [sp_z] at hi; omega) 0 P (fun m' a' l' w' hr => ?_)
      rw [if_pos rfl]
      exact h0 q hq m1 a1 g1 g2 g4 m' a' l' w' hr
    · have hsh := uOK_shape hn hq
      have hN : sp_z t ≤ 241 := by omega
      refine ⟨1, rfl, Or.inr rfl, rd_ok (d + 252) P ?_⟩
      refine rd_54 (m := okM m1) (a := a1) (l := l) (w := w) (d + 245) (V := V) (t := t) hsh.1.1.2 (PrS_EdS hsh.1.1.2 0 [] g5) hN hsh.2.2.1 g2.2.1.2 g2.1.2.2.2 (fun i hi => ?_) 1 P (fun m' a' l' w' hr => ?_)
      · exact (plR_all hN hsh.2.2.1).2 hsh.1.1.1 (fun e he => absurd he List.not_mem_nil) [] g5 (by omega) i (Nat.zero_le _) (by omega)
      · rw [if_neg (by decide)]
        exact h1 q V sc t hq m1 a1 g1 g2 g3 g4 g5 g6 m' a' l' w' hr
  have g : pv_call cq_mt (d + 252) cq_m_Reader_readUnit [.ref 3, .int (m c_A_collectedSize)] (cs m a l w) (fun o S => ∃ r, o = some (.int r) ∧ (r = 0 ∨ r = 1) ∧ pv_go cq_T2 0 (pv_call cq_mt (d + 252)) P (12, [(0, .ref 0), (1, .int r)], [], S)) := by rw [hs]; exact g
  refine pv_call_cm _ _ _ _ _ _ _ ?_ g
  rintro o S ⟨r, rfl, -, hr⟩
  exact hr
end CR2
