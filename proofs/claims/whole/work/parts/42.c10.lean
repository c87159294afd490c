def nd0 (a : Nat → Nat → Int32) (b s p : Nat) (th : Int32) : Prop := ((a c_P_sort b = nI s ∧ a c_P_first b = nI p) ∧ (a c_P_named b = -1 ∧ a c_P_there b = th)) ∧ (a c_P_target b = -1 ∧ a c_P_catchFrom b = -1 ∧ a c_P_finallyFrom b = -1) ∧ (a c_P_isEntered b = 0 ∧ a c_P_isSkipped b = 0)
theorem nd0_Cs {a a' : Nat → Nat → Int32} {b s p B k V : Nat} {th : Int32} (h : Cs a a' B k V) (hb : b < B) (hn : nd0 a b s p th) : nd0 a' b s p th := by
  obtain ⟨⟨⟨h1, h2⟩, h3, h4⟩, ⟨h5, h6, h7⟩, h8, h9⟩ := hn
  have r := fun j hj => Cs_row (j := j) h hj hb
  exact ⟨⟨⟨(r 2 (by omega)).trans h1, (r 3 (by omega)).trans h2⟩, (r 4 (by omega)).trans h3, (r 5 (by omega)).trans h4⟩, ⟨(r 11 (by omega)).trans h5, (r 12 (by omega)).trans h6, (r 13 (by omega)).trans h7⟩, (r 14 (by omega)).trans h8, (r 15 (by omega)).trans h9⟩
abbrev clE (a : Nat → Nat → Int32) (b : Nat) (e z : Int32) : Nat → Nat → Int32 := up2 (up2 a c_P_end b e) c_P_isEntered b z
theorem up2_no {a : Nat → Nat → Int32} {j i j2 i2 : Nat} {x : Int32} (h : ¬ (j2 = j ∧ i2 = i)) : up2 a j i x j2 i2 = a j2 i2 := by
  unfold up2 upa upd
  by_cases e : j2 = j
  · rw [if_pos e]
    by_cases e2 : i2 = i
    · exact absurd ⟨e, e2⟩ h
    · rw [if_neg e2, e]
  · rw [if_neg e]
theorem up2_at (a : Nat → Nat → Int32) (j i : Nat) (x : Int32) : up2 a j i x j i = x := by
  unfold up2 upa upd
  rw [if_pos rfl, if_pos rfl]
theorem up2_row {a : Nat → Nat → Int32} {j i j2 : Nat} {x : Int32} (h : ¬ j2 = j) : up2 a j i x j2 = a j2 := by
  unfold up2 upa
  rw [if_neg h]
theorem clE_o {a : Nat → Nat → Int32} {b : Nat} {e z : Int32} {j i : Nat} (h : ¬ (i = b ∧ (j = 6 ∨ j = 14))) : clE a b e z j i = a j i := by
  show up2 (up2 a c_P_end b e) c_P_isEntered b z j i = _
  rw [up2_no (fun q => h ⟨q.2, Or.inr q.1⟩), up2_no (fun q => h ⟨q.2, Or.inl q.1⟩)]
theorem clE_6 (a : Nat → Nat → Int32) (b : Nat) (e z : Int32) : clE a b e z c_P_end b = e := by
  show up2 (up2 a c_P_end b e) c_P_isEntered b z c_P_end b = _
  rw [up2_no (fun q => absurd q.1 (by decide)), up2_at]
theorem clE_14 (a : Nat → Nat → Int32) (b : Nat) (e z : Int32) : clE a b e z c_P_isEntered b = z := up2_at _ _ _ _
theorem PrS_clE {a : Nat → Nat → Int32} {b W : Nat} {e z : Int32} {y : Std.Format} {sc : sc_T} {b1 : Nat} (hb : b < b1) (h : PrS a W y b1 sc) : PrS (clE a b e z) W y b1 sc :=
  PrS_F (b0 := b + 1) (B := b1 + sp_z y) ⟨fun j i hj h1 h2 => clE_o (by omega), fun j i hj h1 => clE_o (by omega)⟩ (Nat.le_refl _) _ y (Nat.lt_succ_self _) b1 sc hb (Nat.le_refl _) h
theorem pl_n {s p pl z : Nat} (hs : s < 256) (hp : p < 256) (hz : z < 2) : sp_s (sp_n s p (2 * pl + z)) = s ∧ sp_f (sp_n s p (2 * pl + z)) = p ∧ sp_pl (sp_n s p (2 * pl + z)) = pl ∧ sp_en (sp_n s p (2 * pl + z)) = z := by
  refine ⟨sp_s_n hs hp, sp_f_n hs hp, ?_, ?_⟩
  · unfold sp_pl; rw [sp_v_n hs hp]; omega
  · unfold sp_en; rw [sp_v_n hs hp]; omega
theorem ndT_mk {a : Nat → Nat → Int32} {W b s p pl z : Nat} {e : Nat} {sc : sc_T} (hs : s < 256) (hp : p < 256) (hz : z < 2)
    (h1 : a c_P_sort b = nI s ∧ a c_P_first b = nI p) (h2 : a c_P_there b = thOf sc)
    (h3 : (s = 36 ∨ s = 37) → (1 ≤ pl % 16 ∧ pl % 16 ≤ W) ∧ a c_P_named b = nI (pl % 16 - 1) ∧ (a c_V_name (pl % 16 - 1) = nI (pl / 16 + 97) ∧ a c_V_isFinal (pl % 16 - 1) = (if s = 37 then 1 else 0)) ∧ (a c_V_giver (pl % 16 - 1) = nI b ∧ a c_V_couldBeFinal (pl % 16 - 1) = 1))
    (h4 : ¬ (s = 36 ∨ s = 37) → a c_P_named b = -1) (h5 : (s = 66 ∨ s = 67) → 1 ≤ pl ∧ a c_P_target b = nI (pl - 1)) (h6 : ¬ (s = 66 ∨ s = 67) → a c_P_target b = -1) : ndT (clE a b (nI e) (nI z)) W b (sp_n s p (2 * pl + z)) e sc := by
  obtain ⟨n1, n2, n3, n4⟩ := pl_n (pl := pl) hs hp hz
  unfold ndT
  rw [n1, n2, n3, n4, clE_6, clE_14]
  have r := fun j (hj : ¬ (j = 6 ∨ j = 14)) => clE_o (a := a) (b := b) (e := nI e) (z := nI z) (j := j) (i := b) (fun q => hj q.2)
  have r2 := fun j i (hj : ¬ (j = 6 ∨ j = 14)) => clE_o (a := a) (b := b) (e := nI e) (z := nI z) (j := j) (i := i) (fun q => hj q.2)
  rw [r c_P_sort (by decide), r c_P_first (by decide), r c_P_there (by decide), r c_P_named (by decide), r c_P_target (by decide), r2 c_V_name _ (by decide), r2 c_V_isFinal _ (by decide), r2 c_V_giver _ (by decide), r2 c_V_couldBeFinal _ (by decide)]
  exact ⟨⟨h1, ⟨h2, rfl⟩, rfl⟩, h3, h4, h5, h6⟩
abbrev plS (s : Nat) : Prop := s = 123 ∨ s = 58 ∨ s = 59 ∨ s = 73 ∨ s = 87 ∨ s = 68 ∨ s = 70 ∨ s = 82 ∨ s = 88
theorem PrS_pl {a : Nat → Nat → Int32} {W b s p z : Nat} {y : Std.Format} {sc : sc_T} (hs : plS s) (hp : p < 256) (hz : z < 2) (hn : nd0 a b s p (thOf sc)) (hy : PrS a W y (b + 1) sc) : PrS (clE a b (nI (b + 1 + sp_z y)) (nI z)) W (.tag (sp_n s p z) y) b sc := by
  have hs2 : s < 256 := by omega
  obtain ⟨n1, n2, n3, n4⟩ := pl_n (pl := 0) hs2 hp hz
  have hn' := hn
  obtain ⟨⟨⟨h1, h2⟩, h3, h4⟩, ⟨h5, h6, h7⟩, h8, h9⟩ := hn'
  have nd := ndT_mk (W := W) (pl := 0) (e := b + 1 + sp_z y) hs2 hp hz ⟨h1, h2⟩ h4 (fun q => by omega) (fun _ => h3) (fun q => by omega) (fun _ => h5)
  rw [Nat.mul_zero, Nat.zero_add] at nd n1
  have r := fun j (hj : ¬ (j = 6 ∨ j = 14)) => clE_o (a := a) (b := b) (e := nI (b + 1 + sp_z y)) (z := nI z) (j := j) (i := b) (fun q => hj q.2)
  unfold PrS
  rw [if_pos (by rw [n1]; unfold stS; omega)]
  refine ⟨⟨nd, ?_⟩, ?_⟩
  · unfold skT
    rw [if_neg (by rw [n1]; omega), r c_P_isSkipped (by decide)]; exact h9
  · rw [if_neg (by rw [n1]; omega), r c_P_catchFrom (by decide), r c_P_finallyFrom (by decide)]
    exact ⟨⟨h6, h7⟩, PrS_clE (Nat.lt_succ_self _) hy⟩
section KK
variable (l : Nat → Nat → Int64) (w : Int64) (tx : Nat → Int32) (n : Nat)
abbrev kR (D b : Nat) (P : pv_R) : pv_R := bq l w (fun S => P (some (.int 0)) S) (fun m' a' => pv_call cq_mt D cq_m_Places_close [.ref 2, .int (nI b)] (cs m' a' l w) (fun o S => o = none ∧ P (some (.int 1)) S))
def kPre (m m1 : Nat → Int32) (a a1 : Nat → Nat → Int32) (cx : cx_T) (b p p1 V : Nat) (sc : sc_T) (s lb : Nat) : Prop :=
  (cSt tx n m1 a1 ((b, s, lb) :: cx) (b + 1) p1 V sc ∧ Cms m m1 ∧ Cs a a1 b cx.length V) ∧ (nd0 a1 b s p (thOf sc) ∧ (a1 c_V_uses = a c_V_uses ∧ a1 c_V_assigns = a c_V_assigns)) ∧ (b ≤ p ∧ p ≤ n ∧ cx.length < 20)
end KK
section KL
variable {l : Nat → Nat → Int64} {w : Int64} {tx : Nat → Int32} {n : Nat}
theorem cSt_pop {m : Nat → Int32} {a : Nat → Nat → Int32} {cx : cx_T} {e : Nat × Nat × Nat} {b p V : Nat} {sc : sc_T} (h : cSt tx n m a (e :: cx) b p V sc) : cSt tx n m a cx b p V sc := by
  obtain ⟨i, s, lb⟩ := e
  exact ⟨h.1, h.2.1, h.2.2.1, ⟨h.2.2.2.1.1.2, Nat.le_trans (Nat.le_succ _) h.2.2.2.1.2⟩, h.2.2.2.2⟩
theorem k_fin {D : Nat} {P : pv_R} {m m' : Nat → Int32} {a a' : Nat → Nat → Int32} {cx cx' : cx_T} {b V x q V1 c : Nat} {sc sc1 : sc_T} {y : Std.Format} (hD : 2 ≤ D) (hcx : ∃ e, cx' = e :: cx) (hb : b + 1 + sp_z y ≤ 241)
    (hQ : sQ l w tx n P m a cx b V sc x q V1 sc1 (.tag c y)) (hM : Cms m m') (hS : cSt tx n m' a' cx' (b + 1 + sp_z y) q V1 sc1) (hC : Cs a a' b cx.length V)
    (hP : PrS (clE a' b (nI (b + 1 + sp_z y)) (nI (x / 2))) V1 (.tag c y) b sc) (he : a' c_P_isEntered b = 0) (hc : cnR (a c_V_uses) (a c_V_assigns) V a' V1 (.tag c y)) : kR l w D b P (some (.int 1)) (cs m' a' l w) := by
  obtain ⟨d, rfl⟩ := Nat.exists_eq_add_of_le' hD
  obtain ⟨e, rfl⟩ := hcx
  refine Or.inr ⟨rfl, m', a', rfl, ?_⟩
  refine cc_close d m' a' (p := b) (b := b + 1 + sp_z y) (by omega) hb hS.2.1.2 _ ⟨rfl, ?_⟩
  have hS' := cSt_pop hS
  refine hQ m' _ hM ?_ (Cs_p hC _ (by decide) (Nat.le_refl _)) ⟨hP, ?_⟩ ?_
  · have e : b + sp_z (.tag c y) = b + 1 + sp_z y := by simp only [sp_z]; omega
    rw [e]
    exact cSt_fr hS' rfl hS'.1.2.2.1 hS'.1.2.2.2 ⟨Nat.le_refl _, hS'.1.1.2⟩ (Cs_p (k := 20) (V := 12) (Cs_refl _ b _ _) _ (by decide) (Nat.le_refl _)) hS'.2.2.2.1.2 hS'.2.1.1 hS'.2.1.2 (Nat.le_refl _) ⟨scC_mono (Nat.le_refl _) (fun v _ => by rw [up2_row (by decide)]) sc1 hS'.2.2.2.2.1, hS'.2.2.2.2.2⟩
  · rw [up2_row (by decide)]; exact he
  · exact cnR_a (up2_row (by decide)) (up2_row (by decide)) hc
/-- a plain statement's end -/
theorem k_done {D : Nat} {P : pv_R} {m m1 m' : Nat → Int32} {a a1 a' : Nat → Nat → Int32} {cx : cx_T} {b p p1 V x q V1 s lb : Nat} {sc : sc_T} {y : Std.Format} {F : Nat → Prop} (kp : kPre tx n m m1 a a1 cx b p p1 V sc s lb) (hs : plS s) (hx : x < 4) (hD : 2 ≤ D)
    (hQ : rP F (sQ l w tx n P m a cx b V sc x) (.inr (q, V1, sc, .tag (sp_n s p (x / 2)) y))) (hM : Cms m1 m') (hS : cSt tx n m' a' ((b, s, lb) :: cx) (b + 1 + sp_z y) q V1 sc) (hC : Cs a1 a' (b + 1) (cx.length + 1) V) (hy : PrS a' V1 y (b + 1) sc) (hc : cnR (a1 c_V_uses) (a1 c_V_assigns) V a' V1 y) (hq : p + sp_z y ≤ q) : kR l w D b P (some (.int 1)) (cs m' a' l w) := by
  obtain ⟨⟨k1, k2, k3⟩, ⟨k4, k5, k6⟩, k7, k8, k9⟩ := kp
  have hn := hS.1.1.1
  have hp := cSt_p hS
  have hn0 := nd0_Cs hC (Nat.lt_succ_self _) k4
  rw [k5, k6] at hc
  have n1 := (pl_n (s := s) (p := p) (pl := 0) (z := x / 2) (by omega) (by omega) (by omega)).1
  rw [Nat.mul_zero, Nat.zero_add] at n1
  exact k_fin hD ⟨_, rfl⟩ (by omega) hQ (Cms_trans k2 hM) hS (Cs_trans k3 hC (Nat.le_succ _) (Nat.le_succ _) (Nat.le_refl _)) (PrS_pl hs (by omega) (by omega) hn0 hy) hn0.2.2.1 (cnR_t (by rw [n1]; unfold stS; omega) hc)
end KL
