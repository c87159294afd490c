/-! side by side: collect, read -/
theorem tb_sar {v : Int64} {i k : Nat} (hi : i < 8) (hk : k < 8) : tb (sar v (8 * nI i)) k = tb v (8 * i + k) := by
  have e : ∀ i : Fin 8, BitVec.smod ((8 * nI i.1 : Int32).toInt64 &&& 63).toBitVec 64 = BitVec.ofNat 64 (8 * i.1) := by decide +kernel
  have e2 : (BitVec.ofNat 64 (8 * i)).toNat = 8 * i := by rw [BitVec.toNat_ofNat]; omega
  unfold tb sar
  rw [Int64.toBitVec_shiftRight, BitVec.sshiftRight_eq']
  have e3 : (BitVec.smod ((8 * nI i : Int32).toInt64 &&& 63).toBitVec 64).toNat = 8 * i := by rw [e ⟨i, hi⟩]; exact e2
  rw [e3, BitVec.getLsbD_sshiftRight, if_pos (by omega)]
  rw [decide_eq_false (by omega)]
  rfl
theorem tb_shr {v : Int64} {i k : Nat} (hi : i < 8) (hk : k < 8) : tb (shr v (8 * nI i)) k = tb v (8 * i + k) := by
  have e : ∀ i : Fin 8, (((8 * nI i.1 : Int32).toInt64.toUInt64 &&& Int64.toUInt64 63).toBitVec % 64) = BitVec.ofNat 64 (8 * i.1) := by decide +kernel
  have e2 : (BitVec.ofNat 64 (8 * i)).toNat = 8 * i := by rw [BitVec.toNat_ofNat]; omega
  unfold tb shr
  rw [UInt64.toBitVec_toInt64, UInt64.toBitVec_shiftRight, Int64.toBitVec_toUInt64]
  have e3 : (v.toBitVec >>> (((8 * nI i : Int32).toInt64.toUInt64 &&& Int64.toUInt64 63).toBitVec % (64 : BitVec 64))) = v.toBitVec >>> (8 * i) := by
    rw [e ⟨i, hi⟩]
    show v.toBitVec >>> (BitVec.ofNat 64 (8 * i)).toNat = _
    rw [e2]
  exact (congrArg (fun z => BitVec.getLsbD z k) e3).trans (BitVec.getLsbD_ushiftRight _ _ _)
theorem ti_8 {y : Int32} {k : Nat} (hk : k < 8) : ti y.toInt8.toInt32 k = ti y k := by
  unfold ti
  rw [Int8.toBitVec_toInt32, BitVec.getLsbD_signExtend, if_pos hk, Int32.toBitVec_toInt8, BitVec.getLsbD_signExtend, if_pos (by omega), decide_eq_true (by omega), decide_eq_true hk, Bool.true_and, Bool.true_and]
theorem m255 {k : Nat} (hk : k < 32) : ti 255 k = decide (k < 8) := by
  have : ∀ k : Fin 32, ti 255 k.1 = decide (k.1 < 8) := by decide +kernel
  exact this ⟨k, hk⟩
theorem m255l {k : Nat} (hk : k < 64) : tb 255 k = decide (k < 8) := by
  have : ∀ k : Fin 64, tb 255 k.1 = decide (k.1 < 8) := by decide +kernel
  exact this ⟨k, hk⟩
theorem by_co {v : Int64} {i : Nat} (hi : i < 8) : byV v i &&& 255 = coV v i := by
  refine ti_ext (fun k hk => ?_)
  unfold byV coV
  rw [ti_and, m255 hk, ti_l hk, tb_and, m255l (by omega)]
  by_cases c : k < 8
  · rw [ti_8 c, ti_8 c, ti_l hk, tb_sar hi c, tb_shr hi c]
  · rw [decide_eq_false c, Bool.and_false, Bool.and_false]
theorem ro_co {v : Int64} {s : Nat} {f g : Nat → Int32} (h : ∀ i, f i &&& 255 = g i) : ∀ k, k ≤ 8 → ∀ i, roR v s k f i &&& 255 = coR v s k g i
  | 0, _, i => h i
  | k + 1, hk, i => by
    have ih := ro_co (v := v) (s := s) h k (by omega) i
    show (if i = s + k then byV v k else roR v s k f i) &&& 255 = (if i = s + k then coV v k else coR v s k g i)
    by_cases e : i = s + k
    · rw [if_pos e, if_pos e]; exact by_co (by omega)
    · rw [if_neg e, if_neg e]; exact ih
theorem ro_8 {v : Int64} {s : Nat} {f : Nat → Int32} (h : ∀ i, (f i).toInt8.toInt32 = f i) : ∀ k i, (roR v s k f i).toInt8.toInt32 = roR v s k f i
  | 0, i => h i
  | k + 1, i => by
    show (if i = s + k then byV v k else roR v s k f i).toInt8.toInt32 = (if i = s + k then byV v k else roR v s k f i)
    by_cases e : i = s + k
    · rw [if_pos e]
      unfold byV
      rw [Int8.toInt8_toInt32]
    · rw [if_neg e]; exact ro_8 h k i
theorem Cg_0 {a a' : Nat → Nat → Int32} (h : Cg a a') : a' 0 = a 0 := funext fun i => h 0 i ⟨fun u => by omega, fun u => by omega, fun u => by omega, by omega⟩
section RL4
variable {n V : Nat} {t : Std.Format} {sc : sc_T} {fp : Int32} {tx : Nat → Int32} {Sc Sr : pv_S}
theorem q_collect (d : Nat) (hc : CSt n V t sc fp tx Sc) (hr : RStS n V t sc fp tx Sr) (v : Int64) (x : Int32) : Same (d + 300) cq_m_A_collect rq_m_R_collect [.long v, .int x] Sc Sr := by
  have kc := hc
  have kr := hr
  obtain ⟨m, a, l, w, a3, rfl, h1, h2, h3, h4, h5⟩ := hc
  obtain ⟨m', a', rfl, ⟨g1, g2, g3, g4, g5, g6⟩, g7⟩ := hr
  by_cases hx : 1 ≤ x ∧ x ≤ 8
  · obtain ⟨k, hk, rfl⟩ := nI_of (show ¬ x < 0 from fun e => absurd (Int32.lt_of_lt_of_le e (Int32.le_trans (by decide) hx.1)) Int32.lt_irrefl)
    have k1 : 1 ≤ k := by
      have := hx.1
      rw [show (1 : Int32) = nI 1 from rfl, nI_leI (by omega) hk] at this
      exact this
    have k8 : k ≤ 8 := by
      have := hx.2
      rw [show (8 : Int32) = nI 8 from rfl, nI_leI hk (by omega)] at this
      exact this
    have inj : ∀ q, nI k = nI q → q ≤ 8 → q = k := fun q e hq => by
      rw [nI_eq (by omega) (by omega)] at e
      exact e.symm
    by_cases c : n + k ≤ 240
    · refine ⟨nI (n + k), n + k, V, t, sc, fp, coR v n k tx, ?_, ?_⟩
      · refine cc_Acollect (d + 299) h3.1.2 h3.1.1 v (nI k) _ (fun u => absurd hx u) (fun q eq hq => ?_)
        rw [inj q eq hq.2]
        have up : ∀ j, ¬ (j = 0 ∨ j = 1) → upa a c_A_collected (coR v n k (a c_A_collected)) j = a j := fun j hj => upa_ne _ _ (fun e => hj (Or.inl e))
        have l3 : L3 a3 (upa a c_A_collected (coR v n k (a c_A_collected))) := fun j h1' h2' => (up j h1').trans (h1.2.1 j h1' h2')
        refine ⟨fun u => absurd c u, fun _ => ⟨rfl, _, _, _, _, a3, rfl, ⟨h1.1, l3, h1.2.2⟩, h2, ⟨⟨rfl, c⟩, ?_⟩, ⟨⟨⟨l3, h4.1.1.2⟩, fun i x hx => ?_, fun v' hv' => ?_⟩, fun v' hv' => ?_⟩, h5⟩⟩
        · show upa a 0 (coR v n k (a 0)) 0 = _
          rw [upa_at]
          rw [show a 0 = tx from h3.2]
        · show upa a 0 (coR v n k (a 0)) 1 i = _
          rw [upa_ne _ _ (by decide)]
          exact h4.1.2.1 i x hx
        · show upa a 0 (coR v n k (a 0)) 22 v' = _
          rw [upa_ne _ _ (by decide)]
          exact h4.1.2.2 v' hv'
        · show upa a 0 (coR v n k (a 0)) 23 v' = _ ∧ upa a 0 (coR v n k (a 0)) 24 v' = _
          rw [upa_ne _ _ (by decide), upa_ne _ _ (by decide)]
          exact h4.2 v' hv'
      · refine rc_collect (d + 298) g6.2 g6.1 v (nI k) _ (fun u => absurd hx u) (fun q eq hq => ?_)
        rw [inj q eq hq.2]
        have up : ∀ j, ¬ j = 0 → upa a' r_row (roR v n k (a' r_row)) j = a' j := fun j hj => upa_ne _ _ hj
        have r0 : upa a' r_row (roR v n k (a' r_row)) r_row = roR v n k (a' r_row) := upa_at _ _ _
        refine ⟨fun u => absurd c u, fun _ => ⟨rfl, _, _, rfl, ⟨g1, ⟨?_, ?_⟩, ⟨g3.1, ?_⟩, ⟨?_, fun i => ?_⟩, g5, rfl, c⟩, ?_⟩⟩
        · have hr := g2.1
          refine ⟨hr.1, fun i R hi => ?_⟩
          have g := hr.2 i R hi
          rw [up r_number (by decide), up r_byNumber (by decide)]
          refine ⟨?_, g.2⟩
          have g := g.1
          unfold rRow ndS ndF at g ⊢
          simp only [up r_sort (by decide), up r_first (by decide), up r_around (by decide), up r_isStmt (by decide), up r_thereBefore (by decide), up r_thereAfter (by decide), up r_isMarked (by decide), up r_variable (by decide), up r_nameOf (by decide), up r_isFinal (by decide), up r_givenAt (by decide), up r_target (by decide), up r_hasCatch (by decide), up r_hasEnd (by decide), up r_part (by decide), up r_tailMarked (by decide), up r_hasOther (by decide)]
          exact g
        · rw [up r_seen (by decide)]; exact g2.2
        · unfold edK
          rw [up r_ended (by decide)]
          exact g3.2
        · unfold vOK
          rw [up r_scope (by decide), up r_nameOf (by decide)]
          exact g4.1
        · rw [r0]; exact ro_8 g4.2 k i
        · funext i
          unfold r_tx
          rw [r0]
          exact ro_co (fun i => congrFun g7 i) k k8 i
    · refine ⟨-3, n, V, t, sc, fp, tx, ?_, ?_⟩
      · refine cc_Acollect (d + 299) h3.1.2 h3.1.1 v (nI k) _ (fun u => absurd hx u) (fun q eq hq => ?_)
        rw [inj q eq hq.2]
        exact ⟨fun _ => ⟨rfl, kc⟩, fun u => absurd u c⟩
      · refine rc_collect (d + 298) g6.2 g6.1 v (nI k) _ (fun u => absurd hx u) (fun q eq hq => ?_)
        rw [inj q eq hq.2]
        exact ⟨fun _ => ⟨rfl, kr⟩, fun u => absurd u c⟩
  · refine ⟨-2, n, V, t, sc, fp, tx, ?_, ?_⟩
    · exact cc_Acollect (d + 299) h3.1.2 h3.1.1 v x _ (fun _ => ⟨rfl, kc⟩) (fun q eq hq => absurd (by rw [eq]; exact ⟨by rw [show (1 : Int32) = nI 1 from rfl, nI_leI (by omega) (by omega)]; exact hq.1, by rw [show (8 : Int32) = nI 8 from rfl, nI_leI (by omega) (by omega)]; exact hq.2⟩) hx)
    · exact rc_collect (d + 298) g6.2 g6.1 v x _ (fun _ => ⟨rfl, kr⟩) (fun q eq hq => absurd (by rw [eq]; exact ⟨by rw [show (1 : Int32) = nI 1 from rfl, nI_leI (by omega) (by omega)]; exact hq.1, by rw [show (8 : Int32) = nI 8 from rfl, nI_leI (by omega) (by omega)]; exact hq.2⟩) hx)
theorem q_read (d : Nat) (hc : CSt n V t sc fp tx Sc) (hr : RStS n V t sc fp tx Sr) : Same (d + 300) cq_m_A_read rq_m_R_read [] Sc Sr := by
  obtain ⟨m, a, l, w, a3, rfl, h1, h2, h3, h4, h5⟩ := hc
  obtain ⟨m', a', rfl, g, g7⟩ := hr
  have ea : a c_A_collected = tx := h3.2
  cases hst : st tx n 500 3 [] 0 (sp_x tx n 0) 0 [] 0 with
  | inl q =>
    refine ⟨-4, 0, 0, .nil, [], nI q, tx, ?_, ?_⟩
    · refine cc_read (d + 47) h3.1.2 h3.1.1 _ (fun q' hq' m1 a1 k1 k2 k3 m2 a2 l2 w2 hR => ?_) (fun q' V' sc' t' hu => ?_)
      · rw [ea, hst] at hq'
        cases hq'
        obtain ⟨b3, sz, gr, r1, r2, r3, r4, r5⟩ := rd_CUP TT_nil trivial hR
        refine ⟨rfl, _, _, _, _, b3, rfl, ⟨r1, fun j j1 j2 => r5.1.1 j (fun e => j1 (Or.inr e)) j2, r3⟩, ⟨⟨?_, ?_⟩, ?_, ?_⟩, ⟨⟨?_, by omega⟩, ?_⟩, ⟨⟨⟨fun j j1 j2 => r5.1.1 j (fun e => j1 (Or.inr e)) j2, ?_⟩, r5.2.1, r5.2.2⟩, fun v hv => by omega⟩, gv_0, fun e he => nomatch he⟩
        · rw [r4]; rfl
        · rw [r4]; rfl
        · rw [r4]; rfl
        · rw [r4]; exact k2
        · rw [r4]; rfl
        · rw [r5.1.1 0 (by decide) (by decide), r2 0 (by decide) (by decide), Cg_0 k3]; exact ea
        · rw [r4]; exact r5.1.2
      · unfold uOK at hu
        rw [ea, hst] at hu
        cases hu
    · refine rc_read (d + 288) g _ (fun q' hq' m1 a1 k1 => ?_) (fun q' V' sc' t' hu => ?_)
      · rw [g7, hst] at hq'
        cases hq'
        exact ⟨rfl, _, _, rfl, k1.1, k1.2.trans g7⟩
      · unfold uOK at hu
        rw [g7, hst] at hu
        cases hu
  | inr z =>
    obtain ⟨q, V1, sc1, t1⟩ := z
    have u0 : uOK tx n q V1 sc1 t1 := hst
    have hT := TT_u h3.1.2 u0
    have hV := uOK_V h3.1.2 u0
    refine ⟨nI (sp_z t1), 0, V1, t1, sc1, -1, tx, ?_, ?_⟩
    · refine cc_read (d + 47) h3.1.2 h3.1.1 _ (fun q' hq' => ?_) (fun q' V' sc' t' hu m1 a1 k1 k2 k3 k4 k5 k6 m2 a2 l2 w2 hR => ?_)
      · rw [ea, hst] at hq'
        cases hq'
      · unfold uOK at hu
        rw [ea, hst] at hu
        cases hu
        obtain ⟨b3, sz, gr, r1, r2, r3, r4, r5⟩ := rd_CUP hT k5 hR
        have row : ∀ j, ¬ (7 ≤ j ∧ j ≤ 10) → j < 25 → ¬ j = 1 → ¬ j = 22 → a2 j = a1 j := fun j j1 j2 j3 j4 => (r5.1.1 j j3 j4).trans (r2 j j1 j2)
        refine ⟨rfl, _, _, _, _, b3, rfl, ⟨r1, fun j j1 j2 => r5.1.1 j (fun e => j1 (Or.inr e)) j2, r3⟩, ⟨⟨?_, ?_⟩, ?_, ?_⟩, ⟨⟨?_, by omega⟩, ?_⟩, ⟨⟨⟨fun j j1 j2 => r5.1.1 j (fun e => j1 (Or.inr e)) j2, ?_⟩, r5.2.1, r5.2.2⟩, fun v hv => ?_⟩, hV.1, hV.2⟩
        · rw [r4]; exact k2.2.1.2
        · rw [r4]; exact k2.1.2.2.2
        · rw [r4]; exact k3
        · rw [r4]; rfl
        · rw [r4]; rfl
        · rw [row 0 (by decide) (by decide) (by decide) (by decide), k2.2.2.1]; exact ea
        · rw [r4]; exact r5.1.2
        · rw [row 23 (by decide) (by decide) (by decide) (by decide), row 24 (by decide) (by decide) (by decide) (by decide)]
          have := hT.1.1.2
          exact (k6 v (by omega)).2.1 (Nat.zero_le _) hv
    · refine rc_read (d + 288) g _ (fun q' hq' => ?_) (fun q' V' sc' t' hu m1 a1 k1 => ?_)
      · rw [g7, hst] at hq'
        cases hq'
      · unfold uOK at hu
        rw [g7, hst] at hu
        cases hu
        exact ⟨rfl, _, _, rfl, k1.1, k1.2.trans g7⟩
end RL4
