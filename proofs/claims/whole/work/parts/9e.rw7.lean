/-! the reference's solve -/
theorem grOK_c {m m0 : Nat → Int32} {a a0 : Nat → Nat → Int32} {N : Nat} {K : Nat → Nat} {E : eL_T} {W : wL_T} {on : Nat → Int32} (hm : m r_ways = m0 r_ways) (ha : ∀ j, ¬ (56 ≤ j ∧ j ≤ 59) → a j = a0 j) (h : grOK m0 a0 N K E W on) : grOK m a N K E W on := by
  refine ⟨⟨fun x hx => ?_, ?_, h.1.2.2⟩, ⟨?_, ?_, h.2.1.2.2⟩, ⟨fun k hk => ?_, h.2.2.1.2⟩, fun q hq => ?_, h.2.2.2.2⟩
  · rw [ha 49 (by omega)]; exact h.1.1 x hx
  · exact rowE_c E (fun j i hj _ => by rw [ha j (by omega)]) h.1.2.1
  · rw [hm]; exact h.2.1.1
  · exact rowW_c W (fun j i hj _ => by rw [ha j (by omega)]) h.2.1.2.1
  · rw [ha 54 (by omega)]; exact h.2.2.1.1 k hk
  · have h5 := ha 5 (by omega)
    rw [h5]; exact lnA_congr h5 _ _ (h.2.2.2.1 q hq)
theorem inP_c {a a' : Nat → Nat → Int32} (h5 : a' r_around = a r_around) (h6 : a' r_part = a r_part) (K : Nat → Nat) (W : wL_T) (w : Int32) : inP a' K W w = inP a K W w := by
  funext p
  unfold inP
  have : ∀ t, wiF a' K W t p = wiF a K W t p := fun t => wiF_c h5 h6 K W t p
  simp only [this]
theorem come57 (m0 : Nat → Int32) (a0 : Nat → Nat → Int32) : comeOK m0 a0 57 0 40 := ⟨Or.inr rfl, fun d H L S hS hH hL p b hp hb P h => rc_come_57 d (by omega) hS hH hL hp hb P h⟩
theorem come56 (m0 : Nat → Int32) (a0 : Nat → Nat → Int32) {base : Nat} (hb : base + 3600 ≤ 46800) : comeOK m0 a0 56 base 39 := ⟨Or.inl rfl, fun d H L S hS hH hL p b hp hb2 P h => rc_come_56 d hb hS hH hL hp hb2 P h⟩
theorem mkV_lt (H : pL_T) (p : Nat) : mkV H p < 4 := by
  unfold mkV
  by_cases h0 : (p, 0) ∈ H
  · by_cases h1 : (p, 1) ∈ H
    · rw [if_pos h0, if_pos h1]; omega
    · rw [if_pos h0, if_neg h1]; omega
  · by_cases h1 : (p, 1) ∈ H
    · rw [if_neg h0, if_pos h1]; omega
    · rw [if_neg h0, if_neg h1]; omega
theorem by8 {e : Nat} (he : e < 4) : (nI e).toInt8.toInt32 = nI e := by
  have : ∀ e : Fin 4, (nI e.1).toInt8.toInt32 = nI e.1 := by decide +kernel
  exact this ⟨e, he⟩
/-- the store while the sets are found -/
def SV (m0 : Nat → Int32) (a0 : Nat → Nat → Int32) (ed : Nat → Nat → Nat) (F : Nat → Int32) (S : pv_S) : Prop := ∃ m a, S = rs m a ∧ ((∀ j, ¬ j = 60 → m j = m0 j) ∧ m r_piled = nI 0) ∧ (∀ j, ¬ (56 ≤ j ∧ j ≤ 59) → a j = a0 j) ∧ a r_seen = F ∧ (∀ t b, t < 260 → b < 2 → a r_ended (2 * t + b) = nI (ed t b) ∧ ed t b < 4)
def bitQ (E : eL_T) (W : wL_T) (on : Nat → Int32) (v : Int32) (I : Nat → Prop) (V : Nat → Prop) (t : Nat) (ed ed' : Nat → Nat → Nat) (k : Nat) : Prop :=
  (∀ x, ¬ x = t → ed' x = ed x) ∧ ∀ b, b < k → ∃ H ed0, walkQ E W on ed0 v I V [(1301 + 3 * t + 1, b)] H ∧ ed' t b = mkV H (1301 + 3 * t + 2) ∧ ∀ x, ¬ x = t → ed0 x = ed' x
/-- what the N's of T from T0 on make -/
def sumQ (E : eL_T) (W : wL_T) (on : Nat → Int32) (v : Int32) (a0 : Nat → Nat → Int32) (K : Nat → Nat) (N T0 : Nat) (ed : Nat → Nat → Nat) : Prop :=
  ∀ t, T0 ≤ t → t < N → a0 r_sort t = 84 → ¬ a0 r_hasEnd t = 0 → ∀ b, b < 2 → ∃ H ed0, walkQ E W on ed0 v (inP a0 K W (nI t)) (vP N W) [(1301 + 3 * t + 1, b)] H ∧ ed t b = mkV H (1301 + 3 * t + 2) ∧ ∀ x, t < x → ed0 x = ed x
def sZ (Z : pv_L) : Prop := Z = [] ∨ (∃ x, Z = [(4, .int x)]) ∨ (∃ x y, Z = [(4, .int x), (5, .int y)])
def s5 (U : pv_L) : Prop := U = [] ∨ ∃ x, U = [(5, .int x)]
abbrev svL (v : Nat) (x t : Int32) (Z : pv_L) : pv_L := [(0, .ref 0), (1, .int (nI v)), (2, .int x), (3, .int t)] ++ Z
section RW7
variable {m0 : Nat → Int32} {a0 : Nat → Nat → Int32}
set_option maxRecDepth 100000 in
theorem sv_68 (d : Nat) (m : Nat → Int32) (a : Nat → Nat → Int32) (v : Nat) (x t q4 : Int32) (P : pv_R) : ∀ (j k : Nat) (f : Nat → Int32), k + j = 3600 → (∀ i, i < k → f i = 0) → (∀ f' : Nat → Int32, (∀ i, i < 3600 → f' i = 0) → pv_go rq_T57 3 (pv_call rq_mt d) P (90, svL v x t [(4, .int q4), (5, .int (nI 3600))], [], rs m (upa a r_local f'))) → pv_go rq_T57 3 (pv_call rq_mt d) P (68, svL v x t [(4, .int q4), (5, .int (nI k))], [], rs m (upa a r_local f)) := by
  intro j
  induction j with
  | zero =>
    intro k f hk hf h
    have e : k = 3600 := by omega
    subst e
    have g := h f hf
    refine pv_run [90] 20 ?_
    exact And.intro (fun _ => g) (fun q => absurd (show (3600 : Int32) ≤ nI 3600 by decide) q)
  | succ j ih =>
    intro k f hk hf h
    have nle : ¬ (3600 : Int32) ≤ nI k := by
      rw [show (3600 : Int32) = nI 3600 from rfl, nI_leI (by omega) (by omega)]
      omega
    have i1 : vp_in (nI k) 3600 := vp_in_nI (by omega) (by decide)
    have c1 : (nI k).toNatClampNeg = k := nI_clamp (by omega)
    have g := ih (k + 1) (upd f k 0) (by omega) (fun i hi => by
      show (if i = k then _ else f i) = _
      by_cases e : i = k
      · rw [if_pos e]
      · rw [if_neg e]; exact hf i (by omega)) h
    rw [← upa_up] at g
    refine pv_run [68] 20 ?_
    refine And.intro (fun q => absurd q nle) (fun _ => ?_)
    refine And.intro i1 ?_
    show pv_go rq_T57 3 (pv_call rq_mt d) P (68, svL v x t [(4, .int q4), (5, .int (nI k + 1))], [], rs m (up2 (upa a r_local f) r_local (nI k).toNatClampNeg 0))
    rw [c1, nI_1]
    exact g
set_option maxRecDepth 100000 in
theorem sv_167 (d : Nat) (m : Nat → Int32) (a : Nat → Nat → Int32) (v : Nat) (x : Int32) {base : Nat} (hbs : base + 3600 ≤ 46800) (P : pv_R) (U : pv_L) (hU : s5 U) (F : Nat → Int32) : ∀ (j k : Nat) (f : Nat → Int32), k + j = 3600 → (∀ i, i < k → f (base + i) = 0) → (∀ i, ¬ (base ≤ i ∧ i < base + 3600) → f i = F i) → (∀ f' : Nat → Int32, (∀ i, i < 3600 → f' (base + i) = 0) → (∀ i, ¬ (base ≤ i ∧ i < base + 3600) → f' i = F i) → pv_go rq_T57 3 (pv_call rq_mt d) P (191, svL v x (nI base) ([(4, .int (nI 3600))] ++ U), [], rs m (upa a r_seen f'))) → pv_go rq_T57 3 (pv_call rq_mt d) P (167, svL v x (nI base) ([(4, .int (nI k))] ++ U), [], rs m (upa a r_seen f)) := by
  intro j
  induction j with
  | zero =>
    intro k f hk hf hF h
    have e : k = 3600 := by omega
    subst e
    have g := h f hf hF
    rcases hU with rfl | ⟨y, rfl⟩
    all_goals
      refine pv_run [191] 20 ?_
      exact And.intro (fun _ => g) (fun q => absurd (show (3600 : Int32) ≤ nI 3600 by decide) q)
  | succ j ih =>
    intro k f hk hf hF h
    have nle : ¬ (3600 : Int32) ≤ nI k := by
      rw [show (3600 : Int32) = nI 3600 from rfl, nI_leI (by omega) (by omega)]
      omega
    have e1 : nI base + nI k = nI (base + k) := nI_add _ _
    have i1 : vp_in (nI base + nI k) 46800 := by rw [e1]; exact vp_in_nI (by omega) (by decide)
    have c1 : (nI base + nI k).toNatClampNeg = base + k := by rw [e1]; exact nI_clamp (by omega)
    have g := ih (k + 1) (upd f (base + k) 0) (by omega) (fun i hi => by
      show (if base + i = base + k then _ else f (base + i)) = _
      by_cases e : i = k
      · rw [if_pos (by omega)]
      · rw [if_neg (by omega)]; exact hf i (by omega)) (fun i hi => by
      show (if i = base + k then _ else f i) = _
      rw [if_neg (by omega)]; exact hF i hi) h
    rw [← upa_up] at g
    rcases hU with rfl | ⟨y, rfl⟩
    · refine pv_run [167] 20 ?_
      refine And.intro (fun q => absurd q nle) (fun _ => ?_)
      refine And.intro i1 ?_
      show pv_go rq_T57 3 (pv_call rq_mt d) P (167, svL v x (nI base) [(4, .int (nI k + 1))], [], rs m (up2 (upa a r_seen f) r_seen (nI base + nI k).toNatClampNeg 0))
      rw [c1, nI_1]
      exact g
    · refine pv_run [167] 20 ?_
      refine And.intro (fun q => absurd q nle) (fun _ => ?_)
      refine And.intro i1 ?_
      show pv_go rq_T57 3 (pv_call rq_mt d) P (167, svL v x (nI base) [(4, .int (nI k + 1)), (5, .int y)], [], rs m (up2 (upa a r_seen f) r_seen (nI base + nI k).toNatClampNeg 0))
      rw [c1, nI_1]
      exact g
set_option maxRecDepth 100000 in
/-- one bit of the N of T t -/
theorem sv_90 (d : Nat) {N : Nat} {K : Nat → Nat} {E : eL_T} {W : wL_T} {on : Nat → Int32} (hg : grOK m0 a0 N K E W on) (v : Nat) (x : Int32) {t k : Nat} (ht : t < N) (hk : k < 2) {ed : Nat → Nat → Nat} {F : Nat → Int32} {m : Nat → Int32} {a : Nat → Nat → Int32} (hS : ((∀ j, ¬ j = 60 → m j = m0 j) ∧ m r_piled = nI 0) ∧ (∀ j, ¬ (56 ≤ j ∧ j ≤ 59) → a j = a0 j) ∧ a r_seen = F ∧ (∀ t b, t < 260 → b < 2 → a r_ended (2 * t + b) = nI (ed t b) ∧ ed t b < 4)) (hf : ∀ i, i < 3600 → a r_local i = 0) (P : pv_R)
    (h : ∀ H S', walkQ E W on ed x (inP a0 K W (nI t)) (vP N W) [(1301 + 3 * t + 1, k)] H → SV m0 a0 (fun y b => if y = t ∧ b = k then mkV H (1301 + 3 * t + 2) else ed y b) F S' → pv_go rq_T57 3 (pv_call rq_mt (d + 3)) P (39, svL v x (nI t) [(4, .int (nI (k + 1))), (5, .int (nI 3600))], [], S')) : pv_go rq_T57 3 (pv_call rq_mt (d + 3)) P (90, svL v x (nI t) [(4, .int (nI k)), (5, .int (nI 3600))], [], rs m a) := by
  have hN := hg.2.2.2.2
  have hga := grOK_c (m := m) (a := a) (hS.1.1 55 (by decide)) hS.2.1 hg
  have hena : enOK a W ed := fun y hy b hb => hS.2.2.2 y.1 b (by have := hg.2.1.2.2.2 y hy; omega) hb
  have vN : vP N W (1301 + 3 * t + 1) := by unfold vP; omega
  have hR0 : RW m a 57 0 [] [] (rs m a) := ⟨m, a, rfl, ⟨fun _ _ => rfl, fun _ _ => rfl⟩, ⟨fun _ _ => rfl, fun p hp => by rw [Nat.zero_add]; exact hf p hp⟩, hS.1.2, trivial⟩
  have i5 := inP_c (hS.2.1 5 (by decide)) (hS.2.1 6 (by decide)) K W (nI t)
  -- behind the walk
  have aft : ∀ H S', RW m a 57 0 H [] S' → walkQ E W on ed x (inP a0 K W (nI t)) (vP N W) [(1301 + 3 * t + 1, k)] H → pv_go rq_T57 3 (pv_call rq_mt (d + 3)) P (121, svL v x (nI t) [(4, .int (nI k)), (5, .int (nI 3600))], [], S') := by
    rintro H S' ⟨m', a', rfl, hR⟩ hQ
    have e1 : (2 : Int32) * nI t + nI k = nI (2 * t + k) := mul2p
    have i1 : vp_in ((2 : Int32) * nI t + nI k) 520 := by rw [e1]; exact vp_in_nI (by omega) (by decide)
    have e2 : (1301 : Int32) + 3 * nI t + 2 = nI (1301 + 3 * t + 2) := mul3k (k := 2)
    have i2 : vp_in ((1301 : Int32) + 3 * nI t + 2) 3600 := by rw [e2]; exact vp_in_nI (by omega) (by decide)
    have t2 : a' r_local ((1301 : Int32) + 3 * nI t + 2).toNatClampNeg = nI (mkV H (1301 + 3 * t + 2)) := by
      rw [e2, nI_clamp (by omega)]
      have := hR.2.1.2 (1301 + 3 * t + 2) (by omega)
      rw [Nat.zero_add] at this
      exact this
    have g := h H (rs m' (up2 a' r_ended (2 * t + k) (nI (mkV H (1301 + 3 * t + 2))))) hQ ⟨_, _, rfl, ⟨fun j hj => (hR.1.1 j hj).trans (hS.1.1 j hj), hR.2.2.1⟩, fun j hj => ?_, ?_, fun y b hy hb => ?_⟩
    · rw [← nI_1] at g
      have g : pv_go rq_T57 3 (pv_call rq_mt (d + 3)) P (39, svL v x (nI t) [(4, .int (nI k + 1)), (5, .int (nI 3600))], [], rs m' (up2 a' r_ended ((2 : Int32) * nI t + nI k).toNatClampNeg (a' r_local ((1301 : Int32) + 3 * nI t + 2).toNatClampNeg).toInt8.toInt32)) := by
        rw [t2, by8 (mkV_lt _ _), e1, nI_clamp (by omega)]
        exact g
      refine pv_run [39] 50 ?_
      refine And.intro i2 ?_
      refine And.intro i1 ?_
      exact g
    · rw [up2_row (show ¬ j = 58 by omega), hR.1.2 j (by omega)]
      exact hS.2.1 j hj
    · rw [up2_row (show ¬ 56 = 58 by omega), hR.1.2 56 (by omega)]
      exact hS.2.2.1
    · show up2 a' r_ended (2 * t + k) (nI (mkV H (1301 + 3 * t + 2))) r_ended (2 * y + b) = nI (if y = t ∧ b = k then mkV H (1301 + 3 * t + 2) else ed y b) ∧ (if y = t ∧ b = k then mkV H (1301 + 3 * t + 2) else ed y b) < 4
      by_cases c : y = t ∧ b = k
      · rw [if_pos c, c.1, c.2, up2_eq]
        exact ⟨rfl, mkV_lt _ _⟩
      · rw [up2_no (fun u => c (by omega)), if_neg c, hR.1.2 58 (by omega)]
        exact hS.2.2.2 y b hy hb
  have walk : ∀ S', RW m a 57 0 [(1301 + 3 * t + 1, k)] [(1301 + 3 * t + 1, k)] S' → pv_call rq_mt (d + 3) rq_m_R_walk [.ref 0, .int x, .ref 40, .int (nI 0), .int (nI t)] S' (fun o S2 => o = none ∧ pv_go rq_T57 3 (pv_call rq_mt (d + 3)) P (121, svL v x (nI t) [(4, .int (nI k)), (5, .int (nI 3600))], [], S2)) := by
    intro S' hS'
    exact rc_walk d hga hena (come57 m a) x (nI t) (Or.inr ⟨t, ht, rfl⟩) _ vN hk hS' (fun H S2 hS2 hQ => ⟨rfl, aft H S2 hS2 (by rw [i5] at hQ; exact hQ)⟩)
  have aft1 : ∀ S', RW m a 57 0 [(1301 + 3 * t + 1, k)] [(1301 + 3 * t + 1, k)] S' → pv_go rq_T57 3 (pv_call rq_mt (d + 3)) P (110, svL v x (nI t) [(4, .int (nI k)), (5, .int (nI 3600))], [], S') := by
    intro S' hS'
    have w := walk S' hS'
    obtain ⟨m', a', rfl, hR⟩ := hS'
    refine pv_run [121] 30 ?_
    refine pv_call_cm _ _ _ _ _ _ _ ?_ w
    rintro o S2 ⟨rfl, g⟩
    exact g
  have call : pv_call rq_mt (d + 3) rq_m_R_come [.ref 0, .ref 40, .int (nI 0), .int ((1301 : Int32) + 3 * nI t + 1), .int (nI k)] (rs m a) (fun o S' => o = none ∧ pv_go rq_T57 3 (pv_call rq_mt (d + 3)) P (110, svL v x (nI t) [(4, .int (nI k)), (5, .int (nI 3600))], [], S')) := by
    rw [show (1301 : Int32) + 3 * nI t + 1 = nI (1301 + 3 * t + 1) from mul3k (k := 1)]
    refine rc_come_57 (d + 2) (by omega) hR0 ⟨List.nodup_nil, fun y hy => nomatch hy⟩ (Nat.le_refl _) (by omega) hk _ (fun S' hS' => ⟨rfl, aft1 S' ?_⟩)
    have e : cmF (1301 + 3 * t + 1) k ([], []) = ([(1301 + 3 * t + 1, k)], [(1301 + 3 * t + 1, k)]) := by
      unfold cmF
      rw [if_neg (fun u => nomatch u)]
    rw [e] at hS'
    exact hS'
  refine pv_run [110] 30 ?_
  refine pv_call_cm _ _ _ _ _ _ _ ?_ call
  rintro o S' ⟨rfl, g⟩
  exact g
end RW7
