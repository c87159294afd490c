section RB17
set_option maxRecDepth 100000 in
theorem bd_16 (d : Nat) (m : Nat → Int32) (a : Nat → Nat → Int32) (P : pv_R) : ∀ (j k : Nat) (hd : Nat → Int32), k + j = 3600 → (∀ i, i < k → hd i = -1) → (∀ hd' : Nat → Int32, (∀ i, i < 3600 → hd' i = -1) → pv_go rq_T49 3 (pv_call rq_mt d) P (36, bdL 3600, [], rs m (upa a r_edgeHead hd'))) → pv_go rq_T49 3 (pv_call rq_mt d) P (16, bdL k, [], rs m (upa a r_edgeHead hd)) := by
  intro j
  induction j with
  | zero =>
    intro k hd hk hh h
    have e : k = 3600 := by omega
    subst e
    have g := h hd hh
    refine pv_run [36] 20 ?_
    exact And.intro (fun _ => g) (fun q => absurd (show (3600 : Int32) ≤ nI 3600 by decide) q)
  | succ j ih =>
    intro k hd hk hh h
    have nle : ¬ (3600 : Int32) ≤ nI k := by
      rw [show (3600 : Int32) = nI 3600 from rfl, nI_leI (by omega) (by omega)]
      omega
    have i1 : vp_in (nI k) 3600 := vp_in_nI (by omega) (by decide)
    have c1 : (nI k).toNatClampNeg = k := nI_clamp (by omega)
    have g := ih (k + 1) (upd hd k (-1)) (by omega) (fun i hi => by
      show (if i = k then _ else hd i) = _
      by_cases e : i = k
      · rw [if_pos e]
      · rw [if_neg e]; exact hh i (by omega)) h
    rw [← upa_up] at g
    refine pv_run [16] 20 ?_
    refine And.intro (fun q => absurd q nle) (fun _ => ?_)
    refine And.intro i1 ?_
    show pv_go rq_T49 3 (pv_call rq_mt d) P (16, [(0, .ref 0), (1, .int (nI k + 1))], [], rs m (up2 (upa a r_edgeHead hd) r_edgeHead (nI k).toNatClampNeg (-1)))
    rw [c1, nI_1]
    exact g
set_option maxRecDepth 100000 in
theorem rc_build (d : Nat) {m : Nat → Int32} {a : Nat → Nat → Int32} {N : Nat} {K : Nat → Nat} {G : wL_T → Prop} {okC : Nat → Prop} (hN : N ≤ 260) (hs : m r_nodes = nI N) (Q : (Nat → Nat → Int32) → Prop) (ho : ∀ P : pv_R, (∀ a0, Q a0 → P none (rs m a0)) → pv_call rq_mt (d + 5) rq_m_R_order [.ref 0] (rs m a) P) (hQ : ∀ a0, Q a0 → bdOK a0 N K ∧ gOK a0 N G okC) (P : pv_R)
    (h : ∀ (a0 : Nat → Nat → Int32) (on : Nat → Int32) (W : wL_T) (S : pv_S), Q a0 → (bdG a0 N K N 0 (cnF a0 N (-1) 0 3599 1300 []) []).2 <:+ W → G W → woI a0 N K on W W.length → RB (upd m r_start 3599) (upa a0 r_wayOn on) (bdG a0 N K N 0 (cnF a0 N (-1) 0 3599 1300 []) []).1 W S → P none S) : pv_call rq_mt (d + 6) rq_m_R_build [.ref 0] (rs m a) P := by
  refine pv_call_of rfl rfl rfl (pv_run [16] 40 ?_)
  refine ho _ (fun a0 hq => ?_)
  obtain ⟨hb, hG⟩ := hQ a0 hq
  have g36 : ∀ hd' : Nat → Int32, (∀ i, i < 3600 → hd' i = -1) → pv_go rq_T49 3 (pv_call rq_mt (d + 5)) P (36, bdL 3600, [], rs (upd (upd m r_edges 0) r_ways 0) (upa a0 r_edgeHead hd')) := by
    intro hd hh
    have m0n : (upd m r_start 3599) r_nodes = nI N := hs
    have R0 : RB (upd m r_start 3599) a0 [] [] (rs (upd (upd (upd m r_edges 0) r_ways 0) r_start 3599) (upa a0 r_edgeHead hd)) := by
      refine ⟨_, _, rfl, ⟨fun j hj => ?_, fun j hj => ?_⟩, ⟨rfl, fun x hx => ?_, trivial⟩, rfl, trivial⟩
      · show (if j = 51 then _ else if j = 55 then _ else if j = 50 then _ else m j) = (if j = 51 then _ else m j)
        by_cases e : j = 51
        · rw [if_pos e, if_pos e]
        · rw [if_neg e, if_neg e, if_neg (by omega), if_neg (by omega)]
      · rw [upa_ne _ _ (show ¬ j = 49 by omega)]
      · rw [upa_at]; exact hh x hx
    have hl := cnF_len a0 N (-1) 0 3599 1300 []
    have g58 : ∀ S', RB (upd m r_start 3599) a0 (cnF a0 N (-1) 0 3599 1300 []) [] S' → pv_go rq_T49 3 (pv_call rq_mt (d + 5)) P (58, bdL 0, [], S') := by
      intro S' hS'
      refine bd_58 d hN m0n hb hG P N 0 _ [] S' (by omega) hG.1 (by
        have : ([] : eL_T).length = 0 := rfl
        omega) hS' (fun S2 hS2 hG2 => ?_)
      have hg := h a0
      generalize bdG a0 N K N 0 (cnF a0 N (-1) 0 3599 1300 []) [] = r at *
      have R2 : RB (upd m r_start 3599) (upa a0 r_wayOn (a0 r_wayOn)) r.1 r.2 S2 := by rw [upa_same]; exact hS2
      have g := bd_160 d hN m0n hb hG (E := r.1) P 1500 0 (a0 r_wayOn) r.2 r.2 S2 (by omega) (by omega) (List.suffix_refl _) hG2 (fun i hi => by omega) R2 (fun on' W' S3 h1 h2 h3 h4 => hg on' W' S3 hq h1 h2 h3 h4)
      obtain ⟨m2, a2, rfl, hR2⟩ := hS2
      refine pv_run [160] 10 ?_
      exact g
    refine pv_run [58] 40 ?_
    refine rc_chain (f := 3599) (d + 2) hN m0n hb.1 R0 (by
        have : ([] : eL_T).length = 0 := rfl
        omega) (by omega) (-1) 0 1300 _ (fun S1 hS1 => ?_)
    exact g58 S1 hS1
  have g16 := bd_16 (d + 5) (upd (upd m r_edges 0) r_ways 0) a0 P 3600 0 (a0 r_edgeHead) (by omega) (fun i hi => by omega) g36
  rw [upa_same] at g16
  exact g16
end RB17
