section PS4
variable {a b : Nat → Nat → Int32} {V : Nat} {t : Std.Format} {K : Nat → Nat} {Wf : wL_T} {on : Nat → Int32} {E : eL_T} {root : Int32} {fr to : Nat} {I : Nat → Prop} {M : Nat → Nat → Nat → Prop} {en : Nat → Nat → Nat} {v : Nat} {vr : Int32} {R : Nat → Nat → Prop}
theorem PS_clB (w : WC a b V t K Wf on E) (hZ : tZ t) (hg : RGE a b t K Wf root fr to I) (hM : MEq t fr to M en) (hR : clR E Wf on en vr I R) (hL : LN V v vr) {p : Nat} (hin : fr ≤ p ∧ p < to) : clB a (sp_z t) root M v (PsR t Wf root fr to R) p := by
  have hc := w.1.1
  have hr := w.1.2
  have hN := CU_N hc
  have hcl := rg_cl hc hg
  have hp : p < sp_z t := by omega
  have h0 := hL.2.1
  intro z hz
  refine ⟨fun h1 h2 h3 => ?_, fun h1 => ?_, fun h1 => ?_⟩
  · by_cases cs : stS (SO t p)
    · have he := (row_S hc hp cs).1.1
      rcases rg_par hc hg hin with ⟨e, -⟩ | ⟨q, e, hq⟩
      · rw [CU_ar hc hp, e] at h2
        exact absurd rfl h2
      · have ar := ar_k hc hp e
        have hqN : q < sp_z t := by have := PA_sub hp e; omega
        have hm := (KI_mem hqN hp).mp e
        rw [ar.2.1] at h3
        by_cases c84 : SO t q = 84
        · have := T_en hZ hqN c84 hm
          rw [he, this] at h1
          exact absurd rfl h1
        · have hqin : fr ≤ q ∧ q < to := hq.resolve_right (fun u => c84 u.2.1)
          have x := xI1 hqN hqin h3
          have c83 : SO t q = 83 := x.2.2.resolve_left (fun u => c84 u.1)
          obtain ⟨e', L, hK, g1, g2⟩ := ks_83 hc.1.2.1 hqN c83
          have e1 := first_kid hc hqN hK
          subst e1
          have me := kid_lt hr hqN (show q + 1 ∈ KI t q by rw [hK]; exact List.mem_cons_self)
          have hein := rg_kid hc hg hqin (show q + 1 ∈ KI t q by rw [hK]; exact List.mem_cons_self)
          have hpL : p ∈ L := by
            rw [hK] at hm
            rcases List.mem_cons.mp hm with rfl | hm
            · exact absurd cs g1
            · exact hm
          have mk : ¬ sp_en (CO t p) = 0 := fun u => h1 (by rw [he, u]; rfl)
          have lp := ID_lt hp
          intro _
          refine jB hN hp ?_
          rcases x.2.1 c83 with x1 | x1
          · exact Rk w hg hR h0 hqN me.1 hein (k := 1) (by omega) (by omega) hz (by rw [ow_83 hr hqN c83 hK g1 g2, bcJ_iff]; exact Or.inr (Or.inl (Or.inl ⟨p, hpL, mk, Or.inl rfl⟩))) x1
          · exact Rk w hg hR h0 hqN me.1 hein (k := 2) (by omega) (by omega) hz (by rw [ow_83 hr hqN c83 hK g1 g2, bcJ_iff]; exact Or.inr (Or.inl (Or.inl ⟨p, hpL, mk, Or.inr rfl⟩))) x1
    · exact absurd (row_E hc hp cs).1.1 h1
  · exact raiseP w hg hM hR h0 hp hin (Or.inl rfl) hz (xB1 hp hin h1)
  · exact PB_own w hg hM hR hL hp hin hz (xB1 hp hin h1)
theorem PS_clI (w : WC a b V t K Wf on E) (hg : RGE a b t K Wf root fr to I) (hM : MEq t fr to M en) (hR : clR E Wf on en vr I R) (h0 : ∀ z, bt 0 vr z = z) {p : Nat} (hin : fr ≤ p ∧ p < to) : clI a M (PsR t Wf root fr to R) p := by
  have hc := w.1.1
  have hr := w.1.2
  have hN := CU_N hc
  have hcl := rg_cl hc hg
  have hp : p < sp_z t := by omega
  intro z hz hx
  have x := xI1 hp hin hx
  have cs : stS (SO t p) := by
    rcases x.2.2 with c | c
    · rw [c.1]; unfold stS; omega
    · rw [c]; unfold stS; omega
  refine ⟨fun hf => ?_, fun hf hsk => ?_⟩
  · have c84 : SO t p = 84 := by
      apply Classical.byContradiction
      intro n
      exact hf ((row_S hc hp cs).1.2 n).2
    have cE := (T_cf hc hp c84).2.mp hf
    have hid := ID_st hc.1.2.2 hp cs
    have x1 := x.1 c84 cE
    have hin0 := ((w.2.2.2.1.1 p hp).1 cs).1 c84 cE
    obtain ⟨j, y1, y2, y3⟩ := way_at (show (p, 0) ∈ Wf from hin0)
    have hl := w.2.2.2.2.1
    rw [y3] at x1
    have e1 : dN (nI (2100 + j)) = 2100 + j := nI_clamp (by omega)
    rw [e1] at x1
    have hsu := (hR _ z hz x1 ((in_way hc hr w.2.2.1.1 hg y1 hl hp cs).mpr hin)).2 (p, 0) (by omega) (by rw [Nat.add_sub_cancel_left]; exact y1)
    rw [Nat.add_sub_cancel_left] at hsu
    refine ⟨N_in w hg hR h0 hp c84 cE hin hz hsu.1, fun b' hb' hm => ?_⟩
    have hen := (hM p hin.1 hin.2 c84 cE z b' hz hb').mp hm
    have hwo : on j = nI (5 * p + 3) := (w.2.2.2.1.2 j y2 _ y1).2
    have := hsu.2 b' hb' hen (by rw [hwo]; exact nI_ne_m1 (by omega))
    rw [hwo] at this
    have e2 : dN (nI (5 * p + 3)) = 5 * p + 3 := nI_clamp (by omega)
    rw [e2] at this
    exact fun _ => jT1 hN hp (fun _ => by rw [hid]; exact this) (fun u => absurd cs u)
  · have c83 : SO t p = 83 := by
      apply Classical.byContradiction
      intro n
      have := (row_S hc hp cs).2.1
      rw [if_neg n] at this
      exact hsk this
    have hfl : fLine (XI t p) := by
      have := (row_S hc hp cs).2.1
      rw [if_pos c83] at this
      rcases this with u | u
      · exact u.2
      · exact absurd u.1 hsk
    obtain ⟨e', L, hK, g1, g2⟩ := ks_83 hc.1.2.1 hp c83
    have e1 := first_kid hc hp hK
    subst e1
    have me := kid_lt hr hp (show p + 1 ∈ KI t p by rw [hK]; exact List.mem_cons_self)
    have hein := rg_kid hc hg hin (show p + 1 ∈ KI t p by rw [hK]; exact List.mem_cons_self)
    have lp := ID_lt hp
    refine fun _ => jT1 hN hp (fun _ => ?_) (fun u => absurd cs u)
    rcases x.2.1 c83 with x1 | x1
    · exact Rk w hg hR h0 hp me.1 hein (k := 1) (by omega) (by omega) hz (by rw [ow_83 hr hp c83 hK g1 g2]; exact Or.inl ⟨hfl, Or.inr rfl⟩) x1
    · exact Rk w hg hR h0 hp me.1 hein (k := 2) (by omega) (by omega) hz (by rw [ow_83 hr hp c83 hK g1 g2]; exact Or.inl ⟨hfl, Or.inl rfl⟩) x1
/-- along a list of statements -/
theorem seqP (w : WC a b V t K Wf on E) (hg : RGE a b t K Wf root fr to I) (hR : clR E Wf on en vr I R) (h0 : ∀ z, bt 0 vr z = z) {L : List Nat} {k p y : Nat} {s : Int32} (hk : L[k]? = some p) (hL : ∀ r ∈ L, r < sp_z t) (hin : fr ≤ p ∧ p < to) (cs : stS (SO t p)) (hE1 : ∀ x, chM (ID t) L y s x → x ∈ E) {z : Nat} (hz : z < 2) (h : R (5 * ID t p + 3) z) : (∀ r, L[k + 1]? = some r → R (5 * ID t r + 0) z) ∧ (L[k + 1]? = none → ¬ s = -1 → R (dN s) z) := by
  have hp := hL p (List.mem_of_getElem? hk)
  have hI := (in_node w.1.1 w.1.2 w.2.2.1.1 hg hp (k := 3) (by omega)).mpr hin
  refine ⟨fun r hr => ?_, fun hn ns => ?_⟩
  · have hrN := hL r (List.mem_of_getElem? hr)
    have := ID_lt hrN
    have hN := CU_N w.1.1
    have := stepR hR (hE1 (5 * ID t p + 3, nI (5 * ID t r + 0), 0) (by rw [chM_iff]; exact Or.inr (Or.inr (Or.inl ⟨k, p, r, ⟨hk, hr⟩, rfl⟩)))) (by omega) hz h hI
    rw [h0] at this
    exact this
  · have := (hR _ z hz h hI).1 _ _ (hE1 (5 * ID t p + 3, s, 0) (by rw [chM_iff]; exact Or.inr (Or.inr (Or.inr ⟨k, p, ⟨hk, hn⟩, rfl, ns⟩))))
    rw [h0] at this
    exact this
theorem PS_clO (w : WC a b V t K Wf on E) (hg : RGE a b t K Wf root fr to I) (hM : MEq t fr to M en) (hR : clR E Wf on en vr I R) (hL : LN V v vr) {p : Nat} (hin : fr ≤ p ∧ p < to) : clO a (sp_z t) root M v (PsR t Wf root fr to R) p := by
  have hc := w.1.1
  have hr := w.1.2
  have hN := CU_N hc
  have hW := hc.1.2.1
  have hcl := rg_cl hc hg
  have hp : p < sp_z t := by omega
  have h0 := hL.2.1
  have hI := PS_clI w hg hM hR h0 hin
  have lp := ID_lt hp
  rcases rg_par hc hg hin with ⟨e, hro⟩ | ⟨q, e, hq⟩
  · -- of the unit
    obtain ⟨k, hk⟩ := mem_get ((RT_mem hp).mp e)
    have cs := ks_root hW p (List.mem_of_getElem? hk)
    have hw := Wy_root hc hk
    have ha : a c_P_around p = -1 := by rw [CU_ar hc hp, e]; rfl
    refine ⟨hI, fun _ => ⟨fun _ z hz => ⟨fun x1 => ?_, fun x1 => absurd cs (xF1 hp hin x1).1⟩, fun u => absurd ha u⟩⟩
    have sq := seqP w hg hR h0 hk (fun r hr => ((scn_RT w.1.2).2.1 r hr).2) hin cs (y := 3599) (s := nI 1300) (fun x hx => (w.2.2.1.2 x).mpr (Or.inl hx)) hz ((xT1 hp hin x1).1 cs)
    rw [hw.1]
    cases e0 : (rtL t 0)[k + 1]? with
    | none =>
      have x2 := sq.2 e0 (nI_ne_m1 (by omega))
      have e1 : dN (nI 1300) = 1300 := nI_clamp (by omega)
      rw [e1] at x2
      exact (atP_n (k := 964) (by omega)).mpr (fun _ => jZ1 hN (fun _ => x2) (fun ρ hρ hρ2 => absurd (hro.symm.trans hρ2).symm (nI_ne_m1 (by omega))))
    | some r =>
      have hrN := ((scn_RT w.1.2).2.1 r (List.mem_of_getElem? e0)).2
      show atP _ (orV (r + 1) (nI 964)) z
      rw [orV_s]
      exact (atP_n (by omega)).mpr (fun _ => jB hN hrN (sq.1 r e0))
  · have hps := PA_sub hp e
    have hqN : q < sp_z t := by omega
    have hm := (KI_mem hqN hp).mp e
    have ar := ar_k hc hp e
    have lq := ID_lt hqN
    by_cases c84 : SO t q = 84
    · -- of a T
      have hst : stS (SO t q) := by rw [c84]; unfold stS; omega
      have hid := ID_st hc.1.2.2 hqN hst
      have cs := ks_84 hW hqN c84 p hm
      obtain ⟨u, x, y, eX, ⟨⟨l1, l2⟩, l3, ez⟩, -, -, -⟩ := W_T hc hqN c84
      have hEN := EN_le hqN
      have hl2 := lnkL_le _ _ _ l2
      have hl3 := lnkL_le _ _ _ l3
      obtain ⟨k1, k2, k3⟩ := W_Tk hc hqN c84 eX
      have own84 := fun x => ow_84 hr hqN c84 eX (T_pl hc hqN c84) (K (ID t q)) Wf [] x
      have qin : p < q + 1 + sp_z u + sp_z x → fr ≤ q ∧ q < to := fun hlt => by
        rcases hq with hq | ⟨q1, q2, q3, q4, q5⟩
        · exact hq
        · obtain ⟨u', x', y', e', e1, -⟩ := rg_T hc hqN q2 q3 q4 (by omega)
          rw [eX] at e'
          cases e'
          omega
      -- what is behind the first two parts
      have over : (fr ≤ q ∧ q < to) → ∀ z, (¬ (if hE t q then coW Wf 0 (.inr q) else nI (5 * q + 3)) = -1 → R (dN (if hE t q then coW Wf 0 (.inr q) else nI (5 * q + 3))) z) → atP (PsR t Wf root fr to R) (nI (eT t q)) z := by
        intro hqin z hx
        unfold eT
        by_cases cE : hE t q
        · rw [if_pos cE] at hx ⊢
          have hin0 := ((w.2.2.2.1.1 q hqN).1 hst).1 c84 cE
          obtain ⟨j, y1, y2, y3⟩ := way_at (show (q, 0) ∈ Wf from hin0)
          have hl := w.2.2.2.2.1
          have x2 := hx (by rw [y3]; exact nI_ne_m1 (by omega))
          exact (atP_n (by omega)).mpr (fun _ => jI1 hN hqN ⟨fun _ _ => x2, fun c => by omega, Or.inl ⟨c84, cE⟩⟩)
        · rw [if_neg cE] at hx ⊢
          have x2 := hx (nI_ne_m1 (by omega))
          have e1 : dN (nI (5 * q + 3)) = 5 * q + 3 := nI_clamp (by omega)
          rw [e1] at x2
          exact (atP_n (by omega)).mpr (fun _ => jT1 hN hqN (fun _ => by rw [hid]; exact x2) (fun u => absurd hst u))
      have hm : p ∈ rtL (XI t q) (q + 1) := hm
      rw [eX] at hm
      have hm : p ∈ rtL u (q + 1) ++ (rtL x (q + 1 + sp_z u) ++ rtL y (q + 1 + sp_z u + sp_z x)) := hm
      refine clO_mk hc hp e (by omega) (by omega) (by omega) hI (fun n9 z hz => ⟨fun x1 => ?_, fun x1 => absurd cs (xF1 hp hin x1).1⟩)
      have xA := (xT1 hp hin x1).1 cs
      rcases List.mem_append.mp hm with hm | hm
      · obtain ⟨k, hk⟩ := mem_get hm
        have hg1 := rt_in _ _ _ hm
        have hqin := qin (by omega)
        have lt : ∀ r ∈ rtL u (q + 1), r < sp_z t := fun r hr => by have := rt_in _ _ _ hr; omega
        have sq := seqP w hg hR h0 hk lt hin cs (fun z1 hz1 => E_own w hqN (by rw [own84]; exact Or.inr (Or.inr (Or.inl hz1)))) hz xA
        rw [(k1 k p hk).1]
        cases e0 : (rtL u (q + 1))[k + 1]? with
        | none => exact over hqin z (sq.2 e0)
        | some r =>
          have := lt r (List.mem_of_getElem? e0)
          show atP _ (orV (r + 1) (nI (eT t q))) z
          rw [orV_s]
          exact (atP_n (by omega)).mpr (fun _ => jB hN this (sq.1 r e0))
      · rcases List.mem_append.mp hm with hm | hm
        · obtain ⟨k, hk⟩ := mem_get hm
          have hg1 := rt_in _ _ _ hm
          have hqin := qin (by omega)
          have lt : ∀ r ∈ rtL x (q + 1 + sp_z u), r < sp_z t := fun r hr => by have := rt_in _ _ _ hr; omega
          -- K is there
          have cC : hC t q := by
            obtain ⟨u', x', y', e', -, -, ⟨htc, -⟩, -⟩ := W_T hc hqN c84
            rw [eX] at e'
            cases e'
            apply Classical.byContradiction
            intro n
            have n : ¬ sp_pl (CO t q) % 2 = 1 := n
            have := htc.2.1 (by omega)
            rw [this] at hm
            exact (nomatch hm)
          have sq := seqP w hg hR h0 hk lt hin cs (fun z1 hz1 => E_own w hqN (by rw [own84]; exact Or.inr (Or.inl ⟨cC, hz1⟩))) hz xA
          rw [(k2 k p hk).1]
          cases e0 : (rtL x (q + 1 + sp_z u))[k + 1]? with
          | none => exact over hqin z (sq.2 e0)
          | some r =>
            have := lt r (List.mem_of_getElem? e0)
            show atP _ (orV (r + 1) (nI (eT t q))) z
            rw [orV_s]
            exact (atP_n (by omega)).mpr (fun _ => jB hN this (sq.1 r e0))
        · obtain ⟨k, hk⟩ := mem_get hm
          have hg1 := rt_in _ _ _ hm
          have lt : ∀ r ∈ rtL y (q + 1 + sp_z u + sp_z x), r < sp_z t := fun r hr => by have := rt_in _ _ _ hr; omega
          have cE : hE t q := by
            obtain ⟨u', x', y', e', -, -, ⟨htc, -⟩, -⟩ := W_T hc hqN c84
            rw [eX] at e'
            cases e'
            apply Classical.byContradiction
            intro n
            have n : ¬ sp_pl (CO t q) / 2 = 1 := n
            have h3 := htc.1
            have := htc.2.2 (by omega)
            rw [this] at hm
            exact (nomatch hm)
          have sq := seqP w hg hR h0 hk lt hin cs (fun z1 hz1 => E_own w hqN (by rw [own84]; exact Or.inl ⟨cE, hz1⟩)) hz xA
          have kt := (k3 k p hk).1
          rw [kt]
          cases e0 : (rtL y (q + 1 + sp_z u + sp_z x))[k + 1]? with
          | none =>
            rw [e0] at kt
            have kt : a c_Y_trueTo p = nI 964 := kt
            have har : a c_P_around p = root := by
              apply Classical.byContradiction
              intro n
              exact n9 ⟨kt, n⟩
            have x2 := sq.2 e0 (nI_ne_m1 (by omega))
            have e1 : dN (nI (1301 + 3 * q + 2)) = 1301 + 3 * q + 2 := nI_clamp (by omega)
            rw [e1] at x2
            refine (atP_n (k := 964) (by omega)).mpr (fun _ => jZ1 hN (fun hr1 => ?_) (fun ρ hρ hρ2 => ?_))
            · rw [ar.1, hr1] at har
              exact absurd har (nI_ne_m1 (by omega))
            · rw [ar.1, hρ2, nI_eq (by omega) (by omega)] at har
              rw [← har]; exact x2
          | some r =>
            have := lt r (List.mem_of_getElem? e0)
            show atP _ (orV (r + 1) (nI 964)) z
            rw [orV_s]
            exact (atP_n (by omega)).mpr (fun _ => jB hN this (sq.1 r e0))
    · have hqin : fr ≤ q ∧ q < to := hq.resolve_right (fun u => c84 u.2.1)
      by_cases cq : stS (SO t q)
      · have c' := cq
        unfold stS at c'
        rcases c' with c' | c' | c' | c' | c' | c' | c' | c' | c' | c' | c' | c' | c' | c' | c'
        · rw [ks_0 hW hqN (by omega)] at hm; exact (nomatch hm)
        · rw [ks_0 hW hqN (by omega)] at hm; exact (nomatch hm)
        · -- {
          obtain ⟨k, hk⟩ := mem_get hm
          have cs := ks_123 hW hqN c' p hm
          have hw := W_all hc hqN c84 hk
          rw [c'] at hw
          have e1 : a c_Y_trueTo p = orV (nx0 (KI t q)[k + 1]?) (nI (241 + q)) := congrArg Prod.fst hw
          refine clO_mk hc hp e (by omega) (by omega) (by omega) hI (fun _ z hz => ⟨fun x1 => ?_, fun x1 => absurd cs (xF1 hp hin x1).1⟩)
          have sq := seqP w hg hR h0 hk (fun r hr1 => (kid_lt hr hqN hr1).1) hin cs (fun z1 hz1 => E_own w hqN (by rw [ow_123 hr hqN c']; exact Or.inl hz1)) hz ((xT1 hp hin x1).1 cs)
          rw [e1]
          cases e0 : (KI t q)[k + 1]? with
          | none =>
            have x2 := sq.2 e0 (nI_ne_m1 (by omega))
            have e2 : dN (nI (5 * ID t q + 3)) = 5 * ID t q + 3 := nI_clamp (by omega)
            rw [e2] at x2
            exact (atP_n (by omega)).mpr (fun _ => jT1 hN hqN (fun _ => x2) (fun u => absurd cq u))
          | some r =>
            have mr := kid_lt hr hqN (List.mem_of_getElem? e0)
            show atP _ (orV (r + 1) (nI (241 + q))) z
            rw [orV_s]
            exact (atP_n (by omega)).mpr (fun _ => jB hN mr.1 (sq.1 r e0))
        · obtain ⟨s, hK, g⟩ := ks_58 hW hqN c'
          have := po_58 w hg hR h0 hqN c' hK g
          rw [hK] at hm
          rw [List.mem_singleton.mp hm] at hin hp e hI ⊢
          exact clO_mk hc hp e (by omega) (by omega) (by omega) hI (fun _ => this hin)
        · obtain ⟨s, hK, g⟩ := ks_59 hW hqN c'
          have := po_59 w hg hR h0 hqN c' hK g
          rw [hK] at hm
          rw [List.mem_singleton.mp hm] at hin hp e hI ⊢
          exact clO_mk hc hp e (by omega) (by omega) (by omega) hI (fun _ => this hin)
        · rcases ks_73 hW hqN c' with ⟨e', s, hK, g1, g2⟩ | ⟨e', s, s2, hK, g1, g2, g3⟩
          · have := po_73 w hg hR h0 hqN c' hK g1 g2
            rw [hK] at hm
            refine clO_mk hc hp e (by omega) (by omega) (by omega) hI (fun _ => ?_)
            rcases List.mem_cons.mp hm with rfl | hm
            · exact this.1 hin
            · rw [List.mem_singleton.mp hm] at hin ⊢; exact this.2 hin
          · have := po_73b w hg hR h0 hqN c' hK g1 g2 g3
            rw [hK] at hm
            refine clO_mk hc hp e (by omega) (by omega) (by omega) hI (fun _ => ?_)
            rcases List.mem_cons.mp hm with rfl | hm
            · exact this.1 hin
            · rcases List.mem_cons.mp hm with rfl | hm
              · exact this.2.1 hin
              · rw [List.mem_singleton.mp hm] at hin ⊢; exact this.2.2 hin
        · obtain ⟨e', s, hK, g1, g2⟩ := ks_87 hW hqN c'
          have := po_87 w hg hR h0 hqN c' hK g1 g2
          rw [hK] at hm
          refine clO_mk hc hp e (by omega) (by omega) (by omega) hI (fun _ => ?_)
          rcases List.mem_cons.mp hm with rfl | hm
          · exact this.1 hin
          · rw [List.mem_singleton.mp hm] at hin ⊢; exact this.2 hin
        · obtain ⟨s, e', hK, g1, g2⟩ := ks_68 hW hqN c'
          have := po_68 w hg hR h0 hqN c' hK g1 g2
          rw [hK] at hm
          refine clO_mk hc hp e (by omega) (by omega) (by omega) hI (fun _ => ?_)
          rcases List.mem_cons.mp hm with rfl | hm
          · exact this.1 hin
          · rw [List.mem_singleton.mp hm] at hin ⊢; exact this.2 hin
        · obtain ⟨e', f, s, hK, ⟨g1, g2⟩, g3⟩ := ks_70 hW hqN c'
          have := po_70 w hg hR h0 hqN c' hK g1 g2 g3
          rw [hK] at hm
          refine clO_mk hc hp e (by omega) (by omega) (by omega) hI (fun _ => ?_)
          rcases List.mem_cons.mp hm with rfl | hm
          · exact this.1 hin
          · rcases List.mem_cons.mp hm with rfl | hm
            · exact this.2.1 hin
            · rw [List.mem_singleton.mp hm] at hin ⊢; exact this.2.2 hin
        · -- S
          obtain ⟨e', L, hK, g1, g2⟩ := ks_83 hW hqN c'
          have ef := first_kid hc hqN hK
          obtain ⟨k, hk⟩ := mem_get hm
          have hw := W_all hc hqN c84 hk
          rw [c'] at hw
          refine clO_mk hc hp e (by omega) (by omega) (by omega) hI (fun _ z hz => ?_)
          cases k with
          | zero =>
            rw [hK] at hk
            have hk : some e' = some p := hk
            cases hk
            have e1 : a c_Y_trueTo p = nI (723 + q) := congrArg Prod.fst hw
            have e2 : a c_Y_falseTo p = nI (723 + q) := congrArg Prod.snd hw
            rw [e1, e2]
            refine ⟨fun x1 => (atP_n (by omega)).mpr (fun _ => jI1 hN hqN ⟨fun c => by omega, fun _ => Or.inl ?_, Or.inr c'⟩), fun x1 => (atP_n (by omega)).mpr (fun _ => jI1 hN hqN ⟨fun c => by omega, fun _ => Or.inr ?_, Or.inr c'⟩)⟩
            · rw [← ef]; exact (xT1 hp hin x1).2 g1
            · rw [← ef]; exact (xF1 hp hin x1).2
          | succ k =>
            have e1 : a c_Y_trueTo p = orV (nx0 (KI t q)[k + 1 + 1]?) (nI (241 + q)) := congrArg Prod.fst hw
            rw [hK] at hk e1
            have hk : L[k]? = some p := hk
            have e1 : a c_Y_trueTo p = orV (nx0 L[k + 1]?) (nI (241 + q)) := e1
            have cs := g2 p (List.mem_of_getElem? hk)
            refine ⟨fun x1 => ?_, fun x1 => absurd cs (xF1 hp hin x1).1⟩
            have xA := (xT1 hp hin x1).1 cs
            rw [e1]
            cases e0 : L[k + 1]? with
            | none =>
              have x2 := Rk w hg hR h0 hqN hp hin (k := 3) (s := 5 * ID t q + 3) (by omega) (by omega) hz (by rw [ow_83 hr hqN c' hK g1 g2, bcJ_iff]; exact Or.inr (Or.inl (Or.inr (Or.inr (Or.inr ⟨k, p, ⟨hk, e0⟩, rfl⟩))))) xA
              exact (atP_n (by omega)).mpr (fun _ => jT1 hN hqN (fun _ => x2) (fun u => absurd cq u))
            | some r =>
              have mr := kid_lt hr hqN (show r ∈ KI t q by rw [hK]; exact List.mem_cons_of_mem _ (List.mem_of_getElem? e0))
              have x2 := Rk w hg hR h0 hqN hp hin (k := 3) (s := 5 * ID t r + 0) (by omega) (by omega) hz (by rw [ow_83 hr hqN c' hK g1 g2, bcJ_iff]; exact Or.inr (Or.inl (Or.inr (Or.inr (Or.inl ⟨k, p, r, ⟨hk, e0⟩, rfl⟩))))) xA
              show atP _ (orV (r + 1) (nI (241 + q))) z
              rw [orV_s]
              exact (atP_n (by omega)).mpr (fun _ => jB hN mr.1 x2)
        · exact absurd c' c84
        · rw [ks_0 hW hqN (by omega)] at hm; exact (nomatch hm)
        · rw [ks_0 hW hqN (by omega)] at hm; exact (nomatch hm)
        · -- R
          rcases ks_RX hW hqN (Or.inl c') with hK | ⟨e', hK, g⟩
          · rw [hK] at hm; exact (nomatch hm)
          · rw [hK] at hm
            have hpe := List.mem_singleton.mp hm
            subst hpe
            refine ⟨hI, fun _ => ⟨fun u => absurd u ar.2.2, fun _ z hz => ?_⟩⟩
            rw [ar.2.1, if_neg (show ¬ a c_P_sort q = 61 from so_ne hc hqN (s := 61) (by decide) (by omega)), if_pos (show a c_P_sort q = 82 from (CU_is hc hqN (s := 82) (by decide)).mpr c')]
            intro x1
            have fin : ∀ k, (k = 1 ∨ k = 2) → R (5 * ID t p + k) z → lvp a (sp_z t) root M (PsR t Wf root fr to R) (fun _ => True) (-1) 0 q z := fun k hk x2 => by
              have key := leaveP w hg hM hR h0 hqN hqin (Or.inr (Or.inr (Or.inl c'))) hp hin (k := k) (by omega) hz x2 (fun n => by
                rw [(ow_lv hr hqN (by omega) _ Wf [] _).2 p hK g]
                rcases hk with rfl | rfl
                · exact Or.inr (Or.inl ⟨rfl, n⟩)
                · exact Or.inl ⟨rfl, n⟩)
              rw [(cd_eq w hqN).1 c'] at key
              exact lvq_mono (fun _ _ q => q) (fun _ _ _ => trivial) 20 _ _ _ hz key
            rcases x1 with x1 | x1
            · exact fin 1 (Or.inl rfl) ((xT1 hp hin x1).2 g)
            · exact fin 2 (Or.inr rfl) (xF1 hp hin x1).2
        · -- X
          rcases ks_RX hW hqN (Or.inr c') with hK | ⟨e', hK, g⟩
          · rw [hK] at hm; exact (nomatch hm)
          · rw [hK] at hm
            have hpe := List.mem_singleton.mp hm
            subst hpe
            refine ⟨hI, fun _ => ⟨fun u => absurd u ar.2.2, fun _ z hz => ?_⟩⟩
            rw [ar.2.1, if_neg (show ¬ a c_P_sort q = 61 from so_ne hc hqN (s := 61) (by decide) (by omega)), if_neg (show ¬ a c_P_sort q = 82 from so_ne hc hqN (s := 82) (by decide) (by omega)), if_pos (show a c_P_sort q = 88 from (CU_is hc hqN (s := 88) (by decide)).mpr c')]
            intro x1
            have fin : ∀ k, (k = 1 ∨ k = 2) → R (5 * ID t p + k) z → lvp a (sp_z t) root M (PsR t Wf root fr to R) (fun _ => True) (-1) 1 q z := fun k hk x2 => by
              have key := leaveP w hg hM hR h0 hqN hqin (Or.inr (Or.inr (Or.inr c'))) hp hin (k := k) (by omega) hz x2 (fun n => by
                rw [(ow_lv hr hqN (by omega) _ Wf [] _).2 p hK g]
                rcases hk with rfl | rfl
                · exact Or.inr (Or.inl ⟨rfl, n⟩)
                · exact Or.inl ⟨rfl, n⟩)
              rw [(cd_eq w hqN).2.1 c'] at key
              exact lvq_mono (fun _ _ q => q) (fun _ _ _ => trivial) 20 _ _ _ hz key
            rcases x1 with x1 | x1
            · exact fin 1 (Or.inl rfl) ((xT1 hp hin x1).2 g)
            · exact fin 2 (Or.inr rfl) (xF1 hp hin x1).2
      · rcases ks_e hW hqN cq with (⟨c1, x1, y1, z1, hK, g1, g2, g3⟩ | ⟨c1, x1, y1, hK, g1, g2⟩) | ⟨c1, x1, hK, g1⟩ | ⟨c1, hK⟩
        · have := po_63 w hg hR h0 hqN c1 hK g1 g2 g3
          rw [hK] at hm
          refine clO_mk hc hp e (by omega) (by omega) (by omega) hI (fun _ => ?_)
          rcases List.mem_cons.mp hm with rfl | hm
          · exact this.1 hin
          · rcases List.mem_cons.mp hm with rfl | hm
            · exact this.2.1 hin
            · rw [List.mem_singleton.mp hm] at hin ⊢; exact this.2.2 hin
        · rcases c1 with c1 | c1
          · have := po_124 w hg hR h0 hqN c1 hK g1 g2
            rw [hK] at hm
            refine clO_mk hc hp e (by omega) (by omega) (by omega) hI (fun _ => ?_)
            rcases List.mem_cons.mp hm with rfl | hm
            · exact this.1 hin
            · rw [List.mem_singleton.mp hm] at hin ⊢; exact this.2 hin
          · have := po_38 w hg hR h0 hqN c1 hK g1 g2
            rw [hK] at hm
            refine clO_mk hc hp e (by omega) (by omega) (by omega) hI (fun _ => ?_)
            rcases List.mem_cons.mp hm with rfl | hm
            · exact this.1 hin
            · rw [List.mem_singleton.mp hm] at hin ⊢; exact this.2 hin
        · rcases c1 with c1 | c1
          · have := po_33 w hg hR h0 hqN c1 hK g1
            rw [hK] at hm
            rw [List.mem_singleton.mp hm] at hin hp e hI ⊢
            exact clO_mk hc hp e (by omega) (by omega) (by omega) hI (fun _ => this hin)
          · -- =
            rw [hK] at hm
            have hpe := List.mem_singleton.mp hm
            subst hpe
            have hk : (KI t q)[0]? = some p := by rw [hK]; rfl
            have hw := W_all hc hqN c84 hk
            rw [c1, hK] at hw
            have e1 : a c_Y_trueTo p = nI (241 + q) := congrArg Prod.fst hw
            have e2 : a c_Y_falseTo p = nI (482 + q) := congrArg Prod.snd hw
            have hv := row_V hc hqN (Or.inr (Or.inr (Or.inl c1)))
            refine ⟨hI, fun _ => ⟨fun u => absurd u ar.2.2, fun _ z hz => ?_⟩⟩
            rw [ar.2.1, if_pos (show a c_P_sort q = 61 from (CU_is hc hqN (s := 61) (by decide)).mpr c1), hv.1.2, e1, e2]
            have hz2 : (if VR t q = v then 1 else z) < 2 := by split <;> omega
            have hIq := fun k (hk : k < 5) => (in_node hc hr w.2.2.1.1 hg hqN hk).mpr hqin
            refine ⟨fun x1 => ?_, fun x1 => ?_⟩
            · have x2 := Rk w hg hR h0 hqN hp hin (k := 1) (s := 5 * ID t q + 3) (by omega) (by omega) hz (by rw [ow_61 hr hqN c1 hK g1]; exact Or.inr (Or.inr (Or.inr (Or.inl rfl)))) ((xT1 hp hin x1).2 g1)
              have he : (5 * ID t q + 3, nI (5 * ID t q + 1), 1 + nI (VR t q)) ∈ E := E_own w hqN (by rw [ow_61 hr hqN c1 hK g1]; exact Or.inr (Or.inl rfl))
              have x3 := stepR hR he (by omega) hz x2 (hIq 3 (by omega))
              rw [hL.2.2.1 _ hv.2] at x3
              exact ⟨(atP_n (by omega)).mpr (fun _ => jT1 hN hqN (fun u => absurd u cq) (fun _ => x3)), raiseP w hg hM hR h0 hqN hqin (Or.inr ⟨c1, Or.inl rfl⟩) hz2 x3⟩
            · have x2 := Rk w hg hR h0 hqN hp hin (k := 2) (s := 5 * ID t q + 4) (by omega) (by omega) hz (by rw [ow_61 hr hqN c1 hK g1]; exact Or.inr (Or.inr (Or.inl rfl))) (xF1 hp hin x1).2
              have he : (5 * ID t q + 4, nI (5 * ID t q + 2), 1 + nI (VR t q)) ∈ E := E_own w hqN (by rw [ow_61 hr hqN c1 hK g1]; exact Or.inl rfl)
              have x3 := stepR hR he (by omega) hz x2 (hIq 4 (by omega))
              rw [hL.2.2.1 _ hv.2] at x3
              exact ⟨(atP_n (by omega)).mpr (fun _ => jF1 hN hqN cq x3), raiseP w hg hM hR h0 hqN hqin (Or.inr ⟨c1, Or.inr rfl⟩) hz2 x3⟩
        · rw [hK] at hm; exact (nomatch hm)
end PS4
