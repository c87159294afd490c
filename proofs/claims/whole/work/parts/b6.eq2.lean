/-! what the N's make, and the walk of the unit -/
theorem mkV_bit {H : pL_T} {p z : Nat} (hz : z < 2) : mkV H p / 2 ^ z % 2 = 1 ↔ (p, z) ∈ H := by
  unfold mkV
  obtain rfl | rfl : z = 0 ∨ z = 1 := by omega
  · by_cases h0 : (p, 0) ∈ H
    · by_cases h1 : (p, 1) ∈ H
      · rw [if_pos h0, if_pos h1]; exact ⟨fun _ => h0, fun _ => rfl⟩
      · rw [if_pos h0, if_neg h1]; exact ⟨fun _ => h0, fun _ => rfl⟩
    · by_cases h1 : (p, 1) ∈ H
      · rw [if_neg h0, if_pos h1]; exact ⟨fun u => absurd u (by decide), fun u => absurd u h0⟩
      · rw [if_neg h0, if_neg h1]; exact ⟨fun u => absurd u (by decide), fun u => absurd u h0⟩
  · by_cases h0 : (p, 0) ∈ H
    · by_cases h1 : (p, 1) ∈ H
      · rw [if_pos h0, if_pos h1]; exact ⟨fun _ => h1, fun _ => rfl⟩
      · rw [if_pos h0, if_neg h1]; exact ⟨fun u => absurd u (by decide), fun u => absurd u h1⟩
    · by_cases h1 : (p, 1) ∈ H
      · rw [if_neg h0, if_pos h1]; exact ⟨fun _ => h1, fun _ => rfl⟩
      · rw [if_neg h0, if_neg h1]; exact ⟨fun u => absurd u (by decide), fun u => absurd u h1⟩
theorem LB_u {v z : Nat} (hv : v < 13) (hz : z < 2) : LB v 0 8191 z ↔ z = 0 := by
  have : ∀ (v : Fin 13) (z : Fin 2), tb 8191 (lb v.1 0 z.1) = true ↔ z.1 = 0 := by decide +kernel
  exact this ⟨v, hv⟩ ⟨z, hz⟩
theorem LB_n {v b0 z : Nat} (hv : v < 13) (hb : b0 < 2) (hz : z < 2) : LB v b0 2305561534236991487 z ↔ z = b0 := by
  have : ∀ (v : Fin 13) (b z : Fin 2), tb 2305561534236991487 (lb v.1 b.1 z.1) = true ↔ z.1 = b.1 := by decide +kernel
  exact this ⟨v, hv⟩ ⟨b0, hb⟩ ⟨z, hz⟩
theorem LN_v {V v : Nat} (hV : V ≤ 12) (hv : v < V) : LN V v (nI v) := by
  have h1 : ∀ (v : Fin 13), ¬ (0 : Int32) = 1 + nI v.1 ∧ ¬ (0 : Int32) = 20 + nI v.1 := by decide +kernel
  have h2 : ∀ (k v : Fin 13), ((1 + nI k.1 : Int32) = 1 + nI v.1 ↔ k.1 = v.1) ∧ ¬ (1 + nI k.1 : Int32) = 20 + nI v.1 ∧ ¬ (20 + nI k.1 : Int32) = 1 + nI v.1 ∧ ((20 + nI k.1 : Int32) = 20 + nI v.1 ↔ k.1 = v.1) := by decide +kernel
  refine ⟨by omega, fun b => ?_, fun k hk b => ?_, fun k hk b => ?_⟩
  · have := h1 ⟨v, by omega⟩
    unfold bt
    rw [if_neg this.1, if_neg this.2]
  · have := h2 ⟨k, by omega⟩ ⟨v, by omega⟩
    unfold bt
    by_cases e : k = v
    · rw [if_pos (this.1.2 e), if_pos e]
    · rw [if_neg (fun u => e (this.1.1 u)), if_neg this.2.1, if_neg e]
  · have := h2 ⟨k, by omega⟩ ⟨v, by omega⟩
    unfold bt
    by_cases e : k = v
    · rw [if_neg this.2.2.1, if_pos (this.2.2.2.2 e), if_pos e]
    · rw [if_neg this.2.2.1, if_neg (fun u => e (this.2.2.2.1 u)), if_neg e]
theorem LN_100 {V : Nat} (hV : V ≤ 12) : LN V 12 100 := by
  have h1 : ¬ (0 : Int32) = 1 + 100 ∧ ¬ (0 : Int32) = 20 + 100 := by decide +kernel
  have h2 : ∀ (k : Fin 13), (¬ (1 + nI k.1 : Int32) = 1 + 100 ∧ ¬ (1 + nI k.1 : Int32) = 20 + 100) ∧ (¬ (20 + nI k.1 : Int32) = 1 + 100 ∧ ¬ (20 + nI k.1 : Int32) = 20 + 100) := by decide +kernel
  refine ⟨by omega, fun b => ?_, fun k hk b => ?_, fun k hk b => ?_⟩
  · unfold bt
    rw [if_neg h1.1, if_neg h1.2]
  · have := h2 ⟨k, by omega⟩
    unfold bt
    rw [if_neg this.1.1, if_neg this.1.2, if_neg (by omega)]
  · have := h2 ⟨k, by omega⟩
    unfold bt
    rw [if_neg this.2.1, if_neg this.2.2, if_neg (by omega)]
/-- the class's lane of the reference's VARIABLE v -/
abbrev lnV (V v : Nat) : Nat := if v = V then 12 else v
theorem LN_wh {V v : Nat} (hV : V ≤ 12) (hv : v < V + 1) : LN V (lnV V v) (whV V v) ∧ lnV V v < 13 := by
  unfold lnV whV
  by_cases e : v = V
  · rw [if_pos e, if_pos e]; exact ⟨LN_100 hV, by omega⟩
  · rw [if_neg e, if_neg e]; exact ⟨LN_v hV (by omega), by omega⟩
/-- what the N's from T0 on make -/
def fmQ (a : Nat → Nat → Int32) (N T0 : Nat) (fm : Nat → Int64) : Prop :=
  ∀ T, T0 ≤ T → T < N → ¬ a c_P_finallyFrom T = -1 → ∃ fm0 f0, fm T = (wkF a N (nI T) fm0 (dN (a c_P_finallyFrom T)) (dN (a c_P_end T)) 2305561534236991487 f0).2 964 ∧ ∀ x, T < x → fm0 x = fm x
theorem wuL_fm {a : Nat → Nat → Int32} {N : Nat} : ∀ (t : Nat) (fm : Nat → Int64) (G : GF), fmQ a N t fm → fmQ a N 0 (wuL a N t fm G).1
  | 0, fm, G, h => h
  | t + 1, fm, G, h => by
    unfold wuL
    by_cases c : a c_P_finallyFrom t = -1
    · rw [if_pos c]
      refine wuL_fm t fm G (fun T h1 h2 h3 => ?_)
      by_cases e : T = t
      · exact absurd (by rw [e]; exact c) h3
      · exact h T (by omega) h2 h3
    · rw [if_neg c]
      refine wuL_fm t _ _ (fun T h1 h2 h3 => ?_)
      by_cases e : T = t
      · subst e
        refine ⟨fm, G.2, ?_, fun x hx => ?_⟩
        · unfold vp_updL; rw [if_pos rfl]
        · unfold vp_updL; rw [if_neg (by omega)]
      · obtain ⟨fm0, f0, e1, e2⟩ := h T (by omega) h2 h3
        refine ⟨fm0, f0, ?_, fun x hx => ?_⟩
        · unfold vp_updL; rw [if_neg (by omega)]; exact e1
        · unfold vp_updL; rw [if_neg (by omega)]; exact e2 x hx
section EQ2
variable {a b : Nat → Nat → Int32} {V : Nat} {t : Std.Format} {K : Nat → Nat} {Wf : wL_T} {on : Nat → Int32} {E : eL_T} {fm : Nat → Int64}
/-- what the N of a T makes, both sides -/
theorem sum_eq (w : WC a b V t K Wf on E) (hZ : tZ t) {v : Nat} (hv : v < 13) {vr : Int32} (hL : LN V v vr) (hf : fmQ a (sp_z t) 0 fm) {ed : Nat → Nat → Nat} (hq : sumQ E Wf on vr b K (sp_z t) 0 ed) : ∀ (n T : Nat), sp_z t < T + n → T < sp_z t → SO t T = 84 → hE t T → ∀ c c', c < 2 → c' < 2 → (MM v fm T c c' ↔ ed T c / 2 ^ c' % 2 = 1)
  | 0, T, h1, h2, _, _, _, _, _, _ => by omega
  | n + 1, T, h1, h2, h3, h4, c, c', hc, hc' => by
    have hN := w.1.1.1.1.1
    obtain ⟨x, y, z, _, hln, _, ht, _⟩ := W_T w.1.1 h2 h3
    have hff := ht.2.2
    rw [if_pos h4] at hff
    have hen := (CU_end w.1.1 h2).2
    obtain ⟨fm0, f0, e1, e2⟩ := hf T (by omega) h2 ((T_cf w.1.1 h2 h3).2.2 h4)
    have hfr : T + 1 + sp_z x + sp_z y < 300 := by have := EN_le (t := t) h2; omega
    rw [hff, hen, show dN (nI (T + 1 + sp_z x + sp_z y)) = T + 1 + sp_z x + sp_z y from nI_clamp (by omega)] at e1
    have hid : ID t T = T := ID_st w.1.1.1.2.2 h2 (by rw [h3]; decide)
    have rs := (RU_so w.1.2 h2).1
    rw [hid, h3] at rs
    have hE1 : ¬ b r_hasEnd T = 0 := by
      have := ((RU_S w.1.2 h2 (by rw [h3]; decide)).2.2.1 h3).2
      rw [this, h4]
      decide
    obtain ⟨H, ed0, q1, q2, q3⟩ := hq T (by omega) h2 rs hE1 c hc
    have hg : RGE a b t K Wf (nI T) (T + 1 + sp_z x + sp_z y) (EN t T) (inP b K Wf (nI T)) := Or.inr ⟨T, h2, ⟨h3, h4⟩, rfl, ⟨hff, hfr⟩, rfl, fun p => inP_t (by omega)⟩
    have cl := rg_cl w.1.1 hg
    have hM : MEq t (T + 1 + sp_z x + sp_z y) (EN t T) (MM v fm0) ed0 := by
      intro T' g1 g2 g3 g4 k k' hk hk'
      have := sum_eq w hZ hv hL hf hq n T' (by omega) (by omega) g3 g4 k k' hk hk'
      unfold MM at this ⊢
      rw [e2 T' (by omega), q3 T' (by omega)]
      exact this
    have hle : leastC a (sp_z t) (nI T) fm0 (T + 1 + sp_z x + sp_z y) (EN t T) 2305561534236991487 (wkF a (sp_z t) (nI T) fm0 (T + 1 + sp_z x + sp_z y) (EN t T) 2305561534236991487 f0).2 := wkF_main (by omega) (CU_swR w.1.1) cl.1.1 cl.1.2 (by decide) (CU_cov w.1.1 cl.1.2 cl.2)
    have r := ((walk_eq w hZ hg hM hL hc hle (fun z hz => LB_n hv hc hz) (Or.inr ⟨T, h2, rfl, rfl⟩) q1).2 c' hc').2 T h2 rfl
    rw [q2, mkV_bit hc', ← r]
    unfold MM CB
    rw [e1]
/-- the walk of the unit, both sides -/
theorem unit_eq (w : WC a b V t K Wf on E) (hZ : tZ t) {v : Nat} (hv : v < V + 1) (hf : fmQ a (sp_z t) 0 fm) {F : Nat → Int32} (hq : seenQ E Wf on b K (sp_z t) V F (V + 1)) (f0 : Nat → Int64) : ∃ H : pL_T, (∀ p, p < 3600 → F (3600 * v + p) = nI (mkV H p)) ∧ (∀ j z, j < sp_z t → z < 2 → nodeEQ t (CB (lnV V v) 0 (wkF a (sp_z t) (-1) fm 0 (sp_z t) 8191 f0).2) H j z) ∧ (∀ z, z < 2 → (CB (lnV V v) 0 (wkF a (sp_z t) (-1) fm 0 (sp_z t) 8191 f0).2 964 z ↔ (1300, z) ∈ H)) := by
  have hN := w.1.1.1.1
  obtain ⟨ed, H, s1, s2, s3⟩ := hq v hv
  have hL := LN_wh hN.2 hv
  have hg : RGE a b t K Wf (-1) 0 (sp_z t) (inP b K Wf (-1)) := Or.inl ⟨rfl, rfl, rfl, fun p => Or.inl rfl⟩
  have cl := rg_cl w.1.1 hg
  have hM : MEq t 0 (sp_z t) (MM (lnV V v) fm) ed := fun T _ g2 g3 g4 k k' hk hk' => sum_eq w hZ hL.2 hL.1 hf s1 (sp_z t + 1) T (by omega) g2 g3 g4 k k' hk hk'
  have hle : leastC a (sp_z t) (-1) fm 0 (sp_z t) 8191 (wkF a (sp_z t) (-1) fm 0 (sp_z t) 8191 f0).2 := wkF_main (by omega) (CU_swR w.1.1) cl.1.1 cl.1.2 (by decide) (CU_cov w.1.1 cl.1.2 cl.2)
  have r := walk_eq w hZ hg hM hL.1 (by omega) hle (fun z hz => LB_u hL.2 hz) (Or.inl ⟨rfl, rfl⟩) s2
  exact ⟨H, s3, fun j z hj hz => r.1 j z (by omega) hj hz, fun z hz => (r.2 z hz).1 rfl⟩
end EQ2
