/-! closed sets, by the sorts -/
theorem orV_s (r : Nat) (y : Int32) : orV (r + 1) y = nI r := by
  unfold orV
  rw [if_neg (by omega), oI_s]
section GO1
variable {a b : Nat → Nat → Int32} {V : Nat} {t : Std.Format} {N : Nat} {root : Int32} {M : Nat → Nat → Nat → Prop} {v : Nat} {Q : Nat → Nat → Prop}
theorem so_ne (h : CU a V t) {q : Nat} (hq : q < sp_z t) {s : Nat} (hs : s < 256) (n : ¬ SO t q = s) : ¬ a c_P_sort q = nI s := fun u => n ((CU_is h hq hs).mp u)
theorem ar_k (h : CU a V t) {p q : Nat} (hp : p < sp_z t) (e : PA t p = q + 1) : a c_P_around p = nI q ∧ dN (a c_P_around p) = q ∧ ¬ a c_P_around p = -1 := by
  have hN := CU_N h
  have := PA_le hp
  have e1 : a c_P_around p = nI q := by rw [CU_ar h hp, e, oI_s]
  refine ⟨e1, ?_, ?_⟩
  · rw [e1]; exact nI_clamp (by omega)
  · rw [e1]; exact nI_ne_m1 (by omega)
theorem clO_use (h : CU a V t) {p q : Nat} (hp : p < sp_z t) (e : PA t p = q + 1) (h61 : ¬ SO t q = 61) (h82 : ¬ SO t q = 82) (h88 : ¬ SO t q = 88) (hc : clO a (sp_z t) root M v Q p) (n9 : ¬ (a c_Y_trueTo p = 964 ∧ ¬ a c_P_around p = root)) {z : Nat} (hz : z < 2) : (Q (241 + p) z → atP Q (a c_Y_trueTo p) z) ∧ (Q (482 + p) z → atP Q (a c_Y_falseTo p) z) := by
  have hq : q < sp_z t := by have := PA_sub hp e; omega
  have ar := ar_k h hp e
  have h1 := (hc.2 n9).2 ar.2.2 z hz
  rw [ar.2.1] at h1
  have n61 : ¬ a c_P_sort q = 61 := so_ne h hq (s := 61) (by decide) h61
  have n82 : ¬ a c_P_sort q = 82 := so_ne h hq (s := 82) (by decide) h82
  have n88 : ¬ a c_P_sort q = 88 := so_ne h hq (s := 88) (by decide) h88
  rw [if_neg n61, if_neg n82, if_neg n88] at h1
  exact h1
theorem clO_mk (h : CU a V t) {p q : Nat} (hp : p < sp_z t) (e : PA t p = q + 1) (h61 : ¬ SO t q = 61) (h82 : ¬ SO t q = 82) (h88 : ¬ SO t q = 88) (hi : clI a M Q p) (h1 : ¬ (a c_Y_trueTo p = 964 ∧ ¬ a c_P_around p = root) → ∀ z, z < 2 → (Q (241 + p) z → atP Q (a c_Y_trueTo p) z) ∧ (Q (482 + p) z → atP Q (a c_Y_falseTo p) z)) : clO a (sp_z t) root M v Q p := by
  have hq : q < sp_z t := by have := PA_sub hp e; omega
  have ar := ar_k h hp e
  refine ⟨hi, fun n9 => ⟨fun u => absurd u ar.2.2, fun _ z hz => ?_⟩⟩
  rw [ar.2.1]
  have n61 : ¬ a c_P_sort q = 61 := so_ne h hq (s := 61) (by decide) h61
  have n82 : ¬ a c_P_sort q = 82 := so_ne h hq (s := 82) (by decide) h82
  have n88 : ¬ a c_P_sort q = 88 := so_ne h hq (s := 88) (by decide) h88
  rw [if_neg n61, if_neg n82, if_neg n88]
  exact h1 n9 z hz
/-- sorts whose begin is that of their first kid -/
def bgD (s : Nat) : Prop := ¬ s = 36 ∧ ¬ s = 37 ∧ ¬ s = 48 ∧ ¬ s = 49 ∧ ¬ s = 66 ∧ ¬ s = 67 ∧ ¬ s = 35 ∧ ¬ (97 ≤ s ∧ s ≤ 122) ∧ ¬ s = 82
theorem clS_d (h : CU a V t) {p : Nat} (hp : p < sp_z t) (hs : bgD (SO t p)) {z : Nat} : clS1 a (sp_z t) root M v Q p z ↔ atP Q (a c_Y_beginTo p) z := by
  obtain ⟨h1, h2, h3, h4, h5, h6, h7, h8, h9⟩ := hs
  have hl := SO_lt (t := t) p
  unfold clS1
  rw [if_neg (show ¬ a c_P_sort p = 36 from so_ne h hp (s := 36) (by decide) h1), if_neg (show ¬ a c_P_sort p = 37 from so_ne h hp (s := 37) (by decide) h2), if_neg (show ¬ a c_P_sort p = 48 from so_ne h hp (s := 48) (by decide) h3), if_neg (show ¬ a c_P_sort p = 49 from so_ne h hp (s := 49) (by decide) h4), if_neg (show ¬ a c_P_sort p = 66 from so_ne h hp (s := 66) (by decide) h5), if_neg (show ¬ a c_P_sort p = 67 from so_ne h hp (s := 67) (by decide) h6)]
  have n7 : ¬ (a c_P_sort p = 35 ∨ (97 ≤ a c_P_sort p ∧ a c_P_sort p ≤ 122)) := by
    rintro (u | u)
    · exact so_ne h hp (s := 35) (by decide) h7 u
    · rw [CU_sort h hp] at u
      have u1 := u.1
      have u2 := u.2
      rw [show (97 : Int32) = nI 97 from rfl, nI_leI (by omega) (by omega)] at u1
      rw [show (122 : Int32) = nI 122 from rfl, nI_leI (by omega) (by omega)] at u2
      exact h8 ⟨u1, u2⟩
  have n8 : ¬ (a c_P_sort p = 82 ∧ a c_Y_beginTo p = -1) := fun u => so_ne h hp (s := 82) (by decide) h9 u.1
  rw [if_neg n7, if_neg n8]
theorem bg_K (h : CU a V t) {p : Nat} (hp : p < sp_z t) (h66 : ¬ SO t p = 66) (h67 : ¬ SO t p = 67) (h84 : ¬ SO t p = 84) : a c_Y_beginTo p = (if SO t p = 123 then orV (nx0 (KI t p)[0]?) (nI (241 + p)) else oI (nx0 (KI t p)[0]?)) := by
  rw [(h.2.2 p hp).1.1]
  unfold bgV
  rw [if_neg (show ¬ a c_P_sort p = 66 from so_ne h hp (s := 66) (by decide) h66), if_neg (show ¬ a c_P_sort p = 67 from so_ne h hp (s := 67) (by decide) h67), if_neg (show ¬ a c_P_sort p = 84 from so_ne h hp (s := 84) (by decide) h84), chF_K h hp]
  by_cases c : SO t p = 123
  · rw [if_pos c, if_pos (show a c_P_sort p = 123 from (CU_is h hp (s := 123) (by decide)).mpr c)]
  · rw [if_neg c, if_neg (show ¬ a c_P_sort p = 123 from so_ne h hp (s := 123) (by decide) c)]
theorem not9 {x : Int32} {m : Nat} (hm : m < 964) (e : x = nI m) (r : Prop) : ¬ (x = 964 ∧ r) := by
  rintro ⟨u, -⟩
  rw [e, show (964 : Int32) = nI 964 from rfl, nI_eq (by omega) (by omega)] at u
  omega
end GO1
section GO2
variable {a b : Nat → Nat → Int32} {V : Nat} {t : Std.Format} {K : Nat → Nat} {Wf : wL_T} {on : Nat → Int32} {E : eL_T} {root : Int32} {fr to : Nat} {I : Nat → Prop} {M : Nat → Nat → Nat → Prop} {en : Nat → Nat → Nat} {v : Nat} {vr : Int32} {R C : Nat → Nat → Prop}
theorem Rk (w : WC a b V t K Wf on E) (hg : RGE a b t K Wf root fr to I) (hR : clR E Wf on en vr I R) (h0 : ∀ z, bt 0 vr z = z) {q p k s z : Nat} (hq : q < sp_z t) (hp : p < sp_z t) (hin : fr ≤ p ∧ p < to) (hk : k < 5) (hs : s < 10000) (hz : z < 2) (he : (5 * ID t p + k, nI s, (0 : Int32)) ∈ own b (sp_z t) (K (ID t q)) (ID t q) Wf []) (h : R (5 * ID t p + k) z) : R s z := by
  have := stepR hR (E_own w hq he) (by omega) hz h ((in_node w.1.1 w.1.2 w.2.2.1.1 hg hp hk).mpr hin)
  rw [h0] at this
  exact this
theorem xT1 {p z : Nat} (hp : p < sp_z t) (hin : fr ≤ p ∧ p < to) (h : PsR t Wf root fr to R (241 + p) z) : (stS (SO t p) → R (5 * ID t p + 3) z) ∧ (¬ stS (SO t p) → R (5 * ID t p + 1) z) := (h (Or.inr ⟨p, hin, Or.inr (Or.inl rfl)⟩)).1.2.1 p hp rfl
theorem xF1 {p z : Nat} (hp : p < sp_z t) (hin : fr ≤ p ∧ p < to) (h : PsR t Wf root fr to R (482 + p) z) : ¬ stS (SO t p) ∧ R (5 * ID t p + 2) z := (h (Or.inr ⟨p, hin, Or.inr (Or.inr (Or.inl rfl))⟩)).1.2.2 p hp rfl
theorem xB1 {p z : Nat} (hp : p < sp_z t) (hin : fr ≤ p ∧ p < to) (h : PsR t Wf root fr to R p z) : R (5 * ID t p + 0) z := (h (Or.inr ⟨p, hin, Or.inl rfl⟩)).1.1 p hp rfl
theorem xI1 {p z : Nat} (hp : p < sp_z t) (hin : fr ≤ p ∧ p < to) (h : PsR t Wf root fr to R (723 + p) z) : (SO t p = 84 → hE t p → R (dN (coW Wf 0 (.inr p))) z) ∧ (SO t p = 83 → R (5 * ID t (p + 1) + 1) z ∨ R (5 * ID t (p + 1) + 2) z) ∧ ((SO t p = 84 ∧ hE t p) ∨ SO t p = 83) := (h (Or.inr ⟨p, hin, Or.inr (Or.inr (Or.inr rfl))⟩)).2.1 p hp rfl
/-- a good edge: it takes what the class's set says along -/
def good (a : Nat → Nat → Int32) (t : Std.Format) (Wf : wL_T) (root : Int32) (fr to : Nat) (M : Nat → Nat → Nat → Prop) (C : Nat → Nat → Prop) (I : Nat → Prop) (vr : Int32) (x : Nat × Int32 × Int32) : Prop := ∀ z, z < 2 → I x.1 → Phi a t Wf root fr to M C x.1 z → I (dN x.2.1) → Phi a t Wf root fr to M C (dN x.2.1) (bt x.2.2 vr z)
theorem good_n {f s : Nat} (h0 : ∀ z, bt 0 vr z = z) (hs : s < 10000) (h : ∀ z, z < 2 → I f → Phi a t Wf root fr to M C f z → Phi a t Wf root fr to M C s z) : good a t Wf root fr to M C I vr (f, nI s, 0) := by
  intro z hz hI hP _
  show Phi a t Wf root fr to M C (nI s).toNatClampNeg (bt 0 vr z)
  rw [h0, nI_clamp (by omega)]
  exact h z hz hI hP
end GO2
