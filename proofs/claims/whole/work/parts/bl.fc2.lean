/-! fact: both answers -/
theorem nI_or4 {x y : Nat} (hx : x < 4) (hy : y < 4) : nI x ||| nI y = nI (x ||| y) ∧ x ||| y < 4 ∧ ∀ z, z < 2 → ((x ||| y) / 2 ^ z % 2 = 1 ↔ (x / 2 ^ z % 2 = 1 ∨ y / 2 ^ z % 2 = 1)) := by
  have : ∀ x y : Fin 4, nI x.1 ||| nI y.1 = nI (x.1 ||| y.1) ∧ x.1 ||| y.1 < 4 ∧ ∀ z : Fin 2, ((x.1 ||| y.1) / 2 ^ z.1 % 2 = 1 ↔ (x.1 / 2 ^ z.1 % 2 = 1 ∨ y.1 / 2 ^ z.1 % 2 = 1)) := by decide +kernel
  have h := this ⟨x, hx⟩ ⟨y, hy⟩
  exact ⟨h.1, h.2.1, fun z hz => h.2.2 ⟨z, hz⟩⟩
section FC2
variable {a b : Nat → Nat → Int32} {V : Nat} {t : Std.Format} {f : Nat → Int64}
theorem st_two (hU : RU b V t) {v ln : Nat} {H : pL_T} (hv : v ≤ 12) (hF : ∀ p, p < 3600 → b r_seen (3600 * v + p) = nI (mkV H p)) (hn : ∀ j z, j < sp_z t → z < 2 → nodeEQ t (CB ln 0 f) H j z) {j : Nat} (hj : j < sp_z t) {k : Int32} (hk : k = 0 ∨ k = 1 ∨ ((k = 2 ∨ k = 3) ∧ ¬ stS (SO t j))) : ∃ n, n < 4 ∧ svR b v (ID t j) k = nI n ∧ ∀ z, z < 2 → ((n / 2 ^ z % 2 = 1 ↔ LB ln 0 (stF f j k) z) ∧ (n / 2 ^ z % 2 = 1 → ∃ q, (q, z) ∈ H)) := by
  have hN := hU.1.1.1
  have l := ID_lt hj
  have so := (RU_so hU hj).2
  have one : ∀ i, i < 5 → ∀ s : Int64, (∀ z, z < 2 → (LB ln 0 s z ↔ (5 * ID t j + i, z) ∈ H)) → ∃ n, n < 4 ∧ b r_seen (3600 * v + (5 * ID t j + i)) = nI n ∧ ∀ z, z < 2 → ((n / 2 ^ z % 2 = 1 ↔ LB ln 0 s z) ∧ (n / 2 ^ z % 2 = 1 → ∃ q, (q, z) ∈ H)) := by
    intro i hi s hs
    refine ⟨mkV H (5 * ID t j + i), mkV_lt _ _, hF _ (by omega), fun z hz => ⟨?_, fun u => ⟨_, (mkV_bit hz).mp u⟩⟩⟩
    rw [mkV_bit hz]
    exact (hs z hz).symm
  rcases hk with rfl | rfl | ⟨rfl | rfl, hs⟩
  · have e1 : svR b v (ID t j) 0 = b r_seen (3600 * v + (5 * ID t j + 0)) := by
      unfold svR
      rw [if_neg (fun u => absurd u.1 (by decide)), if_pos rfl]
    rw [e1]
    exact one 0 (by omega) _ (fun z hz => (hn j z hj hz).1)
  · by_cases hs : stS (SO t j)
    · rw [if_pos hs] at so
      have e1 : svR b v (ID t j) 1 = b r_seen (3600 * v + (5 * ID t j + 3)) := by
        unfold svR
        rw [if_neg (fun u => by rw [so] at u; exact absurd u.2 (by decide)), if_neg (by decide), if_pos rfl]
      have e2 : stF f j 1 = f (241 + j) ||| f (482 + j) := rfl
      rw [e1, e2]
      refine one 3 (by omega) _ (fun z hz => ?_)
      have g := (hn j z hj hz).2.2.1 hs
      rw [LB_or]
      exact ⟨fun u => u.elim g.1.mp (fun w => absurd w g.2), fun u => Or.inl (g.1.mpr u)⟩
    · rw [if_neg hs] at so
      have e1 : svR b v (ID t j) 1 = b r_seen (3600 * v + (5 * ID t j + 1)) ||| b r_seen (3600 * v + (5 * ID t j + 2)) := by
        unfold svR
        rw [if_pos ⟨rfl, so⟩]
      have e2 : stF f j 1 = f (241 + j) ||| f (482 + j) := rfl
      obtain ⟨x, hx, ex, gx⟩ := one 1 (by omega) (f (241 + j)) (fun z hz => ((hn j z hj hz).2.1 hs).1)
      obtain ⟨y, hy, ey, gy⟩ := one 2 (by omega) (f (482 + j)) (fun z hz => ((hn j z hj hz).2.1 hs).2)
      have o := nI_or4 hx hy
      refine ⟨x ||| y, o.2.1, by rw [e1, ex, ey, o.1], fun z hz => ⟨?_, fun u => ?_⟩⟩
      · rw [o.2.2 z hz, e2, LB_or, (gx z hz).1, (gy z hz).1]
      · exact ((o.2.2 z hz).mp u).elim (gx z hz).2 (gy z hz).2
  · have e1 : svR b v (ID t j) 2 = b r_seen (3600 * v + (5 * ID t j + 1)) := by
      unfold svR
      rw [if_neg (fun u => absurd u.1 (by decide)), if_neg (by decide), if_neg (by decide), if_pos rfl]
    rw [e1]
    exact one 1 (by omega) _ (fun z hz => ((hn j z hj hz).2.1 hs).1)
  · have e1 : svR b v (ID t j) 3 = b r_seen (3600 * v + (5 * ID t j + 2)) := by
      unfold svR
      rw [if_neg (fun u => absurd u.1 (by decide)), if_neg (by decide), if_neg (by decide), if_neg (by decide)]
    rw [e1]
    exact one 2 (by omega) _ (fun z hz => ((hn j z hj hz).2.1 hs).2)
/-- the class and the reference have read the same unit -/
def SameU (a b : Nat → Nat → Int32) (V : Nat) (t : Std.Format) (f : Nat → Int64) : Prop := TT V t ∧ CUP a V t f ∧ RU b V t ∧ RSeen V t (b r_seen)
theorem sv_v (h : SameU a b V t f) {v : Nat} (hv : v < V) {j : Nat} (hj : j < sp_z t) {k : Int32} (hk : k = 0 ∨ k = 1 ∨ ((k = 2 ∨ k = 3) ∧ ¬ stS (SO t j))) : two (svR b v (ID t j) k) (stF f j k) v := by
  obtain ⟨hT, hC, hU, hR⟩ := h
  have hN := hT.1.1
  obtain ⟨H, h1, h2, _⟩ := CUP_eq hT hC hR (show v < V + 1 by omega)
  rw [show lnV V v = v from if_neg (by omega)] at h2
  obtain ⟨n, g1, g2, g3⟩ := st_two hU (by omega) h1 h2 hj hk
  exact ⟨n, g1, g2, fun z hz => (g3 z hz).1⟩
theorem sv_r (h : SameU a b V t f) {j : Nat} (hj : j < sp_z t) {k : Int32} (hk : k = 0 ∨ k = 1 ∨ ((k = 2 ∨ k = 3) ∧ ¬ stS (SO t j))) : svR b V (ID t j) k = 0 ↔ ¬ rch (stF f j k) := by
  obtain ⟨hT, hC, hU, hR⟩ := h
  have hN := hT.1.1
  obtain ⟨H, h1, h2, _, h4⟩ := CUP_rch hT hC hR
  obtain ⟨n, g1, g2, g3⟩ := st_two hU (by omega) h1 h2 hj hk
  rw [rch_bit, ← (g3 0 (by omega)).1, g2]
  have n1 : ¬ n / 2 ^ 1 % 2 = 1 := fun u => by
    obtain ⟨q, hq⟩ := (g3 1 (by omega)).2 u
    exact absurd (h4 _ hq) (show ¬ (1 : Nat) = 0 by omega)
  have key : ∀ n : Fin 4, ¬ n.1 / 2 ^ 1 % 2 = 1 → (nI n.1 = 0 ↔ ¬ n.1 / 2 ^ 0 % 2 = 1) := by decide +kernel
  exact key ⟨n, g1⟩ n1
end FC2
