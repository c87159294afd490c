/-! the reference's walk: H the pairs (point, bit) come to, the newest first; L those that wait -/
abbrev pL_T : Type := List (Nat × Nat)
def mkV (H : pL_T) (p : Nat) : Nat := (if (p, 0) ∈ H then 1 else 0) + (if (p, 1) ∈ H then 2 else 0)
def rowP (a : Nat → Nat → Int32) : pL_T → Prop
  | [] => True
  | (p, b) :: r => a r_pile r.length = nI (2 * p + b) ∧ rowP a r
theorem rowP_c {a a' : Nat → Nat → Int32} : ∀ (L : pL_T), (∀ i, i < L.length → a' r_pile i = a r_pile i) → rowP a L → rowP a' L
  | [], _, _ => trivial
  | (p, b) :: r, h, hr => ⟨(h r.length (Nat.lt_succ_self _)).trans hr.1, rowP_c r (fun i hi => h i (Nat.lt_succ_of_lt hi)) hr.2⟩
def hOK (H : pL_T) : Prop := H.Nodup ∧ ∀ x ∈ H, x.1 < 3600 ∧ x.2 < 2
theorem hOK_len {H : pL_T} (h : hOK H) : H.length ≤ 7200 := by
  have h1 : (H.map (fun x => 2 * x.1 + x.2)).Nodup := by
    refine List.Pairwise.map _ ?_ (List.Pairwise.and_mem.mp h.1)
    rintro x y ⟨hx, hy, hne⟩ e
    have b1 := h.2 x hx
    have b2 := h.2 y hy
    have e : 2 * x.1 + x.2 = 2 * y.1 + y.2 := e
    exact hne (Prod.ext (by omega) (by omega))
  have h2 := List.Nodup.length_le_of_subset (l₂ := List.range 7200) h1 (fun z hz => by
    obtain ⟨x, hx, rfl⟩ := List.mem_map.mp hz
    have b1 := h.2 x hx
    exact List.mem_range.mpr (by omega))
  rw [List.length_map, List.length_range] at h2
  exact h2
abbrev RWc (m0 : Nat → Int32) (a0 : Nat → Nat → Int32) (r base : Nat) (H L : pL_T) (m : Nat → Int32) (a : Nat → Nat → Int32) : Prop :=
  ((∀ j, ¬ j = 60 → m j = m0 j) ∧ (∀ j, ¬ (j = 59 ∨ j = r) → a j = a0 j)) ∧ ((∀ i, ¬ (base ≤ i ∧ i < base + 3600) → a r i = a0 r i) ∧ (∀ p, p < 3600 → a r (base + p) = nI (mkV H p))) ∧ (m r_piled = nI L.length ∧ rowP a L)
def RW (m0 : Nat → Int32) (a0 : Nat → Nat → Int32) (r base : Nat) (H L : pL_T) (S : pv_S) : Prop := ∃ m a, S = rs m a ∧ RWc m0 a0 r base H L m a
def cmF (p b : Nat) (z : pL_T × pL_T) : pL_T × pL_T := if (p, b) ∈ z.1 then z else ((p, b) :: z.1, (p, b) :: z.2)
theorem mkV_sh (H : pL_T) {p b : Nat} (hb : b < 2) : (nI (mkV H p) >>> (nI b &&& 31) &&& 1 = 0) ↔ ¬ (p, b) ∈ H := by
  have key : ∀ v b : Nat, v < 4 → b < 2 → ((nI v >>> (nI b &&& 31) &&& 1 = 0) ↔ v / 2 ^ b % 2 = 0) := by
    intro v b hv hb
    have : ∀ v : Fin 4, ∀ b : Fin 2, ((nI v.1 >>> (nI b.1 &&& 31) &&& 1 = 0) ↔ v.1 / 2 ^ b.1 % 2 = 0) := by decide
    exact this ⟨v, hv⟩ ⟨b, hb⟩
  have hv : mkV H p < 4 := by unfold mkV; split <;> split <;> omega
  rw [key _ _ hv hb]
  unfold mkV
  match b, hb with
  | 0, _ =>
    by_cases h0 : (p, 0) ∈ H <;> by_cases h1 : (p, 1) ∈ H <;> simp [h0, h1]
  | 1, _ =>
    by_cases h0 : (p, 0) ∈ H <;> by_cases h1 : (p, 1) ∈ H <;> simp [h0, h1]
theorem mkV_or (H : pL_T) {p b : Nat} (hb : b < 2) (hn : ¬ (p, b) ∈ H) : (nI (mkV H p) ||| (1 : Int32) <<< (nI b &&& 31)).toInt8.toInt32.toInt8.toInt32 = nI (mkV ((p, b) :: H) p) := by
  have key : ∀ v b : Nat, v < 4 → b < 2 → v / 2 ^ b % 2 = 0 → (nI v ||| (1 : Int32) <<< (nI b &&& 31)).toInt8.toInt32.toInt8.toInt32 = nI (v + 2 ^ b) := by
    intro v b hv hb
    have : ∀ v : Fin 4, ∀ b : Fin 2, v.1 / 2 ^ b.1 % 2 = 0 → (nI v.1 ||| (1 : Int32) <<< (nI b.1 &&& 31)).toInt8.toInt32.toInt8.toInt32 = nI (v.1 + 2 ^ b.1) := by decide
    exact this ⟨v, hv⟩ ⟨b, hb⟩
  have hv : mkV H p < 4 := by unfold mkV; split <;> split <;> omega
  have e : mkV ((p, b) :: H) p = mkV H p + 2 ^ b ∧ mkV H p / 2 ^ b % 2 = 0 := by
    unfold mkV
    match b, hb, hn with
    | 0, _, hn =>
      by_cases h1 : (p, 1) ∈ H <;> simp [hn, h1]
    | 1, _, hn =>
      by_cases h0 : (p, 0) ∈ H <;> simp [hn, h0]
  rw [key _ _ hv hb e.2, e.1]
theorem mkV_ne (H : pL_T) {p b q : Nat} (h : ¬ q = p) : mkV ((p, b) :: H) q = mkV H q := by
  unfold mkV
  have e : ∀ c, ((q, c) ∈ (p, b) :: H) ↔ (q, c) ∈ H := by
    intro c
    rw [List.mem_cons]
    exact ⟨fun u => u.elim (fun e => absurd (congrArg Prod.fst e) h) id, Or.inr⟩
  by_cases h0 : (q, 0) ∈ H <;> by_cases h1 : (q, 1) ∈ H <;> simp [h0, h1, h]
theorem mul2p {p b : Nat} : (2 : Int32) * nI p + nI b = nI (2 * p + b) := by
  have := mul2 (q := p) (k := b)
  rw [Int32.add_comm, this, Nat.add_comm]

section RW1_56
variable {m0 : Nat → Int32} {a0 : Nat → Nat → Int32}
set_option maxRecDepth 100000 in
theorem rc_come_56 (d : Nat) {base : Nat} (hbs : base + 3600 ≤ 46800) {H L : pL_T} {S : pv_S} (hS : RW m0 a0 56 base H L S) (hH : hOK H) (hL : L.length ≤ H.length) {p b : Nat} (hp : p < 3600) (hb : b < 2) (P : pv_R) (h : ∀ S', RW m0 a0 56 base (cmF p b (H, L)).1 (cmF p b (H, L)).2 S' → P none S') : pv_call rq_mt (d + 1) rq_m_R_come [.ref 0, .ref 39, .int (nI base), .int (nI p), .int (nI b)] S P := by
  obtain ⟨m, a, rfl, hR⟩ := hS
  have hl := hOK_len hH
  have e1 : nI base + nI p = nI (base + p) := nI_add _ _
  have i1 : vp_in (nI base + nI p) 46800 := by rw [e1]; exact vp_in_nI (by omega) (by decide)
  have c1 : (nI base + nI p).toNatClampNeg = base + p := by rw [e1]; exact nI_clamp (by omega)
  have ev : a 56 (nI base + nI p).toNatClampNeg = nI (mkV H p) := by rw [c1]; exact hR.2.1.2 p hp
  have i2 : vp_in (m r_piled) 7300 := by rw [hR.2.2.1]; exact vp_in_nI (by omega) (by decide)
  have c2 : (m r_piled).toNatClampNeg = L.length := by rw [hR.2.2.1]; exact nI_clamp (by omega)
  unfold cmF at h
  refine pv_call_of rfl rfl rfl (pv_run [] 60 ?_)
  refine And.intro i1 ?_
  refine And.intro (fun z => ?_) (fun z => ?_)
  · have z : a 56 (nI base + nI p).toNatClampNeg >>> (nI b &&& 31) &&& 1 = 0 := z
    rw [ev, mkV_sh H hb] at z
    rw [if_neg z] at h
    refine And.intro i1 ?_
    refine And.intro i1 ?_
    refine And.intro i2 ?_
    have g := h (rs (upd m r_piled (nI (L.length + 1))) (up2 (up2 a 56 (base + p) (nI (mkV ((p, b) :: H) p))) r_pile L.length (nI (2 * p + b)))) ⟨_, _, rfl, ⟨fun j hj => ?_, fun j hj => ?_⟩, ⟨fun i hi => ?_, fun q hq => ?_⟩, ?_, ?_, ?_⟩
    · have g : P none (rs (upd m r_piled (m r_piled + 1)) (up2 (up2 a 56 (nI base + nI p).toNatClampNeg ((a 56 (nI base + nI p).toNatClampNeg ||| (1 : Int32) <<< (nI b &&& 31)).toInt8.toInt32.toInt8.toInt32)) r_pile (m r_piled).toNatClampNeg ((2 : Int32) * nI p + nI b))) := by
        rw [ev, mkV_or H hb z, c1, c2, hR.2.2.1, nI_1, mul2p]
        exact g
      exact g
    · show (if j = 60 then _ else m j) = _
      rw [if_neg hj]; exact hR.1.1 j hj
    · rw [up2_row (show ¬ j = 59 by omega), up2_row (show ¬ j = 56 by omega)]; exact hR.1.2 j hj
    · rw [up2_row (show ¬ 56 = 59 by omega), up2_no (fun u => hi (by omega))]; exact hR.2.1.1 i hi
    · rw [up2_row (show ¬ 56 = 59 by omega)]
      by_cases e : q = p
      · rw [e, up2_eq]
      · rw [up2_no (fun u => e (by omega)), mkV_ne H e]; exact hR.2.1.2 q hq
    · rfl
    · exact up2_eq _ _ _ _
    · refine rowP_c L (fun i hi => ?_) hR.2.2.2
      rw [up2_no (fun u => by omega), up2_row (by decide)]
  · have z : ¬ a 56 (nI base + nI p).toNatClampNeg >>> (nI b &&& 31) &&& 1 = 0 := z
    rw [ev, mkV_sh H hb] at z
    rw [if_pos (Classical.byContradiction z)] at h
    exact h _ ⟨m, a, rfl, hR⟩
end RW1_56

section RW1_57
variable {m0 : Nat → Int32} {a0 : Nat → Nat → Int32}
set_option maxRecDepth 100000 in
theorem rc_come_57 (d : Nat) {base : Nat} (hbs : base + 3600 ≤ 3600) {H L : pL_T} {S : pv_S} (hS : RW m0 a0 57 base H L S) (hH : hOK H) (hL : L.length ≤ H.length) {p b : Nat} (hp : p < 3600) (hb : b < 2) (P : pv_R) (h : ∀ S', RW m0 a0 57 base (cmF p b (H, L)).1 (cmF p b (H, L)).2 S' → P none S') : pv_call rq_mt (d + 1) rq_m_R_come [.ref 0, .ref 40, .int (nI base), .int (nI p), .int (nI b)] S P := by
  obtain ⟨m, a, rfl, hR⟩ := hS
  have hl := hOK_len hH
  have e1 : nI base + nI p = nI (base + p) := nI_add _ _
  have i1 : vp_in (nI base + nI p) 3600 := by rw [e1]; exact vp_in_nI (by omega) (by decide)
  have c1 : (nI base + nI p).toNatClampNeg = base + p := by rw [e1]; exact nI_clamp (by omega)
  have ev : a 57 (nI base + nI p).toNatClampNeg = nI (mkV H p) := by rw [c1]; exact hR.2.1.2 p hp
  have i2 : vp_in (m r_piled) 7300 := by rw [hR.2.2.1]; exact vp_in_nI (by omega) (by decide)
  have c2 : (m r_piled).toNatClampNeg = L.length := by rw [hR.2.2.1]; exact nI_clamp (by omega)
  unfold cmF at h
  refine pv_call_of rfl rfl rfl (pv_run [] 60 ?_)
  refine And.intro i1 ?_
  refine And.intro (fun z => ?_) (fun z => ?_)
  · have z : a 57 (nI base + nI p).toNatClampNeg >>> (nI b &&& 31) &&& 1 = 0 := z
    rw [ev, mkV_sh H hb] at z
    rw [if_neg z] at h
    refine And.intro i1 ?_
    refine And.intro i1 ?_
    refine And.intro i2 ?_
    have g := h (rs (upd m r_piled (nI (L.length + 1))) (up2 (up2 a 57 (base + p) (nI (mkV ((p, b) :: H) p))) r_pile L.length (nI (2 * p + b)))) ⟨_, _, rfl, ⟨fun j hj => ?_, fun j hj => ?_⟩, ⟨fun i hi => ?_, fun q hq => ?_⟩, ?_, ?_, ?_⟩
    · have g : P none (rs (upd m r_piled (m r_piled + 1)) (up2 (up2 a 57 (nI base + nI p).toNatClampNeg ((a 57 (nI base + nI p).toNatClampNeg ||| (1 : Int32) <<< (nI b &&& 31)).toInt8.toInt32.toInt8.toInt32)) r_pile (m r_piled).toNatClampNeg ((2 : Int32) * nI p + nI b))) := by
        rw [ev, mkV_or H hb z, c1, c2, hR.2.2.1, nI_1, mul2p]
        exact g
      exact g
    · show (if j = 60 then _ else m j) = _
      rw [if_neg hj]; exact hR.1.1 j hj
    · rw [up2_row (show ¬ j = 59 by omega), up2_row (show ¬ j = 57 by omega)]; exact hR.1.2 j hj
    · rw [up2_row (show ¬ 57 = 59 by omega), up2_no (fun u => hi (by omega))]; exact hR.2.1.1 i hi
    · rw [up2_row (show ¬ 57 = 59 by omega)]
      by_cases e : q = p
      · rw [e, up2_eq]
      · rw [up2_no (fun u => e (by omega)), mkV_ne H e]; exact hR.2.1.2 q hq
    · rfl
    · exact up2_eq _ _ _ _
    · refine rowP_c L (fun i hi => ?_) hR.2.2.2
      rw [up2_no (fun u => by omega), up2_row (by decide)]
  · have z : ¬ a 57 (nI base + nI p).toNatClampNeg >>> (nI b &&& 31) &&& 1 = 0 := z
    rw [ev, mkV_sh H hb] at z
    rw [if_pos (Classical.byContradiction z)] at h
    exact h _ ⟨m, a, rfl, hR⟩
end RW1_57
