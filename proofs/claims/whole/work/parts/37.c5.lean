theorem thB_bit {th : Int32} {k : Nat} (hk : k < 12) : thB th k ↔ th.toBitVec.getLsbD k = true := by
  have e : (nI k &&& 31).toBitVec.smod 32 = BitVec.ofNat 32 k := by
    have : ∀ k : Fin 12, (nI k.1 &&& 31).toBitVec.smod 32 = BitVec.ofNat 32 k.1 := by decide +kernel
    exact this ⟨k, hk⟩
  have e2 : (BitVec.ofNat 32 k).toNat = k := by rw [BitVec.toNat_ofNat]; omega
  show (th >>> (nI k &&& 31)) &&& 1 = 1 ↔ _
  rw [← Int32.toBitVec_inj, Int32.toBitVec_and, Int32.toBitVec_shiftRight, e, BitVec.sshiftRight_eq', e2]
  constructor
  · intro h
    have h2 := congrArg (fun x => BitVec.getLsbD x 0) h
    have h3 : ((th.toBitVec.sshiftRight k) &&& (1 : Int32).toBitVec).getLsbD 0 = true := h2
    rw [BitVec.getLsbD_and, BitVec.getLsbD_sshiftRight, Bool.and_eq_true] at h3
    have h4 := h3.1
    rw [if_pos (by omega)] at h4
    have h5 : (!decide (32 ≤ 0) && th.toBitVec.getLsbD (k + 0)) = true := h4
    rw [Bool.and_eq_true] at h5
    exact h5.2
  · intro h
    apply BitVec.eq_of_getLsbD_eq
    intro i hi
    rw [BitVec.getLsbD_and]
    have e1 : (1 : Int32).toBitVec.getLsbD i = decide (i = 0) := by
      have : ∀ i : Fin 32, (1 : Int32).toBitVec.getLsbD i.1 = decide (i.1 = 0) := by decide +kernel
      exact this ⟨i, hi⟩
    rw [e1]
    cases i with
    | zero =>
      rw [BitVec.getLsbD_sshiftRight, if_pos (by omega)]
      show (!decide (32 ≤ 0) && th.toBitVec.getLsbD k && true) = true
      rw [h]; rfl
    | succ i => rw [show decide (i + 1 = 0) = false from rfl, Bool.and_false]
theorem bit_sh {v k : Nat} (hv : v < 12) (hk : k < 12) : ((1 : Int32) <<< (nI v &&& 31)).toBitVec.getLsbD k = decide (k = v) := by
  have : ∀ v k : Fin 12, ((1 : Int32) <<< (nI v.1 &&& 31)).toBitVec.getLsbD k.1 = decide (k.1 = v.1) := by decide +kernel
  exact this ⟨v, hv⟩ ⟨k, hk⟩
theorem thB_0 {k : Nat} (hk : k < 12) : ¬ thB 0 k := by
  rw [thB_bit hk]
  show ¬ (0#32).getLsbD k = true
  rw [BitVec.getLsbD_zero]; exact Bool.false_ne_true
theorem thB_or {th : Int32} {v k : Nat} (hv : v < 12) (hk : k < 12) : thB (th ||| (1 <<< (nI v &&& 31))) k ↔ (thB th k ∨ k = v) := by
  rw [thB_bit hk, thB_bit hk, Int32.toBitVec_or, BitVec.getLsbD_or, bit_sh hv hk, Bool.or_eq_true, decide_eq_true_eq]
theorem thOf_bit : ∀ (sc : sc_T), (∀ q ∈ sc, q.2 < 12) → ∀ w, w < 12 → (thB (thOf sc) w ↔ ∃ u, (u, w) ∈ sc)
  | [], _, w, hw => ⟨fun h => absurd h (thB_0 hw), fun ⟨_, h⟩ => absurd h (List.not_mem_nil)⟩
  | (u, v) :: r, h, w, hw => by
    have hv : v < 12 := h (u, v) (List.mem_cons_self)
    show thB (thOf r ||| (1 <<< (nI v &&& 31))) w ↔ _
    rw [thB_or hv hw, thOf_bit r (fun q hq => h q (List.mem_cons_of_mem _ hq)) w hw]
    constructor
    · rintro (⟨x, hx⟩ | e)
      · exact ⟨x, List.mem_cons_of_mem _ hx⟩
      · exact ⟨u, by rw [e]; exact List.mem_cons_self⟩
    · rintro ⟨x, hx⟩
      rcases List.mem_cons.mp hx with e | e
      · exact Or.inr (congrArg Prod.snd e)
      · exact Or.inl ⟨x, e⟩
def scC (a : Nat → Nat → Int32) (V : Nat) : sc_T → Prop
  | [] => True
  | (u, v) :: r => (a c_V_name v = nI (u + 97) ∧ v < V) ∧ scC a V r
theorem scC_mem {a : Nat → Nat → Int32} {V : Nat} : ∀ (sc : sc_T), scC a V sc → ∀ u v, (u, v) ∈ sc → a c_V_name v = nI (u + 97) ∧ v < V
  | [], _, _, _, h => absurd h (List.not_mem_nil)
  | (u0, v0) :: r, hc, u, v, h => by
    rcases List.mem_cons.mp h with e | e
    · cases e; exact hc.1
    · exact scC_mem r hc.2 u v e
theorem scC_mono {a a' : Nat → Nat → Int32} {V V' : Nat} (hV : V ≤ V') (h : ∀ v, v < V → a' c_V_name v = a c_V_name v) : ∀ (sc : sc_T), scC a V sc → scC a' V' sc
  | [], _ => trivial
  | (u0, v0) :: r, hc => ⟨⟨(h v0 hc.1.2).trans hc.1.1, Nat.lt_of_lt_of_le hc.1.2 hV⟩, scC_mono hV h r hc.2⟩
theorem scOK_mem : ∀ (sc : sc_T), scOK sc → ∀ u v, (u, v) ∈ sc → nmOf sc u = nI v ∧ u < 26 ∧ v < 12
  | [], _, _, _, h => absurd h (List.not_mem_nil)
  | (u0, v0) :: r, hc, u, v, h => by
    rcases List.mem_cons.mp h with e | e
    · cases e
      refine ⟨?_, hc.1.2⟩
      show (if u0 = u0 then nI v0 else nmOf r u0) = nI v0
      rw [if_pos rfl]
    · have i := scOK_mem r hc.2 u v e
      refine ⟨?_, i.2⟩
      show (if u = u0 then nI v0 else nmOf r u) = nI v
      by_cases q : u = u0
      · exfalso
        have hc1 := hc.1.1
        rw [← q, i.1] at hc1
        exact absurd hc1 (by
          have : ∀ v : Fin 12, ¬ nI v.1 = -1 := by decide +kernel
          exact this ⟨v, i.2.2⟩)
      · rw [if_neg q, i.1]
theorem nmOf_mem : ∀ (sc : sc_T) (u : Nat), nmOf sc u = -1 ∨ ∃ v, (u, v) ∈ sc ∧ nmOf sc u = nI v
  | [], _ => Or.inl rfl
  | (u0, v0) :: r, u => by
    by_cases q : u = u0
    · refine Or.inr ⟨v0, by rw [q]; exact List.mem_cons_self, ?_⟩
      show (if u = u0 then nI v0 else nmOf r u) = nI v0
      rw [if_pos q]
    · have e : nmOf ((u0, v0) :: r) u = nmOf r u := by
        show (if u = u0 then nI v0 else nmOf r u) = _
        rw [if_neg q]
      rcases nmOf_mem r u with i | ⟨v, i, j⟩
      · exact Or.inl (e.trans i)
      · exact Or.inr ⟨v, List.mem_cons_of_mem _ i, e.trans j⟩
theorem fnd_spec (a : Nat → Nat → Int32) (c th : Int32) : ∀ k v, (fnd a c th k v = -1 ∧ ∀ w, v ≤ w → w < v + k → ¬ (thB th w ∧ a c_V_name w = c)) ∨ ∃ w, (v ≤ w ∧ w < v + k) ∧ (thB th w ∧ a c_V_name w = c) ∧ fnd a c th k v = nI w
  | 0, v => Or.inl ⟨rfl, fun w h1 h2 => by omega⟩
  | k + 1, v => by
    have e : fnd a c th (k + 1) v = if thB th v ∧ a c_V_name v = c then nI v else fnd a c th k (v + 1) := rfl
    by_cases q : thB th v ∧ a c_V_name v = c
    · exact Or.inr ⟨v, ⟨Nat.le_refl _, by omega⟩, q, by rw [e, if_pos q]⟩
    · rw [if_neg q] at e
      rcases fnd_spec a c th k (v + 1) with ⟨i, j⟩ | ⟨w, i, j, z⟩
      · refine Or.inl ⟨e.trans i, fun w h1 h2 => ?_⟩
        by_cases hw : w = v
        · rw [hw]; exact q
        · exact j w (by omega) (by omega)
      · exact Or.inr ⟨w, by omega, j, e.trans z⟩
theorem fnd_sc {a : Nat → Nat → Int32} {V : Nat} {sc : sc_T} (hV : V ≤ 12) (ho : scOK sc) (hc : scC a V sc) {u : Nat} (hu : u < 26) : fnd a (nI (u + 97)) (thOf sc) V 0 = nmOf sc u := by
  have hs : ∀ q ∈ sc, q.2 < 12 := fun q hq => (scOK_mem sc ho q.1 q.2 hq).2.2
  rcases fnd_spec a (nI (u + 97)) (thOf sc) V 0 with ⟨i, j⟩ | ⟨w, i, j, z⟩
  · rcases nmOf_mem sc u with e | ⟨v, e, e2⟩
    · rw [i, e]
    · have q := scC_mem sc hc u v e
      exact absurd ⟨(thOf_bit sc hs v (by omega)).mpr ⟨u, e⟩, q.1⟩ (j v (Nat.zero_le _) (by omega))
  · obtain ⟨x, hx⟩ := (thOf_bit sc hs w (by omega)).mp j.1
    have q := scC_mem sc hc x w hx
    have q2 := scOK_mem sc ho x w hx
    have : x = u := by
      have := q.1.symm.trans j.2
      rw [nI_eq (by omega) (by omega)] at this
      omega
    rw [this] at q2
    rw [z, q2.1]
def cxC (a : Nat → Nat → Int32) (b : Nat) : cx_T → Prop
  | [] => True
  | (i, s, l) :: r => ((a c_R_placeAround r.length = nI i ∧ i < b) ∧ (a c_R_sortAround r.length = nI s ∧ s < 256) ∧ (a c_R_labelAround r.length = (if l = 0 then -1 else nI l) ∧ l < 256)) ∧ cxC a b r
theorem cxC_mono {a a' : Nat → Nat → Int32} {b b' : Nat} (hb : b ≤ b') : ∀ (cx : cx_T), (∀ j i, 16 ≤ j → j ≤ 18 → i < cx.length → a' j i = a j i) → cxC a b cx → cxC a' b' cx
  | [], _, _ => trivial
  | (i, s, l) :: r, h, hc => by
    have hl : r.length < ((i, s, l) :: r).length := Nat.lt_succ_self _
    refine ⟨⟨⟨(h 16 _ (by omega) (by omega) hl).trans hc.1.1.1, Nat.lt_of_lt_of_le hc.1.1.2 hb⟩, ⟨(h 17 _ (by omega) (by omega) hl).trans hc.1.2.1.1, hc.1.2.1.2⟩, (h 18 _ (by omega) (by omega) hl).trans hc.1.2.2.1, hc.1.2.2.2⟩, cxC_mono hb r (fun j i h1 h2 h3 => h j i h1 h2 (Nat.lt_succ_of_lt h3)) hc.2⟩
theorem lpI_nI {s : Nat} (hs : s < 256) : lpI (nI s) ↔ is_lp s := by
  show (nI s = nI 87 ∨ nI s = nI 68 ∨ nI s = nI 70) ↔ _
  rw [nI_eq (by omega) (by omega), nI_eq (by omega) (by omega), nI_eq (by omega) (by omega)]
theorem nI_ne_m1 {k : Nat} (hk : k < 2 ^ 31) : ¬ nI k = -1 := by
  intro e
  have := nI_pos hk
  rw [e] at this
  exact this (by decide)
theorem dlb_cx {a : Nat → Nat → Int32} {b L : Nat} (hL : L < 256) (hL0 : ¬ L = 0) : ∀ (cx : cx_T), cxC a b cx → cx.length ≤ 20 → (dlb a (nI L) cx.length = -1 ↔ ¬ cx_lab cx L)
  | [], _, _ => by
    constructor
    · intro _ h
      have h : cx_lb [] L = true := h
      exact Bool.false_ne_true h
    · intro _; rfl
  | (i, s, m) :: r, hc, hk => by
    have hk2 : r.length + 1 ≤ 20 := hk
    have e : dlb a (nI L) ((i, s, m) :: r).length = if a c_R_labelAround r.length = nI L then nI r.length else dlb a (nI L) r.length := rfl
    rw [e, cx_lab_cons, hc.1.2.2.1]
    have hm : (if m = 0 then (-1 : Int32) else nI m) = nI L ↔ m = L := by
      have hm := hc.1.2.2.2
      by_cases q : m = 0
      · rw [if_pos q]
        constructor
        · intro h; exact absurd h.symm (nI_ne_m1 (by omega))
        · intro h; omega
      · rw [if_neg q, nI_eq (by omega) (by omega)]
    by_cases q : m = L
    · rw [if_pos (hm.mpr q)]
      constructor
      · intro h; exact absurd h (nI_ne_m1 (by omega))
      · intro h; exact absurd (Or.inl q) h
    · rw [if_neg (fun h => q (hm.mp h)), dlb_cx hL hL0 r hc.2 (by omega)]
      constructor
      · rintro h (h2 | h2)
        · exact q h2
        · exact h h2
      · intro h h2; exact h (Or.inr h2)
theorem to_cx {a : Nat → Nat → Int32} {b L j : Nat} (hL : L < 256) (hL0 : ¬ L = 0) : ∀ (cx : cx_T) (w : Nat), cxC a b cx → cx.length ≤ 20 → ((cx.length < 20 ∧ lpI (a c_R_sortAround cx.length)) → 1 ≤ w ∧ a c_R_placeAround cx.length = nI (w - 1)) → (¬ (cx.length < 20 ∧ lpI (a c_R_sortAround cx.length)) → w = 0) → b ≤ 241 →
    (dlb a (nI L) cx.length = -1 ∧ cx_to j L w cx = 0) ∨ ∃ i, i < cx.length ∧ dlb a (nI L) cx.length = nI i ∧ (j = 66 → 1 ≤ cx_to j L w cx ∧ a c_R_placeAround i = nI (cx_to j L w cx - 1)) ∧ (¬ j = 66 → ((i + 1 < 20 ∧ lpI (a c_R_sortAround (i + 1))) → 1 ≤ cx_to j L w cx ∧ a c_R_placeAround (i + 1) = nI (cx_to j L w cx - 1)) ∧ (¬ (i + 1 < 20 ∧ lpI (a c_R_sortAround (i + 1))) → cx_to j L w cx = 0))
  | [], w, _, _, _, _, _ => Or.inl ⟨rfl, rfl⟩
  | (i, s, m) :: r, w, hc, hk, hw1, hw0, hb => by
    have hk2 : r.length + 1 ≤ 20 := hk
    have e : dlb a (nI L) ((i, s, m) :: r).length = if a c_R_labelAround r.length = nI L then nI r.length else dlb a (nI L) r.length := rfl
    have e2 : cx_to j L w ((i, s, m) :: r) = if m = L then (if j = 66 then i + 1 else w) else cx_to j L (if is_lp s then i + 1 else 0) r := rfl
    have hm : a c_R_labelAround r.length = nI L ↔ m = L := by
      have hm := hc.1.2.2.2
      rw [hc.1.2.2.1]
      by_cases q : m = 0
      · rw [if_pos q]
        constructor
        · intro h; exact absurd h.symm (nI_ne_m1 (by omega))
        · intro h; omega
      · rw [if_neg q, nI_eq (by omega) (by omega)]
    by_cases q : m = L
    · rw [if_pos (hm.mpr q)] at e
      rw [if_pos q] at e2
      refine Or.inr ⟨r.length, Nat.lt_succ_self _, e, fun hj => ?_, fun hj => ?_⟩
      · rw [e2, if_pos hj]
        exact ⟨by omega, hc.1.1.1⟩
      · rw [e2, if_neg hj]
        exact ⟨hw1, hw0⟩
    · rw [if_neg (fun h => q (hm.mp h))] at e
      rw [if_neg q] at e2
      rw [e, e2]
      have hl : lpI (a c_R_sortAround r.length) ↔ is_lp s := by
        rw [hc.1.2.1.1]; exact lpI_nI hc.1.2.1.2
      rcases to_cx (j := j) hL hL0 r (if is_lp s then i + 1 else 0) hc.2 (by omega) (fun h => by rw [if_pos (hl.mp h.2)]; exact ⟨by omega, hc.1.1.1⟩) (fun h => by rw [if_neg (fun h2 => h ⟨by omega, hl.mpr h2⟩)]) hb with h | ⟨i2, h1, h2⟩
      · exact Or.inl h
      · exact Or.inr ⟨i2, Nat.lt_succ_of_lt h1, h2⟩
theorem near_cx {a : Nat → Nat → Int32} {b j : Nat} (hj : j < 256) : ∀ (cx : cx_T), cxC a b cx → nrT a (nI j) cx.length = if cx_near j cx = 0 then -1 else nI (cx_near j cx - 1)
  | [], _ => rfl
  | (i, s, m) :: r, hc => by
    have e : nrT a (nI j) ((i, s, m) :: r).length = if lpI (a c_R_sortAround r.length) ∨ (nI j = 66 ∧ a c_R_sortAround r.length = 83) then a c_R_placeAround r.length else nrT a (nI j) r.length := rfl
    have e2 : cx_near j ((i, s, m) :: r) = if is_lp s ∨ (j = 66 ∧ s = 83) then i + 1 else cx_near j r := rfl
    have hs := hc.1.2.1.2
    have hq : (lpI (a c_R_sortAround r.length) ∨ (nI j = 66 ∧ a c_R_sortAround r.length = 83)) ↔ (is_lp s ∨ (j = 66 ∧ s = 83)) := by
      rw [hc.1.2.1.1, lpI_nI hs, show (66 : Int32) = nI 66 from rfl, show (83 : Int32) = nI 83 from rfl, nI_eq (by omega) (by omega), nI_eq (by omega) (by omega)]
    by_cases q : is_lp s ∨ (j = 66 ∧ s = 83)
    · rw [e, e2, if_pos (hq.mpr q), if_pos q, if_neg (by omega), hc.1.1.1]; rfl
    · rw [e, e2, if_neg (fun h => q (hq.mp h)), if_neg q, near_cx hj r hc.2]
