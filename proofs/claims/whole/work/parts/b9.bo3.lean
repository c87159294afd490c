/-! the edges go to points -/
def vT (N : Nat) (W : wL_T) (v : Int32) : Prop := v = -1 ∨ (v = nI (dN v) ∧ vP N W (dN v))
def vE (N : Nat) (W : wL_T) (E : eL_T) : Prop := ∀ x ∈ E, x.2.1 = nI (dN x.2.1) ∧ vP N W (dN x.2.1)
theorem bdG_len {a : Nat → Nat → Int32} {N : Nat} {K : Nat → Nat} : ∀ (j p : Nat) (E : eL_T) (W : wL_T), p + j = N → E.length ≤ N + 1 + 3 * sC a N 0 p + 12 * p → (bdG a N K j p E W).1.length ≤ N + 1 + 3 * sC a N 0 N + 12 * N
  | 0, p, E, W, hp, hE => by
    have : p = N := by omega
    subst this
    exact hE
  | j + 1, p, E, W, hp, hE => by
    have l := stB_len a N (K p) p E W
    have e1 : sC a N 0 (p + 1) = sC a N 0 p + cC a (nI p) N 0 := rfl
    exact bdG_len j (p + 1) _ _ (by omega) (by omega)
section VE
variable {b : Nat → Nat → Int32} {N : Nat} {W : wL_T} {E : eL_T}
theorem vT_nI {x : Nat} (hx : x < 2 ^ 20) (h : vP N W x) : vT N W (nI x) := by
  refine Or.inr ?_
  rw [show dN (nI x) = x from nI_clamp (by omega)]
  exact ⟨rfl, h⟩
theorem vT_p {p k : Nat} (hN : N ≤ 260) (hp : p < N) (hk : k < 5) : vT N W (nI (5 * p + k)) := vT_nI (by omega) (Or.inl (by omega))
theorem vE_ed {f : Nat} {t d : Int32} (h : vE N W E) (ht : vT N W t) : vE N W (edF f t d E) := by
  unfold edF
  by_cases e : t = -1
  · rw [if_pos e]; exact h
  · rw [if_neg e]
    intro x hx
    rcases List.mem_cons.mp hx with rfl | hx
    · exact ht.resolve_left e
    · exact h x hx
theorem vE_en {p : Nat} {t f : Int32} (h : vE N W E) (ht : vT N W t) (hf : vT N W f) : vE N W (enF p t f E) := vE_ed (vE_ed h ht) hf
theorem vE_cnG (hN : N ≤ 260) (hb : bRow b N) (p pt : Int32) : ∀ (j i last : Nat) (E : eL_T), i + j = N → vE N W E → vE N W (cnG b p pt j i last E).2
  | 0, _, _, _, _, h => h
  | j + 1, i, last, E, hi, h => by
    have l := (hb i (by omega)).2
    unfold cnG
    split
    · exact vE_cnG hN hb p pt j (i + 1) _ _ (by omega) (vE_ed h (vT_p hN l (by omega)))
    · exact vE_cnG hN hb p pt j (i + 1) _ _ (by omega) h
theorem vE_cn (hN : N ≤ 260) (hb : bRow b N) (p pt : Int32) (f : Nat) {t : Int32} (ht : vT N W t) (h : vE N W E) : vE N W (cnF b N p pt f t E) := vE_ed (vE_cnG hN hb p pt N 0 f E (by omega) h) ht
theorem vE_bcG (hN : N ≤ 260) (hb : bRow b N) (p e : Nat) : ∀ (j i last : Nat) (E : eL_T), i + j = N → vE N W E → vE N W (bcG b p e j i last E).2
  | 0, _, _, _, _, h => h
  | j + 1, i, last, E, hi, h => by
    have l := (hb i (by omega)).2
    have v := vT_p (W := W) hN l (show 0 < 5 by omega)
    unfold bcG
    split
    · refine vE_bcG hN hb p e j (i + 1) _ _ (by omega) ?_
      split
      · split
        · exact h
        · exact vE_en h v v
      · refine vE_ed ?_ v
        split
        · exact h
        · exact vE_en h v v
    · exact vE_bcG hN hb p e j (i + 1) _ _ (by omega) h
theorem vE_bc (hN : N ≤ 260) (hb : bRow b N) (p : Nat) {e : Nat} (he : e < N) {af : Int32} (ha : vT N W af) (h : vE N W E) : vE N W (bcF b N p e af E) := by
  have g := vE_bcG (W := W) hN hb p e N 0 0 (edF (5 * p + 0) (nI (5 * e + 0)) 0 E) (by omega) (vE_ed h (vT_p hN he (by omega)))
  unfold bcF bcT
  split
  · refine vE_en ?_ ha ha
    split
    · exact g
    · exact vE_ed g ha
  · split
    · exact g
    · exact vE_ed g ha
theorem vE_be (hN : N ≤ 260) {p c0 c1 c2 : Nat} (hp : p < N) (h0 : c0 ≤ N) (h1 : c1 ≤ N) (h2 : c2 ≤ N) (h : vE N W E) : vE N W (beF b p c0 c1 c2 E) := by
  have P := fun (k : Nat) (hk : k < 5) => vT_p (W := W) (N := N) (p := p) hN hp hk
  have C0 := vT_p (W := W) (N := N) (p := c0 - 1) hN (by omega) (show 0 < 5 by omega)
  have C1 := vT_p (W := W) (N := N) (p := c1 - 1) hN (by omega) (show 0 < 5 by omega)
  have C2 := vT_p (W := W) (N := N) (p := c2 - 1) hN (by omega) (show 0 < 5 by omega)
  have P1 := P 1 (by omega)
  have P2 := P 2 (by omega)
  unfold beF
  split
  · exact vE_en (vE_ed h C0) P2 P1
  split
  · exact vE_en (vE_en (vE_ed h C0) C1 P2) P1 P2
  split
  · exact vE_ed h P2
  split
  · exact vE_ed h P1
  split
  · exact vE_ed (vE_ed (vE_en (vE_ed h C0) (P 3 (by omega)) (P 4 (by omega))) P1) P2
  split
  · exact vE_en (vE_en (vE_en (vE_ed h C0) C1 C2) P1 P2) P1 P2
  split
  · exact vE_en (vE_en (vE_ed h C0) P1 C1) P1 P2
  · exact vE_ed (vE_ed h P1) P2
theorem vE_bs (hN : N ≤ 260) (hb : bRow b N) {k p c0 o0 c1 o1 : Nat} (hp : p < N) (h0 : c0 ≤ N) (h1 : c1 ≤ N) (g0 : o0 ≤ N) (g1 : o1 ≤ N) (hw : b r_sort p = 84 → ¬ b r_hasEnd p = 0 → vT N W (coW W 0 (.inr p))) (hl : isLv (b r_sort p) → vT N W (coW W (cdF b p) (lvA b N (cdF b p) k p (b r_around p)))) (hk : knS (b r_sort p)) (h : vE N W E) : vE N W (bsX b N k p c0 o0 c1 o1 W E) := by
  have P := fun (k : Nat) (hk : k < 5) => vT_p (W := W) (N := N) (p := p) hN hp hk
  have C0 := vT_p (W := W) (N := N) (p := c0 - 1) hN (by omega) (show 0 < 5 by omega)
  have C1 := vT_p (W := W) (N := N) (p := c1 - 1) hN (by omega) (show 0 < 5 by omega)
  have O0 := vT_p (W := W) (N := N) (p := o0 - 1) hN (by omega) (show 0 < 5 by omega)
  have O1 := vT_p (W := W) (N := N) (p := o1 - 1) hN (by omega) (show 0 < 5 by omega)
  have P3 := P 3 (by omega)
  unfold bsX
  by_cases c : b r_sort p = 36 ∨ b r_sort p = 37
  · rw [if_pos c]; exact vE_ed h P3
  rw [if_neg c]
  by_cases d1 : b r_sort p = 58
  · rw [if_pos d1]; exact vE_ed (vE_ed h O0) P3
  rw [if_neg d1]
  by_cases d2 : b r_sort p = 59
  · rw [if_pos d2]; exact vE_en (vE_ed h C0) P3 P3
  rw [if_neg d2]
  by_cases d3 : b r_sort p = 68
  · rw [if_pos d3]; exact vE_en (vE_ed (vE_ed h O0) C0) O0 P3
  rw [if_neg d3]
  by_cases d4 : b r_sort p = 70
  · rw [if_pos d4]; exact vE_en (vE_ed (vE_en (vE_ed h C0) O0 P3) C1) C0 C0
  rw [if_neg d4]
  by_cases d5 : b r_sort p = 73
  · rw [if_pos d5]
    unfold ifF
    show vE N W (if o1 = 0 then _ else edF (5 * (o1 - 1) + 3) (nI (5 * p + 3)) 0 _)
    split
    · exact vE_ed (vE_en (vE_ed h C0) O0 P3) P3
    · exact vE_ed (vE_ed (vE_en (vE_ed h C0) O0 O1) P3) P3
  rw [if_neg d5]
  by_cases d6 : b r_sort p = 83
  · rw [if_pos d6]; exact vE_bc hN hb p (by omega) P3 h
  rw [if_neg d6]
  by_cases d7 : b r_sort p = 84
  · rw [if_pos d7]
    have f1 : vT N W (if b r_hasEnd p = 0 then nI (5 * p + 3) else coW W 0 (.inr p)) := by
      by_cases e : b r_hasEnd p = 0
      · rw [if_pos e]; exact P3
      · rw [if_neg e]; exact hw d7 e
    unfold ttF
    have f2 := vE_cn (W := W) hN hb (nI p) 0 (5 * p + 0) f1 h
    have f3 : vE N W (if b r_hasCatch p = 0 then cnF b N (nI p) 0 (5 * p + 0) (if b r_hasEnd p = 0 then nI (5 * p + 3) else coW W 0 (.inr p)) E else cnF b N (nI p) 1 (1301 + 3 * p) (if b r_hasEnd p = 0 then nI (5 * p + 3) else coW W 0 (.inr p)) (cnF b N (nI p) 0 (5 * p + 0) (if b r_hasEnd p = 0 then nI (5 * p + 3) else coW W 0 (.inr p)) E)) := by
      by_cases e : b r_hasCatch p = 0
      · rw [if_pos e]; exact f2
      · rw [if_neg e]; exact vE_cn hN hb (nI p) 1 _ f1 f2
    by_cases e : b r_hasEnd p = 0
    · show vE N W (if b r_hasEnd p = 0 then _ else _)
      rw [if_pos e]; exact f3
    · show vE N W (if b r_hasEnd p = 0 then _ else _)
      rw [if_neg e]; exact vE_cn hN hb (nI p) 2 _ (vT_nI (by omega) (Or.inr (Or.inr (Or.inl (by omega))))) f3
  rw [if_neg d7]
  by_cases d8 : b r_sort p = 87
  · rw [if_pos d8]; exact vE_ed (vE_en (vE_ed h C0) O0 P3) C0
  rw [if_neg d8]
  by_cases d9 : b r_sort p = 123
  · rw [if_pos d9]; exact vE_cn hN hb (nI p) 0 _ P3 h
  rw [if_neg d9]
  have lv : isLv (b r_sort p) := by
    unfold knS at hk
    unfold isLv
    rcases hk with e | e | e | e | e | e | e | e | e | e | e | e | e | e | e
    · exact absurd (Or.inl e) c
    · exact absurd (Or.inr e) c
    · exact absurd e d1
    · exact absurd e d2
    · exact absurd e d3
    · exact absurd e d4
    · exact absurd e d5
    · exact absurd e d6
    · exact absurd e d7
    · exact absurd e d8
    · exact absurd e d9
    · exact Or.inl e
    · exact Or.inr (Or.inl e)
    · exact Or.inr (Or.inr (Or.inl e))
    · exact Or.inr (Or.inr (Or.inr e))
  have l := hl lv
  split
  · exact vE_ed h l
  · exact vE_en (vE_ed h C0) l l
theorem vE_tr {k p : Nat} (hl : trN b k (b r_around p) = 1 → vT N W (coW W 2 (lvA b N 2 k p (b r_around p)))) (h : vE N W E) : vE N W (trX b N k p W E) := by
  unfold trX
  by_cases c : trN b k (b r_around p) = 1
  · rw [if_pos c]
    have l := hl c
    split
    · exact vE_ed (vE_ed (vE_ed h l) l) l
    · exact vE_ed h l
  · rw [if_neg c]; exact h
/-- where a walk that leaves goes -/
theorem vT_way {T c : Nat} (hl : W.length < 1500) (h : (T, c) ∈ W) : vT N W (coW W c (.inr T)) := by
  obtain ⟨i, h1, h2⟩ := scW_get T c W.reverse 0 (List.mem_reverse.mpr h)
  have h3 := (List.getElem?_eq_some_iff.mp h1).1
  rw [List.length_reverse] at h3
  show vT N W (nI (2100 + (scW T c W.reverse 0 - 1)))
  rw [h2]
  exact vT_nI (by omega) (Or.inr (Or.inr (Or.inr (Or.inl (by omega)))))
end VE
section BO3
variable {b : Nat → Nat → Int32} {V : Nat} {t : Std.Format} {W : wL_T}
theorem vT_lv (h : RU b V t) {c : Nat} (hc : okW b t c) : ∀ (k inner : Nat) (x : Int32), lnA b k x → (∀ q, q < 260 → x = nI q → q < sp_z t) → ∀ v, lvA b (sp_z t) c k inner x = .inl v → vT (sp_z t) W v
  | 0, _, _, _, _, v, e => by
    cases e
    exact Or.inl rfl
  | k + 1, inner, x, hx, hq, v, e => by
    have hN := h.1.1.1
    obtain ⟨p, ⟨rfl, hp⟩, hx⟩ := hx
    have hpN := hq p hp rfl
    have ed : dN (nI p) = p := nI_clamp (by omega)
    unfold lvA at e
    rw [ed] at e
    split at e
    · cases e
      exact vT_nI (by omega) (Or.inr (Or.inr (Or.inl (by omega))))
    split at e
    · cases e
    split at e
    · next c3 =>
      have g := hc.2.2 c3.1
      rw [show tgc c = p from c3.2.symm] at g
      cases e
      by_cases od : c % 2 = 1
      · rw [if_pos od]
        exact vT_p (by omega) hpN (by omega)
      · rw [if_neg od]
        have hl := g.2.2 (by omega)
        have id := ID_st h.1.2.2 hpN g.2.1
        have so := (RU_so h hpN).1
        have r1 : 1 ≤ rchG b (nI p) 0 (sp_z t) 0 (if b r_sort p = 70 then 1 else 0) := by
          rw [← id]
          rcases hl with e | e | e
          · rw [if_neg (by rw [so, e]; decide)]
            obtain ⟨y, s, k1, k2, _⟩ := ks_87 h.1.2.1 hpN e
            exact rE_p h hpN (m := y) (by rw [k1, List.filter_cons_of_pos (isE_y k2)]; rfl)
          · rw [if_neg (by rw [so, e]; decide)]
            obtain ⟨s, y, k1, k2, k3⟩ := ks_68 h.1.2.1 hpN e
            exact rE_p h hpN (m := y) (by rw [k1, List.filter_cons_of_neg (isE_n k2), List.filter_cons_of_pos (isE_y k3)]; rfl)
          · rw [if_pos (by rw [so, e]; decide)]
            obtain ⟨y, z, s, k1, k2, _⟩ := ks_70 h.1.2.1 hpN e
            exact rE_p h hpN (m := z) (by rw [k1, List.filter_cons_of_pos (isE_y k2.1), List.filter_cons_of_pos (isE_y k2.2)]; rfl)
        have r2 := rchG_le (RU_bRow h) (nI p) 0 (sp_z t) 0 (if b r_sort p = 70 then 1 else 0) (by omega)
        generalize rchG b (nI p) 0 (sp_z t) 0 (if b r_sort p = 70 then 1 else 0) = r at r1 r2
        obtain ⟨r', rfl⟩ : ∃ r', r = r' + 1 := ⟨r - 1, by omega⟩
        rw [oI_s]
        have e5 : (5 : Int32) * nI r' + 0 = nI (5 * r') := by
          have : ∀ r : Fin 260, (5 : Int32) * nI r.1 + 0 = nI (5 * r.1) := by decide +kernel
          exact this ⟨r', by omega⟩
        rw [e5]
        exact vT_nI (by omega) (Or.inl (by omega))
    · exact vT_lv h hc k p (b r_around p) hx (fun q hq e => RU_ard h hpN hq e) v e
theorem vT_co (h : RU b V t) {c : Nat} (hc : okW b t c) (hl : W.length < 1500) {p : Nat} (hp : p < sp_z t) (hi : inW W c (lvA b (sp_z t) c (Kd t p) p (b r_around p))) : vT (sp_z t) W (coW W c (lvA b (sp_z t) c (Kd t p) p (b r_around p))) := by
  have g := vT_lv (W := W) h hc (Kd t p) p (b r_around p) (RU_ln h hp) (fun q hq e => RU_ard h hp hq e)
  cases e : lvA b (sp_z t) c (Kd t p) p (b r_around p) with
  | inl v => exact g v e
  | inr T => rw [e] at hi; exact vT_way hl hi
/-- all edges of the unit -/
theorem RU_vE (h : RU b V t) (hj : jT [] t 0) (hl : W.length < 1500) (hs : (bdG b (sp_z t) (Kd t) (sp_z t) 0 (cnF b (sp_z t) (-1) 0 3599 1300 []) []).2 <:+ W) : vE (sp_z t) W (bdG b (sp_z t) (Kd t) (sp_z t) 0 (cnF b (sp_z t) (-1) 0 3599 1300 []) []).1 := by
  have hN := h.1.1.1
  have hb := RU_bRow h
  have f := bd_fin h (sp_z t) 0 _ _ (by omega) hs
  have ok0 : okW b t 2 := ⟨by unfold cdWL; simp, by omega, fun u => by omega⟩
  intro x hx
  rcases (f.1 x).mp hx with ⟨p, hp, hx⟩ | hx
  · have w := f.2.2 p hp.1 hp.2
    have r := fun s k => rchG_le hb (nI p) s (sp_z t) 0 k (by omega)
    obtain ⟨q, hq, eq⟩ := ID_sur hp.2
    refine vE_tr (fun u => vT_co h ok0 hl hp.2 (w.2 u)) ?_ x hx
    split
    · exact vE_be (by omega) hp.2 (r _ _) (r _ _) (r _ _) (fun x hx => nomatch hx)
    · next c =>
      have hst : stS (SO t q) := (isS_1 h hq).mp (by rw [eq]; exact c)
      have k := RU_knS h hq hst
      have id := ID_st h.1.2.2 hq hst
      rw [eq] at k
      refine vE_bs (by omega) hb hp.2 (r _ _) (r _ _) (r _ _) (r _ _) (fun u1 u2 => vT_way hl ((w.1 c).1 u1 u2)) (fun u => ?_) k (fun x hx => nomatch hx)
      refine vT_co h ?_ hl hp.2 ((w.1 c).2 u)
      rw [← eq] at u ⊢
      exact RU_cd h hj hq hst u
  · exact vE_cn (by omega) hb (-1) 0 3599 (vT_nI (x := 1300) (by omega) (Or.inr (Or.inl rfl))) (E := []) (fun x hx => nomatch hx) x hx
end BO3
