/-! nobody gives the lane of being reached -/
def dV (V : Nat) (d : Int32) : Prop := d = 0 ∨ (∃ k, k < V ∧ d = 1 + nI k) ∨ ∃ k, k < V ∧ d = 20 + nI k
def dE (V : Nat) (E : eL_T) : Prop := ∀ x ∈ E, dV V x.2.2
section DE
variable {b : Nat → Nat → Int32} {N V : Nat} {W : wL_T} {E : eL_T}
theorem dE_nil : dE V [] := fun x hx => nomatch hx
theorem dE_ed {f : Nat} {t d : Int32} (h : dE V E) (hd : dV V d) : dE V (edF f t d E) := by
  unfold edF
  by_cases e : t = -1
  · rw [if_pos e]; exact h
  · rw [if_neg e]
    intro x hx
    rcases List.mem_cons.mp hx with rfl | hx
    · exact hd
    · exact h x hx
theorem dE_e0 {f : Nat} {t : Int32} (h : dE V E) : dE V (edF f t 0 E) := dE_ed h (Or.inl rfl)
theorem dE_en {p : Nat} {t f : Int32} (h : dE V E) : dE V (enF p t f E) := dE_e0 (dE_e0 h)
theorem dE_cnG (p pt : Int32) : ∀ (j i last : Nat) (E : eL_T), dE V E → dE V (cnG b p pt j i last E).2
  | 0, _, _, _, h => h
  | j + 1, i, last, E, h => by
    unfold cnG
    split
    · exact dE_cnG p pt j (i + 1) _ _ (dE_e0 h)
    · exact dE_cnG p pt j (i + 1) _ _ h
theorem dE_cn (p pt : Int32) (f : Nat) {t : Int32} (h : dE V E) : dE V (cnF b N p pt f t E) := dE_e0 (dE_cnG p pt N 0 f E h)
theorem dE_bcG (p e : Nat) : ∀ (j i last : Nat) (E : eL_T), dE V E → dE V (bcG b p e j i last E).2
  | 0, _, _, _, h => h
  | j + 1, i, last, E, h => by
    unfold bcG
    split
    · refine dE_bcG p e j (i + 1) _ _ ?_
      split
      · split
        · exact h
        · exact dE_en h
      · refine dE_e0 ?_
        split
        · exact h
        · exact dE_en h
    · exact dE_bcG p e j (i + 1) _ _ h
theorem dE_bc (p e : Nat) {af : Int32} (h : dE V E) : dE V (bcF b N p e af E) := by
  have g := dE_bcG (b := b) p e N 0 0 (edF (5 * p + 0) (nI (5 * e + 0)) 0 E) (dE_e0 h)
  unfold bcF bcT
  split
  · refine dE_en ?_
    split
    · exact g
    · exact dE_e0 g
  · split
    · exact g
    · exact dE_e0 g
theorem dE_be {p c0 c1 c2 : Nat} (hv : b r_sort p = 61 → dV V (1 + b r_variable p)) (h : dE V E) : dE V (beF b p c0 c1 c2 E) := by
  unfold beF
  split
  · exact dE_en (dE_e0 h)
  split
  · exact dE_en (dE_en (dE_e0 h))
  split
  · exact dE_e0 h
  split
  · exact dE_e0 h
  split
  · next e => exact dE_ed (dE_ed (dE_en (dE_e0 h)) (hv e)) (hv e)
  split
  · exact dE_en (dE_en (dE_en (dE_e0 h)))
  split
  · exact dE_en (dE_en (dE_e0 h))
  · exact dE_e0 (dE_e0 h)
theorem dE_bs {k p c0 o0 c1 o1 : Nat} (hv : (b r_sort p = 36 ∨ b r_sort p = 37) → dV V (20 + b r_variable p)) (h : dE V E) : dE V (bsX b N k p c0 o0 c1 o1 W E) := by
  unfold bsX
  by_cases c : b r_sort p = 36 ∨ b r_sort p = 37
  · rw [if_pos c]; exact dE_ed h (hv c)
  rw [if_neg c]
  by_cases d1 : b r_sort p = 58
  · rw [if_pos d1]; exact dE_e0 (dE_e0 h)
  rw [if_neg d1]
  by_cases d2 : b r_sort p = 59
  · rw [if_pos d2]; exact dE_en (dE_e0 h)
  rw [if_neg d2]
  by_cases d3 : b r_sort p = 68
  · rw [if_pos d3]; exact dE_en (dE_e0 (dE_e0 h))
  rw [if_neg d3]
  by_cases d4 : b r_sort p = 70
  · rw [if_pos d4]; exact dE_en (dE_e0 (dE_en (dE_e0 h)))
  rw [if_neg d4]
  by_cases d5 : b r_sort p = 73
  · rw [if_pos d5]
    unfold ifF
    show dE V (if o1 = 0 then _ else edF (5 * (o1 - 1) + 3) (nI (5 * p + 3)) 0 _)
    split
    · exact dE_e0 (dE_en (dE_e0 h))
    · exact dE_e0 (dE_e0 (dE_en (dE_e0 h)))
  rw [if_neg d5]
  by_cases d6 : b r_sort p = 83
  · rw [if_pos d6]; exact dE_bc p _ h
  rw [if_neg d6]
  by_cases d7 : b r_sort p = 84
  · rw [if_pos d7]
    unfold ttF
    have f3 : ∀ over, dE V (if b r_hasCatch p = 0 then cnF b N (nI p) 0 (5 * p + 0) over E else cnF b N (nI p) 1 (1301 + 3 * p) over (cnF b N (nI p) 0 (5 * p + 0) over E)) := by
      intro over
      by_cases e : b r_hasCatch p = 0
      · rw [if_pos e]; exact dE_cn _ _ _ h
      · rw [if_neg e]; exact dE_cn _ _ _ (dE_cn _ _ _ h)
    by_cases e : b r_hasEnd p = 0
    · show dE V (if b r_hasEnd p = 0 then _ else _)
      rw [if_pos e]; exact f3 _
    · show dE V (if b r_hasEnd p = 0 then _ else _)
      rw [if_neg e]; exact dE_cn _ _ _ (f3 _)
  rw [if_neg d7]
  by_cases d8 : b r_sort p = 87
  · rw [if_pos d8]; exact dE_e0 (dE_en (dE_e0 h))
  rw [if_neg d8]
  by_cases d9 : b r_sort p = 123
  · rw [if_pos d9]; exact dE_cn _ _ _ h
  rw [if_neg d9]
  by_cases d0 : c0 = 0
  · rw [if_pos d0]; exact dE_e0 h
  · rw [if_neg d0]; exact dE_en (dE_e0 h)
end DE
section ON1
variable {b : Nat → Nat → Int32} {V : Nat} {t : Std.Format} {W : wL_T} {on : Nat → Int32} {E : eL_T}
theorem isEd_d (h : RU b V t) {K : Nat → Nat} {x : Nat × Int32 × Int32} (hx : isEd b t K W x) : dV V x.2.2 := by
  rcases hx with hx | ⟨q, hq, hx | hx⟩
  · have hc : ∀ x, x ∈ cnF b (sp_z t) (-1) 0 3599 1300 [] ↔ chM (ID t) (rtL t 0) 3599 (nI 1300) x := by
      intro x
      unfold cnF
      rw [cn_root h]
      have := m_cn (ID := ID t) (x := x) (s := nI 1300) (rtL t 0) 3599 [] (fun r hr => by
        have h1 := (scn_RT h).2.1 r hr
        have h2 := ID_lt h1.2
        have h3 := h.1.1.1
        omega)
      refine Iff.trans this ?_
      exact ⟨fun u => u.resolve_right (fun w => nomatch w), Or.inl⟩
    exact dE_cn (V := V) (b := b) (N := sp_z t) (-1) 0 3599 (t := 1300) dE_nil x ((hc x).mpr hx)
  · rcases hx.2.2 with e | ⟨_, e | e⟩ <;> (rw [e]; exact Or.inl rfl)
  · unfold own at hx
    by_cases c : b r_isStmt (ID t q) = 0
    · rw [if_pos c] at hx
      have ns : ¬ stS (SO t q) := fun u => (isS_1 h hq).mpr u c
      refine dE_be (fun e => ?_) dE_nil x hx
      have s := (RU_is h hq (s := 61) (by decide)).mp e
      have := RU_V h hq ns (Or.inl s)
      rw [this.1]
      exact Or.inr (Or.inl ⟨_, this.2, rfl⟩)
    · rw [if_neg c] at hx
      have ns : stS (SO t q) := (isS_1 h hq).mp c
      have id := ID_st h.1.2.2 hq ns
      refine dE_bs (fun e => ?_) dE_nil x hx
      have s := e.imp (RU_is h hq (s := 36) (by decide)).mp (RU_is h hq (s := 37) (by decide)).mp
      have := (RU_S h hq ns).1.2 s
      rw [id, this.1]
      exact Or.inr (Or.inr ⟨_, this.2, rfl⟩)
theorem bt_100 {V : Nat} (hV : V ≤ 12) {d : Int32} (h : dV V d) (z : Nat) : bt d 100 z = z := by
  have L := LN_100 hV
  rcases h with rfl | ⟨k, hk, rfl⟩ | ⟨k, hk, rfl⟩
  · exact L.2.1 z
  · rw [L.2.2.1 k hk, if_neg (by omega)]
  · rw [L.2.2.2 k hk, if_neg (by omega)]
/-- a walk of the lane of being reached keeps its bit -/
theorem one_walk (w : WR b V t W on E) {root : Int32} {fr to : Nat} {a : Nat → Nat → Int32} (hC : CU a V t) {I : Nat → Prop} (hg : RGE a b t (Kd t) W root fr to I) {en : Nat → Nat → Nat} (he : ∀ T, fr ≤ T → T < to → SO t T = 84 → hE t T → ∀ c c', c < 2 → c' < 2 → en T c / 2 ^ c' % 2 = 1 → c' = c) {x0 b0 : Nat} {H : pL_T} (hQ : walkQ E W on en 100 I (vP (sp_z t) W) [(x0, b0)] H) : ∀ x ∈ H, x.2 = b0 := by
  have hN := w.1.1.1
  refine hQ.2.2.2 (fun _ z => z = b0) (fun x hx => ?_) (fun p z hz e hI => ⟨fun q d hd => ?_, fun x h1 h2 => ⟨e, fun k hk hkk ho => ?_⟩⟩)
  · rw [List.mem_singleton.mp hx]
  · have := isEd_d w.1 ((w.2.1.2 _).mp hd)
    rw [bt_100 hN.2 this]
    exact e
  · have lx := (List.getElem?_eq_some_iff.mp h2).1
    rw [List.length_reverse] at lx
    have mx : x ∈ W := List.mem_reverse.mp (List.mem_of_getElem? h2)
    have gx := w.2.2.2.2 x mx
    have hI' : I (2100 + (p - 2100)) := by rw [show 2100 + (p - 2100) = p by omega]; exact hI
    have r := (in_way hC w.1 w.2.1.1 hg h2 w.2.2.2.1 gx.1 (by rw [gx.2.1]; decide)).mp hI'
    have := he x.1 r.1 r.2 gx.2.1 gx.2.2 z k hz hk hkk
    rw [this]
    exact e
theorem one_sum (w : WR b V t W on E) {a : Nat → Nat → Int32} (hC : CU a V t) {ed : Nat → Nat → Nat} (hq : sumQ E W on 100 b (Kd t) (sp_z t) 0 ed) : ∀ (n T : Nat), sp_z t < T + n → T < sp_z t → SO t T = 84 → hE t T → ∀ c c', c < 2 → c' < 2 → ed T c / 2 ^ c' % 2 = 1 → c' = c
  | 0, T, h1, h2, _, _, _, _, _, _ => by omega
  | n + 1, T, h1, h2, h3, h4, c, c', hc, hc' => by
    have hN := w.1.1.1
    obtain ⟨x, y, z, _, hln, _, ht, _⟩ := W_T hC h2 h3
    have hff := ht.2.2
    rw [if_pos h4] at hff
    have hfr : T + 1 + sp_z x + sp_z y < 300 := by have := EN_le (t := t) h2; omega
    have hid : ID t T = T := ID_st w.1.1.2.2 h2 (by rw [h3]; decide)
    have rs := (RU_so w.1 h2).1
    rw [hid, h3] at rs
    have hE1 : ¬ b r_hasEnd T = 0 := by
      have := ((RU_S w.1 h2 (by rw [h3]; decide)).2.2.1 h3).2
      rw [this, h4]
      decide
    obtain ⟨H, ed0, q1, q2, q3⟩ := hq T (by omega) h2 rs hE1 c hc
    have hg : RGE a b t (Kd t) W (nI T) (T + 1 + sp_z x + sp_z y) (EN t T) (inP b (Kd t) W (nI T)) := Or.inr ⟨T, h2, ⟨h3, h4⟩, rfl, ⟨hff, hfr⟩, rfl, fun p => inP_t (by omega)⟩
    have le := EN_le (t := t) h2
    intro hb
    rw [q2, mkV_bit hc'] at hb
    exact one_walk w hC hg (fun T' g1 g2 g3 g4 k k' hk hk' e => by
      rw [q3 T' (by omega)] at e
      exact one_sum w hC hq n T' (by omega) (by omega) g3 g4 k k' hk hk' e) q1 _ hb
end ON1
/-- both sides over a unit: being reached -/
theorem CUP_rch {a : Nat → Nat → Int32} {V : Nat} {t : Std.Format} {f : Nat → Int64} {F : Nat → Int32} (hT : TT V t) (hC : CUP a V t f) (hR : RSeen V t F) : ∃ H : pL_T, (∀ p, p < 3600 → F (3600 * V + p) = nI (mkV H p)) ∧ (∀ j z, j < sp_z t → z < 2 → nodeEQ t (CB 12 0 f) H j z) ∧ (∀ z, z < 2 → (CB 12 0 f 964 z ↔ (1300, z) ∈ H)) ∧ ∀ x ∈ H, x.2 = 0 := by
  obtain ⟨⟨h1, h2⟩, fm, f0, h3, rfl⟩ := hC
  obtain ⟨b, Wf, on, E, w, hQ⟩ := hR
  have hN := hT.1.1
  have WCw : WC a b V t (Kd t) Wf on E := ⟨⟨h1, w.1⟩, ⟨h2, hT.2.2.1⟩, w.2.1, w.2.2.1, w.2.2.2⟩
  obtain ⟨ed, H, s1, s2, s3⟩ := hQ V (by omega)
  have e1 : whV V V = 100 := if_pos rfl
  rw [e1] at s1 s2
  have hL := LN_100 hN.2
  have hg : RGE a b t (Kd t) Wf (-1) 0 (sp_z t) (inP b (Kd t) Wf (-1)) := Or.inl ⟨rfl, rfl, rfl, fun p => Or.inl rfl⟩
  have cl := rg_cl h1 hg
  have hM : MEq t 0 (sp_z t) (MM 12 fm) ed := fun T _ g2 g3 g4 k k' hk hk' => sum_eq WCw hT.2.1.2 (by omega) hL h3 s1 (sp_z t + 1) T (by omega) g2 g3 g4 k k' hk hk'
  have hle : leastC a (sp_z t) (-1) fm 0 (sp_z t) 8191 (wkF a (sp_z t) (-1) fm 0 (sp_z t) 8191 f0).2 := wkF_main (by omega) (CU_swR h1) cl.1.1 cl.1.2 (by decide) (CU_cov h1 cl.1.2 cl.2)
  have r := walk_eq WCw hT.2.1.2 hg hM hL (by omega) hle (fun z hz => LB_u (by omega) hz) (Or.inl ⟨rfl, rfl⟩) s2
  exact ⟨H, s3, fun j z hj hz => r.1 j z (by omega) hj hz, fun z hz => (r.2 z hz).1 rfl, one_walk w h1 hg (fun T _ g2 g3 g4 k k' hk hk' => one_sum w h1 s1 (sp_z t + 1) T (by omega) g2 g3 g4 k k' hk hk') s2⟩
