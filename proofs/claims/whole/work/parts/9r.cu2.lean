/-- the ends of kid k of a node q of sort s with kids L -/
def wK (s q k : Nat) (L : List Nat) : V2 :=
  if s = 58 then (nI (241 + q), nI (241 + q)) else if s = 59 then (nI (241 + q), nI (241 + q))
  else if s = 68 then (if k = 1 then (oI (nx0 L[0]?), nI (241 + q)) else (oI (nx0 L[1]?), oI (nx0 L[1]?)))
  else if s = 70 then (if k = 0 then (oI (nx0 L[2]?), nI (241 + q)) else if k = 2 then (oI (nx0 L[1]?), oI (nx0 L[1]?)) else (oI (nx0 L[0]?), oI (nx0 L[0]?)))
  else if s = 73 then (if k = 0 then (oI (nx0 L[1]?), orV (nx0 L[2]?) (nI (241 + q))) else (nI (241 + q), nI (241 + q)))
  else if s = 82 then (-1, -1)
  else if s = 83 then (if k = 0 then (nI (723 + q), nI (723 + q)) else (orV (nx0 L[k + 1]?) (nI (241 + q)), orV (nx0 L[k + 1]?) (nI (241 + q))))
  else if s = 87 then (if k = 0 then (oI (nx0 L[1]?), nI (241 + q)) else (oI (nx0 L[0]?), oI (nx0 L[0]?)))
  else if s = 88 then (-1, -1)
  else if s = 123 then (orV (nx0 L[k + 1]?) (nI (241 + q)), orV (nx0 L[k + 1]?) (nI (241 + q)))
  else if s = 33 then (nI (482 + q), nI (241 + q))
  else if s = 38 then (orV (nx0 L[k + 1]?) (nI (241 + q)), nI (482 + q))
  else if s = 124 then (nI (241 + q), orV (nx0 L[k + 1]?) (nI (482 + q)))
  else if s = 63 ∧ k = 0 then (oI (nx0 L[k + 1]?), oI (nx0 L[2]?))
  else (nI (241 + q), nI (482 + q))
section CUB
variable {a : Nat → Nat → Int32} {V : Nat} {t : Std.Format}
theorem enV_kid (h : CU a V t) {q p : Nat} (hp : p < sp_z t) (e : PA t p = q + 1) : enV a (sp_z t) p = leV a (sp_z t) p q (nxF a (sp_z t) p) := by
  have hq := PA_sub hp e
  have hN := CU_N h
  unfold enV
  rw [CU_ar h hp, e, oI_s, if_neg (nI_ne_m1 (by omega))]
  show leV a (sp_z t) p (nI q).toNatClampNeg _ = _
  rw [nI_clamp (by omega)]
theorem kid_in (h : CU a V t) {q k p : Nat} (hq : q < sp_z t) (hk : (KI t q)[k]? = some p) : (p < sp_z t ∧ PA t p = q + 1) ∧ (q < p ∧ p < EN t q) ∧ k < 240 := by
  have hN := CU_N h
  have hl := lnkL_get _ _ _ _ _ (KI_lnk hq) hk
  have he := EN_le hq
  have hi : p < sp_z t := by omega
  refine ⟨⟨hi, (KI_mem hq hi).mpr (List.mem_of_getElem? hk)⟩, ⟨by omega, hl.1.2⟩, ?_⟩
  have : ∀ (L : List Nat) (b e k r : Nat), lnkL (EN t) L b e → L[k]? = some r → b + k ≤ r := by
    intro L
    induction L with
    | nil => intro b e k r _ h2; cases h2
    | cons y L ih =>
      intro b e k r h1 h2
      cases k with
      | zero =>
        have h2 : some y = some r := h2
        cases h2
        have := h1.1.1
        omega
      | succ k =>
        have := ih (EN t b) e k r h1.2 h2
        have := h1.1.2.1
        omega
  have := this _ _ _ _ _ (KI_lnk hq) hk
  omega
theorem W_all (h : CU a V t) {q k p : Nat} (hq : q < sp_z t) (hs : ¬ SO t q = 84) (hk : (KI t q)[k]? = some p) : (a c_Y_trueTo p, a c_Y_falseTo p) = wK (SO t q) q k (KI t q) := by
  obtain ⟨⟨hp, e⟩, -, hk2⟩ := kid_in h hq hk
  have hpt := (h.2.1.2.2.1 q hq hs k p hk).1.2
  have hw := (h.2.2 p hp).2
  rw [hw.1, hw.2, enV_kid h hp e, nxF_K h hq hk]
  have is : ∀ s, s < 256 → ((a c_P_sort q = nI s) = (SO t q = s)) := fun s hs => propext (CU_is h hq hs)
  have pk : ∀ j, j < 2 ^ 20 → ((a c_P_part p = nI j) = (k = j)) := fun j hj => by rw [hpt, nI_eq (by omega) (by omega)]
  unfold leV wK
  show (leV a (sp_z t) p q _) = _
  unfold leV
  refine ite_congr (is 58 (by decide)) (fun c => rfl) (fun c58 => ?_)
  refine ite_congr (is 59 (by decide)) (fun c => rfl) (fun c59 => ?_)
  refine ite_congr (is 68 (by decide)) (fun c => ?_) (fun c68 => ?_)
  · unfold lpW
    rw [if_pos (show a c_P_sort q = 68 by exact (is 68 (by decide)).mpr c)]
    unfold lpV
    have n87 : ¬ a c_P_sort q = 87 := fun u => by have u := (is 87 (by decide)).mp u; omega
    rw [if_neg n87, chF_K h hq, chF_K h hq, ite_self]
    refine ite_congr (pk 1 (by decide)) (fun _ => rfl) (fun _ => rfl)
  refine ite_congr (is 70 (by decide)) (fun c => ?_) (fun c70 => ?_)
  · unfold lpW
    have n68 : ¬ a c_P_sort q = 68 := fun u => by have u := (is 68 (by decide)).mp u; omega
    have n87 : ¬ a c_P_sort q = 87 := fun u => by have u := (is 87 (by decide)).mp u; omega
    rw [if_neg n68, if_pos (show a c_P_sort q = 70 by exact (is 70 (by decide)).mpr c)]
    unfold lpV
    rw [if_neg n87, chF_K h hq, chF_K h hq, chF_K h hq]
    refine ite_congr (pk 0 (by decide)) (fun _ => rfl) (fun _ => ?_)
    refine ite_congr (pk 2 (by decide)) (fun _ => rfl) (fun _ => rfl)
  refine ite_congr (is 73 (by decide)) (fun c => ?_) (fun c73 => ?_)
  · unfold ifV
    rw [chF_K h hq, chF_K h hq]
    refine ite_congr (pk 0 (by decide)) (fun _ => rfl) (fun _ => rfl)
  refine ite_congr (is 82 (by decide)) (fun c => rfl) (fun c82 => ?_)
  refine ite_congr (is 83 (by decide)) (fun c => ?_) (fun c83 => ?_)
  · refine ite_congr (pk 0 (by decide)) (fun _ => rfl) (fun _ => rfl)
  rw [if_neg (show ¬ a c_P_sort q = 84 from fun u => hs ((is 84 (by decide)).mp u))]
  refine ite_congr (is 87 (by decide)) (fun c => ?_) (fun c87 => ?_)
  · unfold lpW
    have n68 : ¬ a c_P_sort q = 68 := fun u => by have u := (is 68 (by decide)).mp u; omega
    have n70 : ¬ a c_P_sort q = 70 := fun u => by have u := (is 70 (by decide)).mp u; omega
    rw [if_neg n68, if_neg n70]
    unfold lpV
    rw [if_pos (show a c_P_sort q = 87 by exact (is 87 (by decide)).mpr c), chF_K h hq, chF_K h hq, ite_self]
    refine ite_congr (pk 0 (by decide)) (fun _ => rfl) (fun _ => rfl)
  refine ite_congr (is 88 (by decide)) (fun c => rfl) (fun c88 => ?_)
  refine ite_congr (is 123 (by decide)) (fun c => rfl) (fun c123 => ?_)
  unfold exV
  refine ite_congr (is 33 (by decide)) (fun c => rfl) (fun c33 => ?_)
  refine ite_congr (is 38 (by decide)) (fun c => rfl) (fun c38 => ?_)
  refine ite_congr (is 124 (by decide)) (fun c => rfl) (fun c124 => ?_)
  rw [chF_K h hq]
  refine ite_congr ?_ (fun c => rfl) (fun _ => rfl)
  have e1 := is 63 (by decide)
  have e2 := pk 0 (by decide)
  show ((a c_P_sort q = nI 63) ∧ (a c_P_part p = nI 0)) = _
  rw [e1, e2]
theorem Wy_root (h : CU a V t) {k p : Nat} (hk : (rtL t 0)[k]? = some p) : a c_Y_trueTo p = orV (nx0 (rtL t 0)[k + 1]?) (nI 964) ∧ a c_Y_falseTo p = orV (nx0 (rtL t 0)[k + 1]?) (nI 964) := by
  have hl := lnkL_get _ _ _ _ _ RT_lnk hk
  have hp : p < sp_z t := by omega
  have e := (RT_mem hp).mpr (List.mem_of_getElem? hk)
  have hw := (h.2.2 p hp).2
  rw [hw.1, hw.2]
  unfold enV
  rw [CU_ar h hp, e, nxF_R h hk]
  rw [if_pos (show oI 0 = -1 from rfl)]
  exact ⟨rfl, rfl⟩
theorem ff_ne {q z : Nat} (h : q < 1000 ∧ z < 1000) : ¬ nI (q + z) = -1 := nI_ne_m1 (by omega)
abbrev hC (t : Std.Format) (q : Nat) : Prop := sp_pl (CO t q) % 2 = 1
abbrev hE (t : Std.Format) (q : Nat) : Prop := sp_pl (CO t q) / 2 = 1
/-- where a T ends -/
def eT (t : Std.Format) (q : Nat) : Nat := if hE t q then 723 + q else 241 + q
theorem W_T (h : CU a V t) {q : Nat} (hq : q < sp_z t) (hs : SO t q = 84) : ∃ u v w, XI t q = .append u (.append v w) ∧ ((lnkL (EN t) (rtL u (q + 1)) (q + 1) (q + 1 + sp_z u) ∧ lnkL (EN t) (rtL v (q + 1 + sp_z u)) (q + 1 + sp_z u) (q + 1 + sp_z u + sp_z v)) ∧ (lnkL (EN t) (rtL w (q + 1 + sp_z u + sp_z v)) (q + 1 + sp_z u + sp_z v) (EN t q) ∧ EN t q = q + 1 + sp_z u + sp_z v + sp_z w)) ∧
    ((∀ i ∈ rtL u (q + 1), (a c_P_around i = nI q ∧ a c_P_part i = 0) ∧ (a c_P_tryAround i = nI q ∧ a c_P_tryPart i = 0)) ∧
    (∀ i ∈ rtL v (q + 1 + sp_z u), (a c_P_around i = nI q ∧ a c_P_part i = 1) ∧ (a c_P_tryAround i = nI q ∧ a c_P_tryPart i = 1)) ∧
    (∀ i ∈ rtL w (q + 1 + sp_z u + sp_z v), (a c_P_around i = nI q ∧ a c_P_part i = 2) ∧ (a c_P_tryAround i = nI q ∧ a c_P_tryPart i = 2))) ∧
    (tC (CO t q) v w ∧ a c_P_catchFrom q = (if hC t q then nI (q + 1 + sp_z u) else -1) ∧ a c_P_finallyFrom q = (if hE t q then nI (q + 1 + sp_z u + sp_z v) else -1)) ∧
    (a c_Y_beginTo q = orV (nx0 (rtL u (q + 1))[0]?) (nI (eT t q)) ∧ a c_Y_catchTo q = (if hC t q then orV (nx0 (rtL v (q + 1 + sp_z u))[0]?) (nI (eT t q)) else -1) ∧ a c_Y_finallyTo q = (if hE t q then oI (nx0 (rtL w (q + 1 + sp_z u + sp_z v))[0]?) else -1)) := by
  have hN := CU_N h
  obtain ⟨u, v, w, e, ⟨⟨l1, l2⟩, l3, ez⟩, ⟨k1, k2, k3⟩, htc, hc, hf⟩ := T_parts h hq hs
  have heN := EN_le hq
  refine ⟨u, v, w, e, ⟨⟨l1, l2⟩, l3, ez⟩, ⟨k1, k2, k3⟩, ⟨htc, hc, hf⟩, ?_⟩
  have hw := (h.2.2 q hq).1
  have is : ∀ s, s < 256 → ((a c_P_sort q = nI s) = (SO t q = s)) := fun s hs => propext (CU_is h hq hs)
  have eEnd : endT a q = nI (eT t q) := by
    unfold endT eT
    rw [hf]
    by_cases c : hE t q
    · rw [if_pos c, if_pos c, if_neg (nI_ne_m1 (by omega))]
    · rw [if_neg c, if_neg c, if_pos rfl]
  have eE := (CU_end h hq).2
  -- first places of the parts
  have f2 : fiF a (sp_z t) q (q + 1 + sp_z u + sp_z v) 2 = nx0 (rtL w (q + 1 + sp_z u + sp_z v))[0]? := by
    unfold fiF
    rw [eE]
    rcases lnk_0 l3 with ⟨z1, z2⟩ | ⟨z1, z2⟩
    · rw [if_neg (by omega), z1]; rfl
    · rw [if_pos ⟨by omega, by omega, (k3 _ (List.mem_of_getElem? z1)).1.2⟩, z1]; rfl
  have f1 : fiF a (sp_z t) q (q + 1 + sp_z u) 1 = nx0 (rtL v (q + 1 + sp_z u))[0]? := by
    unfold fiF
    rw [eE]
    rcases lnk_0 l2 with ⟨z1, z2⟩ | ⟨z1, z2⟩
    · rw [if_neg ?_, z1]
      · rfl
      · rintro ⟨g1, g2, g3⟩
        rcases lnk_0 l3 with ⟨y1, y2⟩ | ⟨y1, y2⟩
        · omega
        · have := (k3 _ (List.mem_of_getElem? y1)).1.2
          rw [← z2, g3] at this
          exact absurd this (by decide)
    · rw [if_pos ⟨by omega, by omega, (k2 _ (List.mem_of_getElem? z1)).1.2⟩, z1]; rfl
  have f0 : fiF a (sp_z t) q (q + 1) 0 = nx0 (rtL u (q + 1))[0]? := by
    unfold fiF
    rw [eE]
    rcases lnk_0 l1 with ⟨z1, z2⟩ | ⟨z1, z2⟩
    · rw [if_neg ?_, z1]
      · rfl
      · rintro ⟨g1, g2, g3⟩
        rcases lnk_0 l2 with ⟨x1, x2⟩ | ⟨x1, x2⟩
        · rcases lnk_0 l3 with ⟨y1, y2⟩ | ⟨y1, y2⟩
          · omega
          · have := (k3 _ (List.mem_of_getElem? y1)).1.2
            rw [← x2, ← z2, g3] at this
            exact absurd this (by decide)
        · have := (k2 _ (List.mem_of_getElem? x1)).1.2
          rw [← z2, g3] at this
          exact absurd this (by decide)
    · rw [if_pos ⟨by omega, by omega, (k1 _ (List.mem_of_getElem? z1)).1.2⟩, z1]; rfl
  refine ⟨?_, ?_, ?_⟩
  · rw [hw.1]
    unfold bgV
    have n66 : ¬ a c_P_sort q = 66 := fun u => by have u := (is 66 (by decide)).mp u; omega
    have n67 : ¬ a c_P_sort q = 67 := fun u => by have u := (is 67 (by decide)).mp u; omega
    rw [if_neg n66, if_neg n67, if_pos (show a c_P_sort q = 84 by exact (is 84 (by decide)).mpr hs), f0, eEnd]
  · rw [hw.2.1]
    unfold ctV
    rw [hc]
    by_cases c : hC t q
    · rw [if_pos c, if_pos c, if_neg (nI_ne_m1 (by omega))]
      show orV (fiF a (sp_z t) q (nI (q + 1 + sp_z u)).toNatClampNeg 1) _ = _
      rw [nI_clamp (by omega), f1, eEnd]
    · rw [if_neg c, if_neg c, if_pos rfl]
  · rw [hw.2.2]
    unfold fnV
    rw [hf]
    by_cases c : hE t q
    · rw [if_pos c, if_pos c, if_neg (nI_ne_m1 (by omega))]
      show oI (fiF a (sp_z t) q (nI (q + 1 + sp_z u + sp_z v)).toNatClampNeg 2) = _
      rw [nI_clamp (by omega), f2]
    · rw [if_neg c, if_neg c, if_pos rfl]
end CUB
