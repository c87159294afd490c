def oI (oi : Nat) : Int32 := if oi = 0 then -1 else nI (oi - 1)
theorem oI_s (k : Nat) : oI (k + 1) = nI k := by unfold oI; rw [if_neg (by omega)]; rfl
def rRow (a : Nat → Nat → Int32) (W : Nat) (r : NR) : Prop :=
  if stS (sp_s (nc r)) then (ndS a W (nid r) (nc r) (oI (noi r)) (nsc r) ∧ (npt r = 9 ∨ a r_part (nid r) = nI (npt r)) ∧ (sp_s (nc r) = 83 → (fLine (nx r) ↔ (¬ a r_tailMarked (nid r) = 0 ∨ a r_hasOther (nid r) = 0))))
  else (ndF a (nid r) (nc r) ∧ a r_around (nid r) = oI (noi r)) ∧ (a r_thereBefore (nid r) = thOf (nsc r) ∧ a r_thereAfter (nid r) = thOf (nsc r))
def cRow (a : Nat → Nat → Int32) (W : Nat) (i : Nat) (r : NR) : Prop :=
  if stS (sp_s (nc r)) then (ndT a W i (nc r) (i + 1 + sp_z (nx r)) (nsc r) ∧ skT a i (nc r) (nx r)) ∧
    (if sp_s (nc r) = 84 then (match nx r with
      | .append u (.append v _) => a c_P_catchFrom i = (if sp_pl (nc r) % 2 = 1 then nI (i + 1 + sp_z u) else -1) ∧ a c_P_finallyFrom i = (if sp_pl (nc r) / 2 = 1 then nI (i + 1 + sp_z u + sp_z v) else -1)
      | _ => False)
    else (a c_P_catchFrom i = -1 ∧ a c_P_finallyFrom i = -1))
  else ndC a i (nc r) (i + 1 + sp_z (nx r)) ∧ unf a (thOf (nsc r)) i
theorem rRow_e {a : Nat → Nat → Int32} {W : Nat} {r : NR} (h : ¬ stS (sp_s (nc r))) (h1 : (ndF a (nid r) (nc r) ∧ a r_around (nid r) = oI (noi r)) ∧ (a r_thereBefore (nid r) = thOf (nsc r) ∧ a r_thereAfter (nid r) = thOf (nsc r))) : rRow a W r := by
  unfold rRow; rw [if_neg h]; exact h1
theorem rRow_S {a : Nat → Nat → Int32} {W : Nat} {r : NR} (h : stS (sp_s (nc r))) (h1 : ndS a W (nid r) (nc r) (oI (noi r)) (nsc r) ∧ (npt r = 9 ∨ a r_part (nid r) = nI (npt r)) ∧ (sp_s (nc r) = 83 → (fLine (nx r) ↔ (¬ a r_tailMarked (nid r) = 0 ∨ a r_hasOther (nid r) = 0)))) : rRow a W r := by
  unfold rRow; rw [if_pos h]; exact h1
theorem cRow_e {a : Nat → Nat → Int32} {W i : Nat} {r : NR} (h : ¬ stS (sp_s (nc r))) (h1 : ndC a i (nc r) (i + 1 + sp_z (nx r)) ∧ unf a (thOf (nsc r)) i) : cRow a W i r := by
  unfold cRow; rw [if_neg h]; exact h1
theorem cRow_S {a : Nat → Nat → Int32} {W i : Nat} {r : NR} (h : stS (sp_s (nc r))) (h8 : ¬ sp_s (nc r) = 84) (h1 : (ndT a W i (nc r) (i + 1 + sp_z (nx r)) (nsc r) ∧ skT a i (nc r) (nx r)) ∧ (a c_P_catchFrom i = -1 ∧ a c_P_finallyFrom i = -1)) : cRow a W i r := by
  unfold cRow; rw [if_pos h, if_neg h8]; exact h1
theorem cRow_84 {a : Nat → Nat → Int32} {W i c o oi id pt d : Nat} {u v w : Std.Format} {sc : sc_T} (h8 : sp_s c = 84) (h1 : (ndT a W i c (i + 1 + sp_z (.append u (.append v w))) sc ∧ skT a i c (.append u (.append v w))) ∧ (a c_P_catchFrom i = (if sp_pl c % 2 = 1 then nI (i + 1 + sp_z u) else -1) ∧ a c_P_finallyFrom i = (if sp_pl c / 2 = 1 then nI (i + 1 + sp_z u + sp_z v) else -1))) : cRow a W i (c, .append u (.append v w), (o, oi), id, pt, sc, d) := by
  have hs : stS (sp_s c) := by rw [h8]; unfold stS; omega
  unfold cRow
  rw [if_pos hs, if_pos h8]; exact h1
theorem nS_2 {s : Nat} (h : s = 124 ∨ s = 38) : ¬ stS s := by unfold stS; omega
theorem nS_nm {s : Nat} (h : 97 ≤ s ∧ s ≤ 122) : ¬ stS s := by unfold stS; omega
theorem nS_lf {s : Nat} (h : s = 48 ∨ s = 49 ∨ s = 35) : ¬ stS s := by unfold stS; omega
theorem nS_sc {s : Nat} (h : ¬ stS s) : ¬ (s = 36 ∨ s = 37) := by unfold stS at h; omega
theorem nL_e_sc {V : Nat} {u : Std.Format} (h : eW V u ∨ ∃ y z, u = .append y z ∧ eW V y ∧ eW V z) (sc : sc_T) : scA sc u = sc := by
  rcases h with h | ⟨y, z, rfl, -, -⟩
  · exact scA_eW h sc
  · rfl
section RW
variable {a : Nat → Nat → Int32} {V W : Nat}
theorem Blk_nL {t : Std.Format} (ht : eW V t) : ∀ (b rb o oi pt r : Nat) (sc : sc_T) (d : Nat), Blk a t rb r → a r_around r = oI oi → (∀ i, rb ≤ i → i < rb + sp_z t → a r_thereBefore i = thOf sc ∧ a r_thereAfter i = thOf sc) → ∀ R ∈ nL t b rb o oi pt sc d, rRow a W R := by
  have key := eW_ind (V := V) (M := fun t => (∃ c x, t = .tag c x ∧ ¬ stS (sp_s c)) ∧ ∀ (b rb o oi pt r : Nat) (sc : sc_T) (d : Nat), Blk a t rb r → a r_around r = oI oi → (∀ i, rb ≤ i → i < rb + sp_z t → a r_thereBefore i = thOf sc ∧ a r_thereAfter i = thOf sc) → ∀ R ∈ nL t b rb o oi pt sc d, rRow a W R) ?_ ?_ ?_ ?_ ?_ ?_ (sp_z t) t (Nat.le_refl _) ht
  · exact key.2
  · intro c y z w hs hv hy hz hw
    have hns : ¬ stS (sp_s c) := by rw [hs]; decide
    refine ⟨⟨_, _, rfl, hns⟩, ?_⟩
    intro b rb o oi pt r sc d hB ho hth R hR
    obtain ⟨⟨h1, h2⟩, x1, y1, z1, ⟨k1, k2, k3⟩, k4, k5, k6⟩ := hB
    simp only [sp_z] at hth
    subst h1
    obtain ⟨⟨c2, x2', e2, hn2⟩, hz⟩ := hz
    rw [nL_e2 hns, nL_a] at hR
    rcases List.mem_cons.mp hR with e | hR
    · rw [e]
      have hh := hth (rb + sp_z y) (by clear hy hz hw; omega) (by clear hy hz hw; omega)
      exact rRow_e hns ⟨⟨h2, ho⟩, hh⟩
    · have hsc2 : scA sc z = sc := by rw [e2, scA_tag, if_neg (nS_sc hn2)]
      rw [hsc2] at hR
      rcases List.mem_append.mp hR with hR | hR
      · exact hy.2 (b + 1) rb (b + 1) (rb + sp_z y + 1) 9 x1 sc (d + 1) k1 (by rw [oI_s]; exact k4) (fun i i1 i2 => hth i (by omega) (by omega)) R hR
      · rcases List.mem_append.mp hR with hR | hR
        · exact hz (b + 1 + sp_z y) (rb + sp_z y + 1) (b + 1) (rb + sp_z y + 1) 9 y1 sc (d + 1) k2 (by rw [oI_s]; exact k5) (fun i i1 i2 => hth i (by omega) (by omega)) R hR
        · exact hw.2 (b + 1 + sp_z y + sp_z z) (rb + sp_z y + 1 + sp_z z) (b + 1) (rb + sp_z y + 1) 9 z1 sc (d + 1) k3 (by rw [oI_s]; exact k6) (fun i i1 i2 => hth i (by omega) (by omega)) R hR
  · intro c y z hs hv hy hz
    have hns : ¬ stS (sp_s c) := nS_2 hs
    refine ⟨⟨_, _, rfl, hns⟩, ?_⟩
    intro b rb o oi pt r sc d hB ho hth R hR
    obtain ⟨⟨c2, x2', rfl, hn2⟩, hz⟩ := hz
    obtain ⟨⟨h1, h2⟩, x1, y1, ⟨k1, k2⟩, k4, k5⟩ := hB
    simp only [sp_z] at hth
    subst h1
    rw [nL_e2 hns] at hR
    rcases List.mem_cons.mp hR with e | hR
    · rw [e]
      exact rRow_e hns ⟨⟨h2, ho⟩, hth (rb + sp_z y) (by omega) (by omega)⟩
    · rcases List.mem_append.mp hR with hR | hR
      · exact hy.2 (b + 1) rb (b + 1) (rb + sp_z y + 1) 9 x1 sc (d + 1) k1 (by rw [oI_s]; exact k4) (fun i i1 i2 => hth i (by omega) (by omega)) R hR
      · exact hz (b + 1 + sp_z y) (rb + sp_z y + 1) (b + 1) (rb + sp_z y + 1) 9 y1 sc (d + 1) k2 (by rw [oI_s]; exact k5) (fun i i1 i2 => hth i (by omega) (by simp only [sp_z] at i2; omega)) R hR
  · intro c x hs hv hx
    have hns : ¬ stS (sp_s c) := by rw [hs]; decide
    refine ⟨⟨_, _, rfl, hns⟩, ?_⟩
    intro b rb o oi pt r sc d hB ho hth R hR
    obtain ⟨⟨c2, x2', rfl, hn2⟩, hx⟩ := hx
    obtain ⟨⟨h1, h2⟩, x1, k1, k4⟩ := hB
    simp only [sp_z] at hth
    subst h1
    rw [nL_e1 hns (by rintro ⟨u, v, e⟩; cases e)] at hR
    rcases List.mem_cons.mp hR with e | hR
    · rw [e]
      exact rRow_e hns ⟨⟨h2, ho⟩, hth r (by omega) (by omega)⟩
    · exact hx (b + 1) (r + 1) (b + 1) (r + 1) 9 x1 sc (d + 1) k1 (by rw [oI_s]; exact k4) (fun i i1 i2 => hth i (by omega) (by simp only [sp_z] at i2; omega)) R hR
  · intro c x hs hv hx
    have hns : ¬ stS (sp_s c) := by rw [hs]; decide
    refine ⟨⟨_, _, rfl, hns⟩, ?_⟩
    intro b rb o oi pt r sc d hB ho hth R hR
    obtain ⟨⟨c2, x2', rfl, hn2⟩, hx⟩ := hx
    obtain ⟨⟨h1, h2⟩, x1, k1, k4⟩ := hB
    simp only [sp_z] at hth
    subst h1
    rw [nL_e1 hns (by rintro ⟨u, v, e⟩; cases e)] at hR
    rcases List.mem_cons.mp hR with e | hR
    · rw [e]
      exact rRow_e hns ⟨⟨h2, ho⟩, hth r (by omega) (by omega)⟩
    · exact hx (b + 1) (r + 1) (b + 1) (r + 1) 9 x1 sc (d + 1) k1 (by rw [oI_s]; exact k4) (fun i i1 i2 => hth i (by omega) (by simp only [sp_z] at i2; omega)) R hR
  · intro c hs hv
    have hns : ¬ stS (sp_s c) := nS_nm hs
    refine ⟨⟨_, _, rfl, hns⟩, ?_⟩
    intro b rb o oi pt r sc d hB ho hth R hR
    obtain ⟨h1, h2⟩ := hB
    subst h1
    rw [nL_e1 hns (by rintro ⟨u, v, e⟩; cases e)] at hR
    rcases List.mem_cons.mp hR with e | hR
    · rw [e]
      exact rRow_e hns ⟨⟨h2, ho⟩, hth r (by omega) (by simp only [sp_z]; omega)⟩
    · rw [nL.eq_def] at hR; exact absurd hR List.not_mem_nil
  · intro c hs hv
    have hns : ¬ stS (sp_s c) := nS_lf hs
    refine ⟨⟨_, _, rfl, hns⟩, ?_⟩
    intro b rb o oi pt r sc d hB ho hth R hR
    obtain ⟨h1, h2⟩ := hB
    subst h1
    rw [nL_e1 hns (by rintro ⟨u, v, e⟩; cases e)] at hR
    rcases List.mem_cons.mp hR with e | hR
    · rw [e]
      exact rRow_e hns ⟨⟨h2, ho⟩, hth r (by omega) (by simp only [sp_z]; omega)⟩
    · rw [nL.eq_def] at hR; exact absurd hR List.not_mem_nil
theorem BlkS_nL {t : Std.Format} (ht : fT V t) : ∀ (b o oi pt : Nat) (sc : sc_T) (d : Nat), BlkS a W t b (oI oi) pt sc → ∀ R ∈ nL t b b o oi pt sc d, rRow a W R := by
  refine fT_ind (V := V) (M := fun t => ∀ (b o oi pt : Nat) (sc : sc_T) (d : Nat), BlkS a W t b (oI oi) pt sc → ∀ R ∈ nL t b b o oi pt sc d, rRow a W R) ?_ ?_ ?_ ?_ ?_ ?_ ?_ _ t (Nat.lt_succ_self _) ht
  · intro x y hx hy b o oi pt sc d hB R hR
    rw [nL_a] at hR
    rcases List.mem_append.mp hR with hR | hR
    · exact hx _ _ _ _ _ _ hB.1 R hR
    · exact hy _ _ _ _ _ _ hB.2 R hR
  · intro b o oi pt sc d hB R hR
    rw [nL.eq_def] at hR; exact absurd hR List.not_mem_nil
  · intro b o oi pt sc d hB R hR
    rw [nL.eq_def] at hR; exact absurd hR List.not_mem_nil
  · intro c x hs h8 hx b o oi pt sc d hB R hR
    unfold BlkS at hB
    rw [if_pos hs, if_neg h8] at hB
    rw [nL_S hs h8] at hR
    rcases List.mem_cons.mp hR with e | hR
    · rw [e]
      exact rRow_S hs hB.1
    · exact hx _ _ _ _ _ _ (by rw [oI_s]; exact hB.2) R hR
  · intro c u v w h8 _ hu hv hw b o oi pt sc d hB R hR
    have hs : stS (sp_s c) := by rw [h8]; unfold stS; omega
    unfold BlkS at hB
    rw [if_pos hs, if_pos h8] at hB
    rw [nL_84 h8] at hR
    rcases List.mem_cons.mp hR with e | hR
    · rw [e]
      exact rRow_S hs hB.1
    · rcases List.mem_append.mp hR with hR | hR
      · exact hu _ _ _ _ _ _ (by rw [oI_s]; exact hB.2.1) R hR
      · rcases List.mem_append.mp hR with hR | hR
        · exact hv _ _ _ _ _ _ (by rw [oI_s]; exact hB.2.2.1) R hR
        · exact hw _ _ _ _ _ _ (by rw [oI_s]; exact hB.2.2.2) R hR
  · intro c u v hs he hu hv b o oi pt sc d hB R hR
    unfold BlkS at hB
    rw [if_neg hs] at hB
    obtain ⟨r, ⟨h1, h2⟩, h3⟩ := hB
    exact Blk_nL he _ _ _ _ _ r _ _ h1 h2 h3 R hR
  · intro c x hs he hx _ b o oi pt sc d hB R hR
    unfold BlkS at hB
    rw [if_neg hs] at hB
    obtain ⟨r, ⟨h1, h2⟩, h3⟩ := hB
    exact Blk_nL he _ _ _ _ _ r _ _ h1 h2 h3 R hR
theorem get_cons {α : Type} {x y : α} {l : List α} {i : Nat} (h : (x :: l)[i]? = some y) : (i = 0 ∧ x = y) ∨ ∃ j, i = j + 1 ∧ l[j]? = some y := by
  cases i with
  | zero => simp at h; exact Or.inl ⟨rfl, h⟩
  | succ j => simp at h; exact Or.inr ⟨j, rfl, h⟩
theorem get_app {α : Type} {y : α} {l m : List α} {i : Nat} (h : (l ++ m)[i]? = some y) : l[i]? = some y ∨ ∃ j, i = l.length + j ∧ m[j]? = some y := by
  by_cases c : i < l.length
  · rw [List.getElem?_append_left c] at h; exact Or.inl h
  · rw [List.getElem?_append_right (by omega)] at h
    exact Or.inr ⟨i - l.length, by omega, h⟩
theorem PrS_nL {t : Std.Format} (ht : fT V t) : ∀ (b rb o oi pt : Nat) (sc : sc_T) (d : Nat), PrS a W t b sc → ∀ (i : Nat) (R : NR), (nL t b rb o oi pt sc d)[i]? = some R → cRow a W (b + i) R := by
  suffices hh : fT V t ∧ ∀ (b rb o oi pt : Nat) (sc : sc_T) (d : Nat), PrS a W t b sc → ∀ (i : Nat) (R : NR), (nL t b rb o oi pt sc d)[i]? = some R → cRow a W (b + i) R from hh.2
  refine fT_ind (V := V) (M := fun t => fT V t ∧ ∀ (b rb o oi pt : Nat) (sc : sc_T) (d : Nat), PrS a W t b sc → ∀ (i : Nat) (R : NR), (nL t b rb o oi pt sc d)[i]? = some R → cRow a W (b + i) R) ?_ ?_ ?_ ?_ ?_ ?_ ?_ _ t (Nat.lt_succ_self _) ht
  · intro x y hx hy
    refine ⟨⟨hx.1, hy.1⟩, ?_⟩
    intro b rb o oi pt sc d hP i R hR
    rw [nL_a] at hR
    rcases get_app hR with hR | ⟨j, e, hR⟩
    · exact hx.2 _ _ _ _ _ _ _ hP.1 i R hR
    · rw [nL_len hx.1] at e
      rw [e, ← Nat.add_assoc]
      exact hy.2 _ _ _ _ _ _ _ hP.2 j R hR
  · refine ⟨trivial, ?_⟩
    intro b rb o oi pt sc d hP i R hR
    rw [nL.eq_def] at hR; simp at hR
  · refine ⟨trivial, ?_⟩
    intro b rb o oi pt sc d hP i R hR
    rw [nL.eq_def] at hR; simp at hR
  · intro c x hs h8 hx
    refine ⟨(fT_S hs).mpr ⟨fun q => absurd q h8, hx.1⟩, ?_⟩
    intro b rb o oi pt sc d hP i R hR
    unfold PrS at hP
    rw [if_pos hs, if_neg h8] at hP
    rw [nL_S hs h8] at hR
    rcases get_cons hR with ⟨e, e2⟩ | ⟨j, e, hR⟩
    · rw [← e2, e]
      exact cRow_S hs h8 ⟨hP.1, hP.2.1⟩
    · rw [e, show b + (j + 1) = b + 1 + j by omega]
      exact hx.2 _ _ _ _ _ _ _ hP.2.2 j R hR
  · intro c u v w h8 h8c hu hv hw
    have hs : stS (sp_s c) := by rw [h8]; unfold stS; omega
    refine ⟨(fT_S hs).mpr ⟨fun _ => ⟨u, v, w, rfl, h8c⟩, hu.1, hv.1, hw.1⟩, ?_⟩
    intro b rb o oi pt sc d hP i R hR
    unfold PrS at hP
    rw [if_pos hs, if_pos h8] at hP
    simp only at hP
    rw [nL_84 h8] at hR
    rcases get_cons hR with ⟨e, e2⟩ | ⟨j, e, hR⟩
    · rw [← e2, e]
      exact cRow_84 h8 ⟨hP.1, hP.2.1⟩
    · rcases get_app hR with hR | ⟨j2, e2, hR⟩
      · rw [e, show b + (j + 1) = b + 1 + j by omega]
        exact hu.2 _ _ _ _ _ _ _ hP.2.2.1 j R hR
      · rw [nL_len hu.1] at e2
        rcases get_app hR with hR | ⟨j3, e3, hR⟩
        · rw [e, e2, show b + (sp_z u + j2 + 1) = b + 1 + sp_z u + j2 by omega]
          exact hv.2 _ _ _ _ _ _ _ hP.2.2.2.1 j2 R hR
        · rw [nL_len hv.1] at e3
          rw [e, e2, e3, show b + (sp_z u + (sp_z v + j3) + 1) = b + 1 + sp_z u + sp_z v + j3 by omega]
          exact hw.2 _ _ _ _ _ _ _ hP.2.2.2.2 j3 R hR
  · intro c u v hs he hu hv
    refine ⟨fT_e he, ?_⟩
    intro b rb o oi pt sc d hP i R hR
    unfold PrS at hP
    rw [if_neg hs] at hP
    obtain ⟨⟨h1, h2, h3⟩, h4⟩ := hP
    simp only [sp_z] at h4
    rw [nL_e2 hs] at hR
    obtain ⟨-, h5 | ⟨h5, -⟩⟩ := eW_shape he
    · obtain ⟨u', v', e, hu', hv'⟩ := h5
      cases e
      have hPu : PrS a W u (b + 1) sc := PrS_e hu' h2 (fun k k1 k2 => h4 k (by omega) (by omega))
      have hPv : PrS a W v (b + 1 + sp_z u) sc := by
        rcases hv' with hv' | ⟨y, z, rfl, hy, hz⟩
        · exact PrS_e hv' h3 (fun k k1 k2 => h4 k (by omega) (by omega))
        · simp only [sp_z] at h4
          refine ⟨PrS_e hy h3.1 (fun k k1 k2 => h4 k (by omega) (by omega)), ?_⟩
          rw [scA_eW hy]
          exact PrS_e hz h3.2 (fun k k1 k2 => h4 k (by omega) (by omega))
      rcases get_cons hR with ⟨e, e2⟩ | ⟨j, e, hR⟩
      · rw [← e2, e]
        exact cRow_e hs ⟨h1, h4 b (Nat.le_refl _) (by omega)⟩
      · rcases get_app hR with hR | ⟨j2, e2, hR⟩
        · rw [e, show b + (j + 1) = b + 1 + j by omega]
          exact hu.2 _ _ _ _ _ _ _ hPu j R hR
        · rw [nL_len hu.1] at e2
          rw [e, e2, show b + (sp_z u + j2 + 1) = b + 1 + sp_z u + j2 by omega]
          exact hv.2 _ _ _ _ _ _ _ hPv j2 R hR
    · exact absurd ⟨u, v, rfl⟩ h5
  · intro c x hs he hx hM
    refine ⟨fT_e he, ?_⟩
    intro b rb o oi pt sc d hP i R hR
    unfold PrS at hP
    rw [if_neg hs] at hP
    obtain ⟨⟨h1, h2⟩, h4⟩ := hP
    simp only [sp_z] at h4
    rw [nL_e1 hs hx] at hR
    have hPx : PrS a W x (b + 1) sc := by
      obtain ⟨-, ⟨u, v, e, -⟩ | ⟨-, h5⟩⟩ := eW_shape he
      · exact absurd ⟨u, v, e⟩ hx
      · rcases h5 with rfl | h5
        · trivial
        · exact PrS_e h5 h2 (fun k k1 k2 => h4 k (by omega) (by omega))
    rcases get_cons hR with ⟨e, e2⟩ | ⟨j, e, hR⟩
    · rw [← e2, e]
      exact cRow_e hs ⟨h1, h4 b (Nat.le_refl _) (by omega)⟩
    · rw [e, show b + (j + 1) = b + 1 + j by omega]
      exact hM.2 _ _ _ _ _ _ _ hPx j R hR
end RW
