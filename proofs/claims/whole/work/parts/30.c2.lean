theorem fnd_congr {a a' : Nat → Nat → Int32} (h : a' c_V_name = a c_V_name) (c th : Int32) : ∀ k v, fnd a' c th k v = fnd a c th k v := by
  intro k
  induction k with
  | zero => intro v; rfl
  | succ k ih =>
    intro v
    show (if thB th v ∧ a' c_V_name v = c then nI v else fnd a' c th k (v + 1)) = (if thB th v ∧ a c_V_name v = c then nI v else fnd a c th k (v + 1))
    rw [h, ih]
/-- what the class's reading of an e is given -/
def cCx (n V : Nat) (th : Int32) (nm tx : Nat → Int32) (m : Nat → Int32) (a : Nat → Nat → Int32) : Prop := (n ≤ 240 ∧ V ≤ 12) ∧ (m c_R_length = nI n ∧ m c_R_there = th ∧ m c_V_size = nI V) ∧ a c_A_collected = tx ∧ ∀ u, u < 26 → fnd a (nI (u + 97)) th V 0 = nm u ∧ (nm u = -1 ∨ ∃ v, v < 12 ∧ nm u = nI v)
theorem cCx_tr {n V : Nat} {th : Int32} {nm tx : Nat → Int32} {m m' : Nat → Int32} {a a' : Nat → Nat → Int32} {b : Nat} (h : cCx n V th nm tx m a) (hm : Cm m m') (ha : Ce a a' b) : cCx n V th nm tx m' a' := by
  obtain ⟨h1, ⟨h2, h3, h4⟩, h5, h6⟩ := h
  refine ⟨h1, ⟨(hm 6 (by decide)).trans h2, (hm 9 (by decide)).trans h3, (hm 10 (by decide)).trans h4⟩, (Ce_oth ha (by decide)).trans h5, fun u hu => ?_⟩
  rw [fnd_congr (Ce_oth ha (by decide))]
  exact h6 u hu
def cF (l : Nat → Nat → Int64) (w : Int64) (P : pv_R) (m : Nat → Int32) (a : Nat → Nat → Int32) (q : Nat) : Prop := ∀ (m' : Nat → Int32) (a' : Nat → Nat → Int32) (B : Nat), Cm m m' → m' c_R_faultAt = nI q → (m' c_P_size = nI B ∧ B ≤ 241) → Ce a a' 0 → P (some (.int 0)) (cs m' a' l w)
/-- the counts of uses and assigns -/
def cnt (U A : Nat → Int32) (a : Nat → Nat → Int32) (u : Std.Format) : Prop := ∀ v, v < 12 → a c_V_uses v = U v + nI (cU v u) ∧ a c_V_assigns v = A v + nI (cA v u)
def cPost (l : Nat → Nat → Int64) (w : Int64) (n : Nat) (th : Int32) (tx U A : Nat → Int32) (P : pv_R) (m : Nat → Int32) (a : Nat → Nat → Int32) (b : Nat) (r : sp_R) : Prop := match r with
  | .inl q => cF l w P m a q
  | .inr (q, u) => ∀ (m' : Nat → Int32) (a' : Nat → Nat → Int32) (p0 : Nat), Cm m m' → (m' c_P_size = nI (b + sp_z u) ∧ m' c_R_at = nI p0) → (p0 ≤ n ∧ sp_x tx n p0 = q) → Ce a a' b → PrE a' u b → (∀ i, b ≤ i → i < b + sp_z u → unf a' th i) → cnt U A a' u → P (some (.int 1)) (cs m' a' l w)
theorem cF_tr {l : Nat → Nat → Int64} {w : Int64} {P : pv_R} {m m' : Nat → Int32} {a a' : Nat → Nat → Int32} {q b : Nat} (h : cF l w P m a q) (hm : Cm m m') (ha : Ce a a' b) : cF l w P m' a' q := fun m2 a2 B k1 k2 k3 k4 => h m2 a2 B (Cm_trans hm k1) k2 k3 (Ce_trans (Ce_trans (Ce_refl a 0) ha (Nat.zero_le _)) k4 (Nat.le_refl _))
theorem cPost_tr {l : Nat → Nat → Int64} {w : Int64} {n : Nat} {th : Int32} {tx U A : Nat → Int32} {P : pv_R} {m m' : Nat → Int32} {a a' : Nat → Nat → Int32} {b B : Nat} {r : sp_R} (h : cPost l w n th tx U A P m a b r) (hm : Cm m m') (ha : Ce a a' B) (hB : b ≤ B) : cPost l w n th tx U A P m' a' b r := by
  rcases r with q | ⟨q, u⟩
  · exact cF_tr h hm ha
  · exact fun m2 a2 p0 k1 k2 k3 k4 => h m2 a2 p0 (Cm_trans hm k1) k2 k3 (Ce_trans (Ce_trans (Ce_refl a b) ha hB) k4 (Nat.le_refl _))
def cPre (n V : Nat) (th : Int32) (nm tx : Nat → Int32) (m : Nat → Int32) (a : Nat → Nat → Int32) (p p0 b : Nat) : Prop := cCx n V th nm tx m a ∧ (m c_R_at = nI p0 ∧ p0 ≤ n ∧ sp_x tx n p0 = p) ∧ (m c_P_size = nI b ∧ b + (n - p) ≤ 241)
section CT
variable (l : Nat → Nat → Int64) (w : Int64) (n V : Nat) (th : Int32) (nm tx : Nat → Int32)
def cT (g : Nat) (mth : Nat) (f : Nat) : Prop := ∀ (D lv p p0 b : Nat) (m : Nat → Int32) (a : Nat → Nat → Int32) (U A : Nat → Int32) (P : pv_R), cPre n V th nm tx m a p p0 b → lv ≤ 30 → 8 * (n - p) + (5 - g) < f → 5 * (30 - lv) + (8 - g) ≤ D → cnt U A a .nil → cPost l w n th tx U A P m a b (sp_e tx n nm f g lv p .nil) → pv_call cq_mt D mth [.ref 3, .int (nI lv)] (cs m a l w) P
def cTl (g : Nat) (T : pvT) (f : Nat) : Prop := ∀ (D lv p p0 b k : Nat) (v : Std.Format) (m : Nat → Int32) (a : Nat → Nat → Int32) (U A : Nat → Int32) (P : pv_R), cPre n V th nm tx m a p p0 (b + sp_z v) → lv < 30 → 8 * (n - p) + 2 < f → 5 * (30 - lv) + (10 - g) ≤ D → k < p → (sp_ok v ∧ PrE a v b ∧ ∀ i, b ≤ i → i < b + sp_z v → unf a th i) → cnt U A a v → cPost l w n th tx U A P m a b (sp_e tx n nm f g lv p v) → pv_go T 1 (pv_call cq_mt D) P (17, kL lv b 1 k, [], cs m a l w)
end CT
section CS
variable {l : Nat → Nat → Int64} {w : Int64} {n V : Nat} {th : Int32} {nm tx : Nat → Int32}
theorem Ce_upa {a a' : Nat → Nat → Int32} {b k : Nat} {f : Nat → Int32} (h : Ce a a' b) (hk : (2 ≤ k ∧ k ≤ 6) ∨ (11 ≤ k ∧ k ≤ 15)) (hf : ∀ i, i < b → f i = a' k i) : Ce a (upa a' k f) b := fun j i q => by
  unfold upa
  by_cases e : j = k
  · rw [if_pos e, hf i (q.1 (by rw [e]; exact hk)), ← e]
    exact h j i q
  · rw [if_neg e]
    exact h j i q
theorem cpy_lt (f : Nat → Int32) {b k i : Nat} (hi : i ≤ b) : va_cpy f f b (b + 1) k i = f i := by
  unfold va_cpy
  rw [if_neg (by omega)]
theorem cpy_in (f : Nat → Int32) {b k i : Nat} (h1 : b ≤ i) (h2 : i < b + k) : va_cpy f f b (b + 1) k (i + 1) = f i := by
  unfold va_cpy
  rw [if_pos (by omega), show b + (i + 1 - (b + 1)) = i by omega]
/-- a tree's nodes moved by one, its operator ahead: what the rows are then -/
theorem wrA_row (a : Nat → Nat → Int32) {B b : Nat} (s : Int32) (hb : b < B) : (∀ i, b ≤ i → i < B → (wrA a B b s c_P_sort (i + 1) = a c_P_sort i ∧ wrA a B b s c_P_first (i + 1) = a c_P_first i) ∧ (wrA a B b s c_P_named (i + 1) = a c_P_named i ∧ wrA a B b s c_P_end (i + 1) = a c_P_end i + 1)) ∧ ((wrA a B b s c_P_sort b = s ∧ wrA a B b s c_P_first b = a c_P_first b) ∧ wrA a B b s c_P_named b = -1) ∧ Ce a (wrA a B b s) b := by
  have e2 : ∀ j, wrA a B b s c_P_sort j = if j = b then s else va_cpy (fun j => if j = B then s else a c_P_sort j) (fun j => if j = B then s else a c_P_sort j) b (b + 1) (B - b) j := fun j => rfl
  have e3 : ∀ j, wrA a B b s c_P_first j = va_cpy (fun j => if j = B then a c_P_first b else a c_P_first j) (fun j => if j = B then a c_P_first b else a c_P_first j) b (b + 1) (B - b) j := fun j => rfl
  have e4 : ∀ j, wrA a B b s c_P_named j = if j = b then -1 else va_cpy (fun j => if j = B then -1 else a c_P_named j) (fun j => if j = B then -1 else a c_P_named j) b (b + 1) (B - b) j := fun j => rfl
  have e6 : ∀ j, wrA a B b s c_P_end j = if b + 1 ≤ j ∧ j < B + 1 then va_cpy (fun j => if j = B then nI (B + 1) else a c_P_end j) (fun j => if j = B then nI (B + 1) else a c_P_end j) b (b + 1) (B - b) j + 1 else va_cpy (fun j => if j = B then nI (B + 1) else a c_P_end j) (fun j => if j = B then nI (B + 1) else a c_P_end j) b (b + 1) (B - b) j := fun j => rfl
  refine ⟨fun i h1 h2 => ⟨⟨?_, ?_⟩, ?_, ?_⟩, ⟨⟨?_, ?_⟩, ?_⟩, ?_⟩
  · rw [e2, if_neg (by omega), cpy_in _ h1 (by omega)]
    exact if_neg (by omega)
  · rw [e3, cpy_in _ h1 (by omega)]
    exact if_neg (by omega)
  · rw [e4, if_neg (by omega), cpy_in _ h1 (by omega)]
    exact if_neg (by omega)
  · rw [e6, if_pos (by omega), cpy_in _ h1 (by omega)]
    exact congrArg (· + 1) (if_neg (by omega))
  · rw [e2, if_pos rfl]
  · rw [e3, cpy_lt _ (Nat.le_refl _)]
    exact if_neg (by omega)
  · rw [e4, if_pos rfl]
  · unfold wrA
    refine Ce_up (Ce_up (Ce_upa (Ce_upa (Ce_upa (Ce_upa (Ce_upa (Ce_ap (Ce_refl a b) (by omega) _ _ _ _) (by decide) (fun i hi => cpy_lt _ (by omega))) (by decide) (fun i hi => cpy_lt _ (by omega))) (by decide) (fun i hi => cpy_lt _ (by omega))) (by decide) (fun i hi => cpy_lt _ (by omega))) (by decide) (fun i hi => ?_)) _ (by decide) (Nat.le_refl _)) _ (by decide) (Nat.le_refl _)
    unfold incR
    rw [if_neg (by omega)]
theorem wrA_unf {a : Nat → Nat → Int32} {th : Int32} {B b : Nat} (s : Int32) (hb : b < B) (h : ∀ i, b ≤ i → i < B → unf a th i) : ∀ i, b ≤ i → i < B + 1 → unf (wrA a B b s) th i := by
  intro i h1 h2
  have e5 : wrA a B b s c_P_there i = if i = B then a c_P_there b else a c_P_there i := rfl
  have e11 : wrA a B b s c_P_target i = if i = B then -1 else a c_P_target i := rfl
  have e12 : wrA a B b s c_P_catchFrom i = if i = B then -1 else a c_P_catchFrom i := rfl
  have e13 : wrA a B b s c_P_finallyFrom i = if i = B then -1 else a c_P_finallyFrom i := rfl
  have e14 : wrA a B b s c_P_isEntered i = if i = B then 0 else a c_P_isEntered i := rfl
  have e15 : wrA a B b s c_P_isSkipped i = if i = B then 0 else a c_P_isSkipped i := rfl
  unfold unf
  rw [e5, e11, e12, e13, e14, e15]
  by_cases e : i = B
  · rw [if_pos e, if_pos e, if_pos e, if_pos e, if_pos e, if_pos e]
    exact ⟨⟨(h b (Nat.le_refl _) hb).1.1, rfl⟩, ⟨rfl, rfl⟩, rfl, rfl⟩
  · rw [if_neg e, if_neg e, if_neg e, if_neg e, if_neg e, if_neg e]
    exact h i h1 (by omega)
/-- an operator with its two sides -/
theorem PrE_2 {a2 a' : Nat → Nat → Int32} {v u : Std.Format} {b s f : Nat} (hs : s < 256) (hf : f < 256) (hv : PrE a2 v (b + 1)) (h0 : (a2 c_P_sort b = nI s ∧ a2 c_P_first b = nI f) ∧ a2 c_P_named b = -1) (hC : Ce a2 a' (b + 1 + sp_z v)) (hu : PrE a' u (b + 1 + sp_z v)) : PrE (up2 a' c_P_end b (nI (b + 1 + sp_z v + sp_z u))) (.tag (sp_n s f 0) (.append v u)) b := by
  have hne : ∀ j i, b + 1 ≤ i → (up2 a' c_P_end b (nI (b + 1 + sp_z v + sp_z u))) j i = a' j i := fun j i hi => up2_ne _ _ (fun q => by have := q.2; omega)
  refine ⟨⟨⟨?_, ?_⟩, ?_, ?_⟩, PrE_same v _ (fun i i1 _ => ⟨⟨hne _ _ i1, hne _ _ i1⟩, hne _ _ i1, hne _ _ i1⟩) (PrE_Ce hC (by omega) hv), PrE_same u _ (fun i i1 _ => ⟨⟨hne _ _ (by omega), hne _ _ (by omega)⟩, hne _ _ (by omega), hne _ _ (by omega)⟩) hu⟩
  · rw [sp_s_n hs hf]; exact (up2_ne _ _ (fun q => absurd q.1 (by decide))).trans ((Ce_row hC (by decide) (by omega)).trans h0.1.1)
  · rw [sp_f_n hs hf]; exact (up2_ne _ _ (fun q => absurd q.1 (by decide))).trans ((Ce_row hC (by decide) (by omega)).trans h0.1.2)
  · rw [sp_v_n hs hf, show nI 0 - 1 = (-1 : Int32) by decide]; exact (up2_ne _ _ (fun q => absurd q.1 (by decide))).trans ((Ce_row hC (by decide) (by omega)).trans h0.2)
  · rw [up2_eq]
    congr 1
    simp only [sp_z]
    omega
theorem cnt_2 {U A : Nat → Int32} {a a' : Nat → Nat → Int32} {v u : Std.Format} {s f : Nat} (hs : s < 256) (hf : f < 256) (h1 : cnt (a c_V_uses) (a c_V_assigns) a' u) (h2 : cnt U A a v) : cnt U A a' (.tag (sp_n s f 0) (.append v u)) := by
  intro x hx
  obtain ⟨k1, k2⟩ := h1 x hx
  obtain ⟨k3, k4⟩ := h2 x hx
  have e1 : cU x (.tag (sp_n s f 0) (.append v u)) = cU x v + cU x u := by
    show (if sp_v (sp_n s f 0) = x + 1 ∧ ¬ sp_s (sp_n s f 0) = 61 then 1 else 0) + (cU x v + cU x u) = _
    rw [sp_v_n hs hf, if_neg (by omega)]; omega
  have e2 : cA x (.tag (sp_n s f 0) (.append v u)) = cA x v + cA x u := by
    show (if sp_v (sp_n s f 0) = x + 1 ∧ sp_s (sp_n s f 0) = 61 then 1 else 0) + (cA x v + cA x u) = _
    rw [sp_v_n hs hf, if_neg (by omega)]; omega
  rw [e1, e2, k1, k2, k3, k4, ← nI_add, ← nI_add, Int32.add_assoc, Int32.add_assoc]
  exact ⟨rfl, rfl⟩
theorem cnt_nil (a : Nat → Nat → Int32) : cnt (a c_V_uses) (a c_V_assigns) a .nil := fun x _ => ⟨(Int32.add_zero _).symm, (Int32.add_zero _).symm⟩
theorem cTl_step {g mth c : Nat} {T : pvT} {f : Nat} {cI : Int32} (hg : (g = 6 ∧ c = 38) ∨ (g = 5 ∧ c = 124)) (hcI : cI = nI c)
    (L : ∀ (d : Nat) (m : Nat → Int32) (a : Nat → Nat → Int32) {n p lv b B k : Nat}, n ≤ 240 → p ≤ n → m c_R_at = nI p → m c_R_length = nI n → k < 240 → b < B → (sp_c (a c_A_collected) n (sp_x (a c_A_collected) n p) = cI → B < 241) → B ≤ 241 → m c_P_size = nI B → ∀ P : pv_R, (¬ sp_c (a c_A_collected) n (sp_x (a c_A_collected) n p) = cI → P (some (.int 1)) (cs (upd m c_R_at (nI (sp_x (a c_A_collected) n p))) a l w)) → (sp_c (a c_A_collected) n (sp_x (a c_A_collected) n p) = cI → pv_call cq_mt (d + 3) mth [.ref 3, .int (nI lv)] (cs (upd (upd (upd m c_R_at (nI (sp_x (a c_A_collected) n p))) c_P_size (nI (B + 1))) c_R_at (nI (sp_x (a c_A_collected) n p + 1))) (wrA a B b cI) l w) (bq l w (clF l w b (fun S => P (some (.int 0)) S)) (fun m' a' => ∃ B', (b < B' ∧ B' ≤ 241 ∧ m' c_P_size = nI B') ∧ pv_go T 1 (pv_call cq_mt (d + 3)) P (17, kL lv b 1 (k + 1), [], cs m' (up2 a' c_P_end b (nI B')) l w)))) → pv_go T 1 (pv_call cq_mt (d + 3)) P (17, kL lv b 1 k, [], cs m a l w))
    (hsp : ∀ (k lv p : Nat) (t : Std.Format), sp_e tx n nm (k + 1) g lv p t = if sp_c tx n p = cI then sp_b (sp_e tx n nm k (g - 2) lv (sp_x tx n (p + 1)) .nil) fun q u => sp_e tx n nm k g lv q (.tag (sp_n c (sp_1 t) 0) (.append t u)) else .inr (p, t))
    (i1 : cT l w n V th nm tx (g - 2) mth f) (i2 : cTl l w n V th nm tx g T f) : cTl l w n V th nm tx g T (f + 1) := by
  intro D lv p p0 b k v m a U A P hpre hlv hf hD hk hv hcnt hpost
  obtain ⟨hC, ⟨hat, hp0, hpx⟩, hs, hb⟩ := hpre
  obtain ⟨⟨hn, hV⟩, ⟨hlen, hth, hvs⟩, htx, hnm⟩ := hC
  have hCx : cCx n V th nm tx m a := ⟨⟨hn, hV⟩, ⟨hlen, hth, hvs⟩, htx, hnm⟩
  have x0 := sp_x_le (tx := tx) hp0
  rw [hpx] at x0
  have hpp : sp_x tx n p = p := by rw [← hpx]; exact sp_x_x hp0
  have hzv : 1 ≤ sp_z v := by
    obtain ⟨h1, -⟩ := hv
    cases v with
    | tag _ _ => simp [sp_z]
    | _ => exact h1.elim
  obtain ⟨d, rfl⟩ : ∃ d, D = d + 3 := ⟨D - 3, by omega⟩
  have hcI0 : ¬ cI = -1 := by rw [hcI]; exact nI_m1 (by omega)
  rw [hsp] at hpost
  by_cases hk240 : k < 240
  · refine L d m a hn hp0 hat hlen hk240 (by omega) (fun e => ?_) (by omega) hs P (fun e => ?_) (fun e => ?_)
    · rw [htx, hpx] at e
      have := sp_c_lt e hcI0
      omega
    · rw [htx, hpx] at e ⊢
      rw [if_neg e] at hpost
      exact hpost _ a p (Cm_up (Cm_refl m) _ (by decide)) ⟨hs, rfl⟩ ⟨x0.2, hpp⟩ (Ce_refl a b) hv.2.1 hv.2.2 hcnt
    · rw [htx, hpx] at e ⊢
      rw [if_pos e] at hpost
      have hpn := sp_c_lt e hcI0
      have x1 := sp_x_le (tx := tx) (n := n) (p := p + 1) (by omega)
      obtain ⟨w1, w2, w3⟩ := wrA_row a cI (show b < b + sp_z v by omega)
      have w4 := wrA_unf cI (show b < b + sp_z v by omega) hv.2.2
      have wu : (wrA a (b + sp_z v) b cI) c_V_uses = a c_V_uses := rfl
      have wa : (wrA a (b + sp_z v) b cI) c_V_assigns = a c_V_assigns := rfl
      have hf1 := PrE_first hv.1 hv.2.1
      generalize wrA a (b + sp_z v) b cI = a2 at *
      have hv2 : PrE a2 v (b + 1) := PrE_shift v b (b + 1) w1 rfl hv.2.1
      have hm2 : Cm m (upd (upd (upd m c_R_at (nI p)) c_P_size (nI (b + sp_z v + 1))) c_R_at (nI (p + 1))) := Cm_up (Cm_up (Cm_up (Cm_refl m) _ (by decide)) _ (by decide)) _ (by decide)
      have hs2 : (upd (upd (upd m c_R_at (nI p)) c_P_size (nI (b + sp_z v + 1))) c_R_at (nI (p + 1))) c_P_size = nI (b + sp_z v + 1) := rfl
      have hat2 : (upd (upd (upd m c_R_at (nI p)) c_P_size (nI (b + sp_z v + 1))) c_R_at (nI (p + 1))) c_R_at = nI (p + 1) := rfl
      generalize upd (upd (upd m c_R_at (nI p)) c_P_size (nI (b + sp_z v + 1))) c_R_at (nI (p + 1)) = m2 at *
      refine i1 (d + 3) lv (sp_x tx n (p + 1)) (p + 1) (b + sp_z v + 1) m2 a2 (a2 c_V_uses) (a2 c_V_assigns) _ ⟨cCx_tr hCx hm2 w3, ⟨hat2, by omega, rfl⟩, hs2, by omega⟩ (by omega) (by omega) (by omega) (cnt_nil a2) ?_
      cases hr : sp_e tx n nm f (g - 2) lv (sp_x tx n (p + 1)) .nil with
      | inl q =>
        rw [hr] at hpost
        intro m' a' B' k1 k2 k3 k4
        have hz : Ce a a' 0 := Ce_trans (Ce_trans (Ce_refl a 0) w3 (Nat.zero_le _)) k4 (Nat.le_refl _)
        exact Or.inl ⟨rfl, m', a', B', ⟨rfl, k3.1, k3.2⟩, hpost m' a' B' (Cm_trans hm2 k1) k2 k3 hz, hpost m' _ B' (Cm_trans hm2 k1) k2 k3 (Ce_up hz _ (by decide) (Nat.zero_le _))⟩
      | inr qu =>
        obtain ⟨q, u⟩ := qu
        rw [hr] at hpost
        obtain ⟨⟨⟨g1, g2⟩, ⟨g3, g4⟩, g5⟩, -⟩ := sp_e_good f (g - 2) lv _ .nil q u (by omega) x1.2 (by omega) hr
        simp only [show ¬ (g - 2 = 5 ∨ g - 2 = 6) by omega, if_false] at g1 g5
        intro m' a' p1 k1 k2 k3 k4 k5 k6 k7
        have hst : sp_s (sp_n c (sp_1 v) 0) = c := sp_s_n (by omega) (sp_1_lt v)
        refine Or.inr ⟨rfl, m', a', rfl, b + sp_z v + 1 + sp_z u, ⟨by omega, by omega, k2.1⟩, ?_⟩
        have k4' : Ce a2 a' (b + 1 + sp_z v) := by rw [show b + 1 + sp_z v = b + sp_z v + 1 by omega]; exact k4
        have k5' : PrE a' u (b + 1 + sp_z v) := by rw [show b + 1 + sp_z v = b + sp_z v + 1 by omega]; exact k5
        have hT := PrE_2 (s := c) (f := sp_1 v) (by omega) (sp_1_lt v) hv2 ⟨⟨by rw [w2.1.1, hcI], by rw [w2.1.2]; exact hf1⟩, w2.2⟩ k4' k5'
        have ez : b + sp_z (.tag (sp_n c (sp_1 v) 0) (.append v u)) = b + sp_z v + 1 + sp_z u := by simp only [sp_z]; omega
        have hCa : Ce a (up2 a' c_P_end b (nI (b + sp_z v + 1 + sp_z u))) b := Ce_up (Ce_trans w3 k4 (by omega)) _ (by decide) (Nat.le_refl _)
        have hma : Cm m m' := Cm_trans hm2 k1
        rw [show b + 1 + sp_z v + sp_z u = b + sp_z v + 1 + sp_z u by omega] at hT
        refine i2 (d + 3) lv q p1 b (k + 1) (.tag (sp_n c (sp_1 v) 0) (.append v u)) m' _ U A P ⟨cCx_tr hCx hma hCa, ⟨k2.2, k3⟩, by rw [ez]; exact k2.1, by rw [ez]; omega⟩ hlv (by omega) hD (by omega) ⟨sp_ok_2 hv.1 g4, hT, fun i i1 i2 => ?_⟩ ?_ (cPost_tr hpost hma hCa (Nat.le_refl _))
        · rw [ez] at i2
          have hun : unf a' th i := by
            by_cases e : i < b + sp_z v + 1
            · exact unf_Ce k4 e (w4 i i1 e)
            · exact k6 i (by omega) i2
          exact ⟨⟨(up2_ne _ _ (fun q => absurd q.1 (by decide))).trans hun.1.1, (up2_ne _ _ (fun q => absurd q.1 (by decide))).trans hun.1.2⟩, ⟨(up2_ne _ _ (fun q => absurd q.1 (by decide))).trans hun.2.1.1, (up2_ne _ _ (fun q => absurd q.1 (by decide))).trans hun.2.1.2⟩, (up2_ne _ _ (fun q => absurd q.1 (by decide))).trans hun.2.2.1, (up2_ne _ _ (fun q => absurd q.1 (by decide))).trans hun.2.2.2⟩
        · rw [wu, wa] at k7
          exact cnt_2 (a' := up2 a' c_P_end b (nI (b + sp_z v + 1 + sp_z u))) (by omega) (sp_1_lt v) k7 hcnt
  · exfalso
    omega
end CS
