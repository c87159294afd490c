def cSt (tx : Nat → Int32) (n : Nat) (m : Nat → Int32) (a : Nat → Nat → Int32) (cx : cx_T) (b p V : Nat) (sc : sc_T) : Prop :=
  ((n ≤ 240 ∧ V ≤ 12) ∧ (m c_R_length = nI n ∧ m c_R_there = thOf sc ∧ m c_V_size = nI V)) ∧
  ((∃ p0, m c_R_at = nI p0 ∧ p0 ≤ n ∧ sp_x tx n p0 = p) ∧ m c_P_size = nI b) ∧
  (a c_A_collected = tx ∧ (cxC a b cx ∧ cx.length ≤ 20) ∧ (scC a V sc ∧ scOK sc))
def cFs (l : Nat → Nat → Int64) (w : Int64) (P : pv_R) (m : Nat → Int32) (a : Nat → Nat → Int32) (q : Nat) : Prop := ∀ (m' : Nat → Int32) (a' : Nat → Nat → Int32) (B : Nat), Cms m m' → m' c_R_faultAt = nI q → (m' c_P_size = nI B ∧ B ≤ 241) → Cg a a' → P (some (.int 0)) (cs m' a' l w)
def rP (F : Nat → Prop) (Q : Nat → Nat → sc_T → Std.Format → Prop) (r : st_R) : Prop := match r with
  | .inl q => F q
  | .inr (q, V, s, t) => Q q V s t
section CX
variable {l : Nat → Nat → Int64} {w : Int64} {tx : Nat → Int32} {n : Nat}
theorem cFs_tr {P : pv_R} {m m' : Nat → Int32} {a a' : Nat → Nat → Int32} {q b k V : Nat} (h : cFs l w P m a q) (hm : Cms m m') (ha : Cs a a' b k V) : cFs l w P m' a' q :=
  fun m2 a2 B h1 h2 h3 h4 => h m2 a2 B (Cms_trans hm h1) h2 h3 (Cs_trans (Cs_le ha (Nat.zero_le _) (Nat.zero_le _) (Nat.zero_le _)) h4 (Nat.le_refl _) (Nat.le_refl _) (Nat.le_refl _))
theorem cFs_bq {P : pv_R} {m : Nat → Int32} {a : Nat → Nat → Int32} {q : Nat} {T : (Nat → Int32) → (Nat → Nat → Int32) → Prop} (h : cFs l w P m a q) : cFs l w (bq l w (fun S => P (some (.int 0)) S) T) m a q :=
  fun m2 a2 B h1 h2 h3 h4 => Or.inl ⟨rfl, h m2 a2 B h1 h2 h3 h4⟩
theorem bz_bq {D j : Nat} {As : List Value} {S : pv_S} {P : pv_R} (h : pv_call cq_mt D j As S (bq l w (fun S => P (some (.int 0)) S) (fun m a => P (some (.int 1)) (cs m a l w)))) : pv_call cq_mt D j As S (bz P) :=
  pv_call_cm _ _ _ _ _ _ _ (fun o S h => by
    rcases h with h | ⟨h1, m, a, h2, h3⟩
    · exact Or.inl h
    · exact Or.inr ⟨h1, by rw [h2]; exact h3⟩) h
theorem cSt_p {m : Nat → Int32} {a : Nat → Nat → Int32} {cx : cx_T} {b p V : Nat} {sc : sc_T} (h : cSt tx n m a cx b p V sc) : p ≤ n ∧ sp_x tx n p = p := by
  obtain ⟨p0, h1, h2, h3⟩ := h.2.1.1
  have := sp_x_le (tx := tx) h2
  rw [← h3]
  exact ⟨this.2, sp_x_x h2⟩
/-- the place of reading moved on -/
theorem cSt_at {m : Nat → Int32} {a : Nat → Nat → Int32} {cx : cx_T} {b p V : Nat} {sc : sc_T} (h : cSt tx n m a cx b p V sc) {p1 : Nat} (h1 : p1 ≤ n) : cSt tx n (upd m c_R_at (nI p1)) a cx b (sp_x tx n p1) V sc :=
  ⟨h.1, ⟨⟨p1, rfl, h1, rfl⟩, h.2.1.2⟩, h.2.2⟩
theorem x_expect {D : Nat} {P : pv_R} {m0 m : Nat → Int32} {a0 a : Nat → Nat → Int32} {cx : cx_T} {b p V : Nat} {sc : sc_T} {c : Int32} {f : Nat → st_R} {Q : Nat → Nat → sc_T → Std.Format → Prop} {T : (Nat → Int32) → (Nat → Nat → Int32) → Prop} (hD : 2 ≤ D) (hS : cSt tx n m a cx b p V sc) (hb : b ≤ 241) (hc : ¬ c = -1) (hm : Cms m0 m) (ha : Cg a0 a)
    (h : rP (cFs l w P m0 a0) Q (st_x tx n c p f))
    (k : ∀ m', Cms m m' → cSt tx n m' a cx b (sp_x tx n (p + 1)) V sc → (p < n ∧ p + 1 ≤ sp_x tx n (p + 1) ∧ sp_x tx n (p + 1) ≤ n) → rP (cFs l w P m0 a0) Q (f (sp_x tx n (p + 1))) → T m' a) :
    pv_call cq_mt D cq_m_Reader_expect [.ref 3, .int c] (cs m a l w) (bq l w (fun S => P (some (.int 0)) S) T) := by
  obtain ⟨d, rfl⟩ := Nat.exists_eq_add_of_le' hD
  obtain ⟨p0, e1, e2, e3⟩ := hS.2.1.1
  have htx := hS.2.2.1
  refine cc_expect d m a hS.1.1.1 e2 e1 hS.1.2.1 c _ (fun q => ?_) (fun q => ?_)
  · rw [htx, e3] at q ⊢
    have x := sp_c_x q hc
    refine Or.inr ⟨rfl, _, _, rfl, k _ (Cms_up (Cms_refl _) _ (by decide)) (cSt_at hS (by omega)) ⟨x.1, x.2.1, x.2.2.1⟩ ?_⟩
    unfold st_x at h
    rw [if_pos q] at h
    exact h
  · rw [htx, e3] at q ⊢
    refine Or.inl ⟨rfl, ?_⟩
    unfold st_x at h
    rw [if_neg q] at h
    exact h _ _ b (Cms_up (Cms_up hm _ (by decide)) _ (by decide)) rfl ⟨hS.2.1.2, hb⟩ ha
theorem PrS_e {a : Nat → Nat → Int32} {W V b : Nat} {u : Std.Format} {sc : sc_T} (hW : eW V u) (h : PrE a u b) (hu : ∀ i, b ≤ i → i < b + sp_z u → unf a (thOf sc) i) : PrS a W u b sc := by
  obtain ⟨c, x, rfl, -⟩ := eW_tag hW
  unfold PrS
  rw [if_neg (eW_notS hW)]
  exact ⟨h, hu⟩
theorem scA_eW {V : Nat} {u : Std.Format} (hW : eW V u) (sc : sc_T) : scA sc u = sc := by
  obtain ⟨c, x, rfl, -⟩ := eW_tag hW
  have := eW_notS hW
  rw [scA_tag, if_neg (fun q => this (by unfold stS; omega))]
theorem nmOf_V {a : Nat → Nat → Int32} {V : Nat} {sc : sc_T} (hc : scC a V sc) (u : Nat) : nmOf sc u = -1 ∨ ∃ v, v < V ∧ nmOf sc u = nI v := by
  rcases nmOf_mem sc u with e | ⟨v, e, e2⟩
  · exact Or.inl e
  · exact Or.inr ⟨v, (scC_mem sc hc u v e).2, e2⟩
theorem cSt_fr {m m' : Nat → Int32} {a a' : Nat → Nat → Int32} {cx : cx_T} {b p V : Nat} {sc : sc_T} (h : cSt tx n m a cx b p V sc) {b' p' V' B k W : Nat} {sc' : sc_T} (hm : m' c_R_length = m c_R_length) (hth : m' c_R_there = thOf sc') (hv : m' c_V_size = nI V') (hV : V ≤ V' ∧ V' ≤ 12) (ha : Cs a a' B k W) (hk : cx.length ≤ k) (hp : ∃ p0, m' c_R_at = nI p0 ∧ p0 ≤ n ∧ sp_x tx n p0 = p') (hs : m' c_P_size = nI b') (hb : b ≤ b') (hsc : scC a' V' sc' ∧ scOK sc') : cSt tx n m' a' cx b' p' V' sc' :=
  ⟨⟨⟨h.1.1.1, hV.2⟩, hm.trans h.1.2.1, hth, hv⟩, ⟨hp, hs⟩, (Cs_oth ha (j := c_A_collected) (by decide)).trans h.2.2.1, ⟨cxC_mono hb cx (fun j i h1 h2 h3 => Cs_rd ha ⟨h1, h2⟩ (by omega)) h.2.2.2.1.1, h.2.2.2.1.2⟩, hsc⟩
theorem x_expr {D : Nat} {P : pv_R} {m0 m : Nat → Int32} {a0 a : Nat → Nat → Int32} {cx : cx_T} {b p V : Nat} {sc : sc_T} {f : Nat → Std.Format → st_R} {Q : Nat → Nat → sc_T → Std.Format → Prop} {T : (Nat → Int32) → (Nat → Nat → Int32) → Prop} (hD : 158 ≤ D) (hS : cSt tx n m a cx b p V sc) (hb : b ≤ p + 1) (hm : Cms m0 m) (ha : Cg a0 a)
    (h : rP (cFs l w P m0 a0) Q (st_eb (st_e tx n sc p) f))
    (k : ∀ q u m' a', Cms m m' → cSt tx n m' a' cx (b + sp_z u) q V sc → Ce a a' b → (p + sp_z u ≤ q ∧ q ≤ n ∧ 1 ≤ sp_z u) → (eW V u ∧ PrS a' V u b sc) → cnR (a c_V_uses) (a c_V_assigns) V a' V u → rP (cFs l w P m0 a0) Q (f q u) → T m' a') :
    pv_call cq_mt D cq_m_Reader_expression [.ref 3, .int 0] (cs m a l w) (bq l w (fun S => P (some (.int 0)) S) T) := by
  obtain ⟨p0, e1, e2, e3⟩ := hS.2.1.1
  have hpn := cSt_p hS
  have hn := hS.1.1.1
  have ht := (cT_all (l := l) (w := w) (n := n) (V := V) (th := thOf sc) (nm := nmOf sc) (tx := tx) 2000).1.1
  refine ht D 0 p p0 b m a (a c_V_uses) (a c_V_assigns) _ ⟨⟨hS.1.1, hS.1.2, hS.2.2.1, fun u hu => ⟨fnd_sc hS.1.1.2 hS.2.2.2.2.2 hS.2.2.2.2.1 hu, ?_⟩⟩, ⟨e1, e2, e3⟩, hS.2.1.2, by omega⟩ (by omega) (by omega) (by omega) (cnt_nil a) ?_
  · exact nmOf_cases sc hS.2.2.2.2.2 u
  · have key : ∀ r, st_e tx n sc p = r → cPost l w n (thOf sc) tx (a c_V_uses) (a c_V_assigns) (bq l w (fun S => P (some (.int 0)) S) T) m a b r := by
      intro r hr
      rcases r with q | ⟨q, u⟩
      · rw [hr] at h
        have h : cFs l w P m0 a0 q := h
        intro m' a' B h1 h2 h3 h4
        exact Or.inl ⟨rfl, h m' a' B (Cms_trans hm (Cms_Cm h1)) h2 h3 (Cs_trans ha (Cs_Ce h4) (Nat.le_refl _) (Nat.le_refl 0) (Nat.le_refl 0))⟩
      · have hg := st_e_good hpn.1 hr
        have hW : eW V u := sp_e_W hn (fun u _ => nmOf_V hS.2.2.2.2.1 u) hS.1.1.2 2000 0 0 p .nil q u (by omega) (by omega) hr
        rw [hr] at h
        have h : rP (cFs l w P m0 a0) Q (f q u) := h
        intro m' a' p1 h1 h2 h3 h4 h5 h6 h7
        refine Or.inr ⟨rfl, m', a', rfl, k q u m' a' (Cms_Cm h1) ?_ h4 ⟨hg.1.1, hg.1.2, hg.2.2⟩ ⟨hW, PrS_e hW h5 h6⟩ (cnR_e hW h7) h⟩
        refine cSt_fr hS (Cms_Cm h1 _ (by decide)) ((h1 9 (by decide)).trans hS.1.2.2.1) ((h1 10 (by decide)).trans hS.1.2.2.2) ⟨Nat.le_refl _, hS.1.1.2⟩ (Cs_Ce (k := 20) (V := 12) h4) hS.2.2.2.1.2 ⟨p1, h2.2, h3.1, h3.2⟩ h2.1 (by omega) ⟨scC_mono (Nat.le_refl _) (fun v _ => ?_) sc hS.2.2.2.2.1, hS.2.2.2.2.2⟩
        exact congrFun (Ce_oth h4 (j := c_V_name) (by decide)) v
    exact key _ rfl
end CX
