/-! the walk's loop -/
theorem wiN_c {a a' : Nat → Nat → Int32} (h5 : a' r_around = a r_around) (h6 : a' r_part = a r_part) (t : Nat) : ∀ (k : Nat) (x : Int32), wiN a' t k x = wiN a t k x
  | 0, _ => rfl
  | k + 1, x => by
    unfold wiN
    rw [h5, h6, wiN_c h5 h6 t k]
theorem wiF_c {a a' : Nat → Nat → Int32} (h5 : a' r_around = a r_around) (h6 : a' r_part = a r_part) (K : Nat → Nat) (W : wL_T) (t p : Nat) : wiF a' K W t p = wiF a K W t p := by
  unfold wiF
  rw [wiN_c h5 h6]
def inP (a : Nat → Nat → Int32) (K : Nat → Nat) (W : wL_T) (w : Int32) (p : Nat) : Prop := w = -1 ∨ ∃ t, t < 260 ∧ w = nI t ∧ wiF a K W t p = 1
theorem inP_t {a : Nat → Nat → Int32} {K : Nat → Nat} {W : wL_T} {t p : Nat} (ht : t < 260) : inP a K W (nI t) p ↔ wiF a K W t p = 1 := by
  constructor
  · rintro (h | ⟨u, hu, e, h⟩)
    · exact absurd h (nI_ne_m1 (by omega))
    · rw [nI_eq (by omega) (by omega)] at e
      rw [e]; exact h
  · intro h
    exact Or.inr ⟨t, ht, rfl, h⟩
def wR (R : pv_L) : Prop := R = [] ∨ ∃ z X, R = (7, .int z) :: X ∧ wX X
/-- what a walk from z comes to -/
def walkQ (E : eL_T) (W : wL_T) (on : Nat → Int32) (en : Nat → Nat → Nat) (v : Int32) (I : Nat → Prop) (V : Nat → Prop) (Z H : pL_T) : Prop :=
  (hOK H ∧ ∀ x ∈ H, V x.1) ∧ (∀ x ∈ Z, x ∈ H) ∧ (∀ x ∈ H, I x.1 → suc E W on en v (fun q c => (q, c) ∈ H) x.1 x.2) ∧ (∀ C : Nat → Nat → Prop, (∀ x ∈ Z, C x.1 x.2) → (∀ p b, b < 2 → C p b → I p → suc E W on en v C p b) → ∀ x ∈ H, C x.1 x.2)
section RW6
variable {m0 : Nat → Int32} {a0 : Nat → Nat → Int32}
set_option maxRecDepth 100000 in
theorem wk_60 (d : Nat) {N : Nat} {K : Nat → Nat} {E : eL_T} {W : wL_T} {on : Nat → Int32} {en : Nat → Nat → Nat} (hg : grOK m0 a0 N K E W on) (hen : enOK a0 W en) {r base n : Nat} (hc : comeOK m0 a0 r base n) (v w : Int32) {p b : Nat} (hp : p < 3600) (hb : b < 2) (P : pv_R) (z : zT) (S : pv_S) (R : pv_L) (hS : RW m0 a0 r base z.1 z.2 S) (hz : invZ (vP N W) z) (hR : wR R) (h : ∀ S' Y, RW m0 a0 r base (prF E W on en v p b z).1 (prF E W on en v p b z).2 S' → wY Y → pv_go rq_T56 3 (pv_call rq_mt (d + 2)) P (0, wkO v n base w Y, [], S')) : pv_go rq_T56 3 (pv_call rq_mt (d + 2)) P (60, wkO v n base w ([(5, .int (nI p)), (6, .int (nI b))] ++ R), [], S) := by
  have hV := vP_lt hg.2.2.2.2 hg.2.1.2.2.1 (W := W)
  have rr := hc.1
  have hE := (edL_ok hV v (p := p) hb E z (fun x hx => (hg.1.2.2.2 x hx).2) hz).1
  have g : ∀ X, wX X → pv_go rq_T56 3 (pv_call rq_mt (d + 2)) P (69, wkM v n base w p b (oI (lastE E p)) X, [], S) := fun X hX => wk_69 d hg hc v w hp hb P E [] rfl z S X hS hz hX (fun S' X' hS' hX' => wk_136 d hg hen hc v w hp hb P z S' X' hS' hE hX' h)
  obtain ⟨m, a, rfl, hR2⟩ := hS
  have i1 : vp_in (nI p) 3600 := vp_in_nI (by omega) (by decide)
  have t1 : a r_edgeHead (nI p).toNatClampNeg = oI (lastE E p) := by
    rw [nI_clamp (by omega), hR2.1.2 49 (by omega)]; exact hg.1.1 p hp
  rw [← t1] at g
  rcases hR with rfl | ⟨x, X, rfl, hX⟩
  · have g := g [] (Or.inl rfl)
    refine pv_run [69] 20 ?_
    refine And.intro i1 ?_
    exact g
  · have g := g X hX
    rcases hX with rfl | ⟨x1, rfl⟩ | ⟨x1, y1, rfl⟩
    all_goals
      refine pv_run [69] 20 ?_
      refine And.intro i1 ?_
      exact g
set_option maxRecDepth 100000 in
theorem wk_43 (d : Nat) {N : Nat} {K : Nat → Nat} {E : eL_T} {W : wL_T} {on : Nat → Int32} {en : Nat → Nat → Nat} (hg : grOK m0 a0 N K E W on) (hen : enOK a0 W en) {r base n : Nat} (hc : comeOK m0 a0 r base n) (v w : Int32) (hw : w = -1 ∨ ∃ t, t < N ∧ w = nI t) {p b : Nat} (hp : vP N W p) (hb : b < 2) (P : pv_R) (z : zT) (S : pv_S) (R : pv_L) (hS : RW m0 a0 r base z.1 z.2 S) (hz : invZ (vP N W) z) (hR : wR R)
    (h1 : inP a0 K W w p → ∀ S' Y, RW m0 a0 r base (prF E W on en v p b z).1 (prF E W on en v p b z).2 S' → wY Y → pv_go rq_T56 3 (pv_call rq_mt (d + 2)) P (0, wkO v n base w Y, [], S'))
    (h0 : ¬ inP a0 K W w p → ∀ S' Y, RW m0 a0 r base z.1 z.2 S' → wY Y → pv_go rq_T56 3 (pv_call rq_mt (d + 2)) P (0, wkO v n base w Y, [], S')) : pv_go rq_T56 3 (pv_call rq_mt (d + 2)) P (43, wkO v n base w ([(5, .int (nI p)), (6, .int (nI b))] ++ R), [], S) := by
  have hV := vP_lt hg.2.2.2.2 hg.2.1.2.2.1 (W := W)
  have hp2 := hV p hp
  have rr := hc.1
  have yR : wY ([(5, .int (nI p)), (6, .int (nI b))] ++ R) := by
    rcases hR with rfl | ⟨x, X, rfl, hX⟩
    · exact Or.inr (Or.inl ⟨_, _, rfl⟩)
    · exact Or.inr (Or.inr ⟨_, _, _, X, rfl, hX⟩)
  have g1 := fun hi => wk_60 d hg hen hc v w hp2 hb P z S R hS hz hR (h1 hi)
  have g0 := fun hi => h0 hi S _ hS yR
  obtain ⟨m, a, rfl, hR2⟩ := hS
  rcases hw with rfl | ⟨t, ht, rfl⟩
  · have g := g1 (Or.inl rfl)
    rcases hR with rfl | ⟨x, X, rfl, hX⟩
    · refine pv_run [60, 262] 20 ?_
      exact And.intro (fun _ => g) (fun q => absurd rfl q)
    · rcases hX with rfl | ⟨x1, rfl⟩ | ⟨x1, y1, rfl⟩
      all_goals
        refine pv_run [60, 262] 20 ?_
        exact And.intro (fun _ => g) (fun q => absurd rfl q)
  · have hN := hg.2.2.2.2
    have h5 : a r_around = a0 r_around := hR2.1.2 5 (by omega)
    have h6 : a r_part = a0 r_part := hR2.1.2 6 (by omega)
    have h52 : a r_wayOf = a0 r_wayOf := hR2.1.2 52 (by omega)
    have h53 : a r_wayCode = a0 r_wayCode := hR2.1.2 53 (by omega)
    have hl : ∀ q, q < N → lnA a (K q) (a r_around q) := fun q hq => by
      rw [h5]; exact lnA_congr h5 _ _ (hg.2.2.2.1 q hq)
    have hrw : rowW a W := rowW_c W (fun j i hj _ => by
      have : j = 52 ∨ j = 53 := by omega
      rcases this with rfl | rfl
      · rw [h52]
      · rw [h53]) hg.2.1.2.1
    rw [inP_t (by omega)] at g1 g0
    have call : pv_call rq_mt (d + 2) rq_m_R_isWithin [.ref 0, .int (nI p), .int (nI t)] (rs m a) (fun o S' => (o = some (.int 1) ∧ S' = rs m a ∧ wiF a0 K W t p = 1) ∨ (o = some (.int 0) ∧ S' = rs m a ∧ ¬ wiF a0 K W t p = 1)) :=
      rc_isWithin (d + 1) m a hN ht hl hrw hg.2.1.2.2.1 hg.2.1.2.2.2 hp _ (fun e => Or.inl ⟨rfl, rfl, by rw [wiF_c h5 h6] at e; exact e⟩) (fun e => Or.inr ⟨rfl, rfl, by rw [wiF_c h5 h6] at e; exact e⟩)
    have nm : ¬ nI t = -1 := nI_ne_m1 (by omega)
    have fin : ∀ R, ([(5, .int (nI p)), (6, .int (nI b))] ++ R : pv_L) = [(5, .int (nI p)), (6, .int (nI b))] ++ R := fun _ => rfl
    rcases hR with rfl | ⟨x, X, rfl, hX⟩
    · refine pv_run [60, 0] 20 ?_
      refine And.intro (fun q => absurd q nm) (fun _ => ?_)
      refine pv_call_cm _ _ _ _ _ _ _ ?_ call
      rintro o S' (⟨rfl, rfl, e⟩ | ⟨rfl, rfl, e⟩)
      · exact And.intro (fun q => absurd q (by decide)) (fun _ => g1 e)
      · exact And.intro (fun _ => g0 e) (fun q => absurd rfl q)
    · rcases hX with rfl | ⟨x1, rfl⟩ | ⟨x1, y1, rfl⟩
      all_goals
        refine pv_run [60, 0] 20 ?_
        refine And.intro (fun q => absurd q nm) (fun _ => ?_)
        refine pv_call_cm _ _ _ _ _ _ _ ?_ call
        rintro o S' (⟨rfl, rfl, e⟩ | ⟨rfl, rfl, e⟩)
        · exact And.intro (fun q => absurd q (by decide)) (fun _ => g1 e)
        · exact And.intro (fun _ => g0 e) (fun q => absurd rfl q)
def procZ (E : eL_T) (W : wL_T) (on : Nat → Int32) (en : Nat → Nat → Nat) (v : Int32) (I : Nat → Prop) (z : zT) : Prop := ∀ x ∈ z.1, x ∈ z.2 ∨ (I x.1 → suc E W on en v (fun q c => (q, c) ∈ z.1) x.1 x.2)
set_option maxRecDepth 100000 in
theorem wk_0 (d : Nat) {N : Nat} {K : Nat → Nat} {E : eL_T} {W : wL_T} {on : Nat → Int32} {en : Nat → Nat → Nat} (hg : grOK m0 a0 N K E W on) (hen : enOK a0 W en) {r base n : Nat} (hc : comeOK m0 a0 r base n) (v w : Int32) (hw : w = -1 ∨ ∃ t, t < N ∧ w = nI t) (P : pv_R) : ∀ (M : Nat) (z : zT) (S : pv_S) (Y : pv_L), muZ z < M → RW m0 a0 r base z.1 z.2 S → invZ (vP N W) z → procZ E W on en v (inP a0 K W w) z → wY Y → (∀ (H' : pL_T) (S' : pv_S), RW m0 a0 r base H' [] S' → walkQ E W on en v (inP a0 K W w) (vP N W) z.1 H' → P none S') → pv_go rq_T56 3 (pv_call rq_mt (d + 2)) P (0, wkO v n base w Y, [], S) := by
  have hV := vP_lt hg.2.2.2.2 hg.2.1.2.2.1 (W := W)
  have rr := hc.1
  intro M
  induction M with
  | zero => intro z S Y h; omega
  | succ M ih =>
    rintro ⟨H, L⟩ S Y hM hS hz hpr hY h
    cases L with
    | nil =>
      have g := h H S hS ⟨⟨hz.1, hz.2.2.2⟩, fun x hx => hx, fun x hx hi => ((hpr x hx).resolve_left (fun u => nomatch u)) hi, fun C hC _ => hC⟩
      obtain ⟨m, a, rfl, hR⟩ := hS
      have e : m r_piled ≤ 0 := by
        have e : m r_piled = nI 0 := hR.2.2.1
        rw [e]; decide
      rcases hY with rfl | ⟨x, y, rfl⟩ | ⟨x, y, u, X, rfl, hX⟩
      · refine pv_run [] 20 ?_
        exact And.intro (fun _ => g) (fun q => absurd e q)
      · refine pv_run [] 20 ?_
        exact And.intro (fun _ => g) (fun q => absurd e q)
      · rcases hX with rfl | ⟨x1, rfl⟩ | ⟨x1, y1, rfl⟩
        all_goals
          refine pv_run [] 20 ?_
          exact And.intro (fun _ => g) (fun q => absurd e q)
    | cons y L =>
      obtain ⟨p, b⟩ := y
      have hmem : (p, b) ∈ H := hz.2.2.1 _ List.mem_cons_self
      have hpb := hz.1.2 _ hmem
      have hpv : vP N W p := hz.2.2.2 _ hmem
      have hp : p < 3600 := hpb.1
      have hb : b < 2 := hpb.2
      have hl : L.length + 1 ≤ H.length := hz.2.1
      have hH : H.length ≤ 7200 := hOK_len hz.1
      have hz1 : invZ (vP N W) (H, L) := ⟨hz.1, Nat.le_of_succ_le hl, fun x hx => hz.2.2.1 x (List.mem_cons_of_mem _ hx), hz.2.2.2⟩
      have hmu : muZ (H, L) < M := by
        unfold muZ at hM ⊢
        have : ((p, b) :: L).length = L.length + 1 := rfl
        dsimp only at hM ⊢
        omega
      obtain ⟨m, a, rfl, hR⟩ := hS
      have hR1 : RW m0 a0 r base H L (rs (upd m r_piled (nI L.length)) a) := by
        refine ⟨_, _, rfl, ⟨fun j hj => ?_, hR.1.2⟩, hR.2.1, rfl, hR.2.2.2.2⟩
        show (if j = 60 then _ else m j) = _
        rw [if_neg hj]; exact hR.1.1 j hj
      have key : ∀ R, wR R → pv_go rq_T56 3 (pv_call rq_mt (d + 2)) P (43, wkO v n base w ([(5, .int (nI p)), (6, .int (nI b))] ++ R), [], rs (upd m r_piled (nI L.length)) a) := by
        intro R hR3
        refine wk_43 d hg hen hc v w hw hpv hb P (H, L) _ R hR1 hz1 hR3 (fun hi S' Y' hS' hY' => ?_) (fun hi S' Y' hS' hY' => ?_)
        · have ok := prF_ok hV v (p := p) hb (en := en) (fun x hx => (hg.1.2.2.2 x hx).2) (fun x hx => by have := hg.2.1.2.2.2 x hx; unfold vP; omega) (fun k hk ho => ((hg.2.2.1.2 k hk).resolve_left ho).2) hz1
          refine ih _ S' Y' (Nat.lt_of_le_of_lt ok.2.1.2.2.2 hmu) hS' ok.1 (fun x hx => ?_) hY' (fun H' S'' hS'' hQ => h H' S'' hS'' ⟨hQ.1, fun x hx => hQ.2.1 x (ok.2.1.1 x hx), hQ.2.2.1, fun C hC hcl => hQ.2.2.2 C (ok.2.2.2 C hC (hcl p b hb (hC _ hmem) hi)) hcl⟩)
          by_cases hxH : x ∈ H
          · by_cases e : x = (p, b)
            · rw [e]; exact Or.inr (fun _ => ok.2.2.1)
            · rcases hpr x hxH with u | u
              · exact Or.inl (ok.2.1.2.2.1 x ((List.mem_cons.mp u).resolve_left e))
              · exact Or.inr (fun hi => suc_mono (fun q c hq => ok.2.1.1 _ hq) (u hi))
          · exact Or.inl (ok.2.1.2.1 x hx hxH)
        · refine ih _ S' Y' hmu hS' hz1 (fun x hx => ?_) hY' h
          by_cases e : x = (p, b)
          · rw [e]; exact Or.inr (fun u => absurd u hi)
          · rcases hpr x hx with u | u
            · exact Or.inl ((List.mem_cons.mp u).resolve_left e)
            · exact Or.inr u
      have e60 : m r_piled = nI (L.length + 1) := hR.2.2.1
      have n0 : ¬ m r_piled ≤ 0 := by
        rw [e60, show (0 : Int32) = nI 0 from rfl, nI_leI (by omega) (by omega)]; omega
      have em : m r_piled - 1 = nI L.length := by rw [e60]; exact nI_pred _
      have i1 : vp_in (m r_piled - 1) 7300 := by rw [em]; exact vp_in_nI (by omega) (by decide)
      have t1 : a r_pile (m r_piled - 1).toNatClampNeg = nI (2 * p + b) := by
        rw [em, nI_clamp (by omega)]; exact hR.2.2.2.1
      have t2 : a r_pile (m r_piled - 1).toNatClampNeg / 2 = nI p := by
        rw [t1, div2b (by omega)]; congr 1; omega
      have t3 : a r_pile (m r_piled - 1).toNatClampNeg - a r_pile (m r_piled - 1).toNatClampNeg / 2 * 2 = nI b := by
        rw [t1, rem2b (by omega)]; congr 1; omega
      rw [← t2, ← t3, ← em] at key
      rcases hY with rfl | ⟨x, y, rfl⟩ | ⟨x, y, u, X, rfl, hX⟩
      · have g := key [] (Or.inl rfl)
        refine pv_run [43] 60 ?_
        refine And.intro (fun q => absurd q n0) (fun _ => ?_)
        refine And.intro i1 ?_
        refine And.intro (by decide) ?_
        refine And.intro i1 ?_
        refine And.intro (by decide) ?_
        exact g
      · have g := key [] (Or.inl rfl)
        refine pv_run [43] 60 ?_
        refine And.intro (fun q => absurd q n0) (fun _ => ?_)
        refine And.intro i1 ?_
        refine And.intro (by decide) ?_
        refine And.intro i1 ?_
        refine And.intro (by decide) ?_
        exact g
      · have g := key _ (Or.inr ⟨u, X, rfl, hX⟩)
        rcases hX with rfl | ⟨x1, rfl⟩ | ⟨x1, y1, rfl⟩
        all_goals
          refine pv_run [43] 60 ?_
          refine And.intro (fun q => absurd q n0) (fun _ => ?_)
          refine And.intro i1 ?_
          refine And.intro (by decide) ?_
          refine And.intro i1 ?_
          refine And.intro (by decide) ?_
          exact g
theorem rc_walk (d : Nat) {N : Nat} {K : Nat → Nat} {E : eL_T} {W : wL_T} {on : Nat → Int32} {en : Nat → Nat → Nat} (hg : grOK m0 a0 N K E W on) (hen : enOK a0 W en) {r base n : Nat} (hc : comeOK m0 a0 r base n) (v w : Int32) (hw : w = -1 ∨ ∃ t, t < N ∧ w = nI t) (P : pv_R) {p b : Nat} (hp : vP N W p) (hb : b < 2) {S : pv_S} (hS : RW m0 a0 r base [(p, b)] [(p, b)] S) (h : ∀ (H' : pL_T) (S' : pv_S), RW m0 a0 r base H' [] S' → walkQ E W on en v (inP a0 K W w) (vP N W) [(p, b)] H' → P none S') : pv_call rq_mt (d + 3) rq_m_R_walk [.ref 0, .int v, .ref n, .int (nI base), .int w] S P := by
  have hV := vP_lt hg.2.2.2.2 hg.2.1.2.2.1 (W := W)
  have hp2 := hV p hp
  refine pv_call_of rfl rfl rfl (wk_0 d hg hen hc v w hw P _ ([(p, b)], [(p, b)]) S [] (Nat.lt_succ_self _) hS ⟨⟨List.nodup_cons.mpr ⟨fun u => (nomatch u), List.nodup_nil⟩, ?_⟩, Nat.le_refl _, fun x hx => hx, ?_⟩ (fun x hx => Or.inl hx) (Or.inl rfl) h)
  · intro x hx
    rw [List.mem_singleton.mp hx]
    exact ⟨hp2, hb⟩
  · intro x hx
    rw [List.mem_singleton.mp hx]
    exact hp
end RW6
