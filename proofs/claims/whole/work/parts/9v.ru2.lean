/-! scans over all nodes, by lists -/
theorem lnkL_pw {en : Nat → Nat} : ∀ (L : List Nat) (b e : Nat), lnkL en L b e → L.Pairwise (· < ·) ∧ ∀ r ∈ L, b ≤ r ∧ r < e
  | [], _, _, _ => ⟨List.Pairwise.nil, fun r h => nomatch h⟩
  | y :: L, b, e, h => by
    have ih := lnkL_pw L (en b) e h.2
    have h1 := h.1
    refine ⟨List.Pairwise.cons (fun r hr => ?_) ih.1, fun r hr => ?_⟩
    · have := ih.2 r hr; omega
    · rcases List.mem_cons.mp hr with rfl | hr
      · omega
      · have := ih.2 r hr; omega
/-- the list L is what the scan from i on meets -/
def scn (f : Nat → Prop) (i N : Nat) (L : List Nat) : Prop := L.Pairwise (· < ·) ∧ (∀ r ∈ L, i ≤ r ∧ r < N) ∧ ∀ m, i ≤ m → m < N → (f m ↔ m ∈ L)
theorem scn_y {f : Nat → Prop} {i N : Nat} {L : List Nat} (h : scn f i N L) (hi : i < N) (hf : f i) : ∃ L', L = i :: L' ∧ scn f (i + 1) N L' := by
  have hm := (h.2.2 i (Nat.le_refl _) hi).mp hf
  cases L with
  | nil => cases hm
  | cons y L =>
    have hp := List.pairwise_cons.mp h.1
    have e : y = i := by
      rcases List.mem_cons.mp hm with e | hm
      · exact e.symm
      · have h1 := hp.1 i hm
        have h2 := (h.2.1 y List.mem_cons_self).1
        omega
    subst e
    refine ⟨L, rfl, hp.2, fun r hr => ?_, fun m h1 h2 => ?_⟩
    · have h3 := hp.1 r hr
      have h4 := h.2.1 r (List.mem_cons_of_mem _ hr)
      omega
    · rw [h.2.2 m (by omega) h2, List.mem_cons]
      exact ⟨fun u => u.resolve_left (by omega), Or.inr⟩
theorem scn_n {f : Nat → Prop} {i N : Nat} {L : List Nat} (h : scn f i N L) (hi : i < N) (hf : ¬ f i) : scn f (i + 1) N L := by
  refine ⟨h.1, fun r hr => ?_, fun m h1 h2 => h.2.2 m (by omega) h2⟩
  have h1 := h.2.1 r hr
  have : ¬ r = i := by
    intro e
    subst e
    exact hf ((h.2.2 r (Nat.le_refl _) hi).mpr hr)
  omega
theorem scn_e {f : Nat → Prop} {N : Nat} {L : List Nat} (h : scn f N N L) : L = [] := by
  cases L with
  | nil => rfl
  | cons y L =>
    have := h.2.1 y List.mem_cons_self
    omega
theorem scn_filter {f : Nat → Prop} {i N : Nat} {L : List Nat} (h : scn f i N L) (g : Nat → Bool) : scn (fun m => f m ∧ g m = true) i N (L.filter g) := by
  refine ⟨h.1.filter _, fun r hr => h.2.1 r (List.mem_filter.mp hr).1, fun m h1 h2 => ?_⟩
  dsimp only
  rw [List.mem_filter, h.2.2 m h1 h2]
theorem scn_iff {f g : Nat → Prop} {i N : Nat} {L : List Nat} (h : scn f i N L) (e : ∀ m, i ≤ m → m < N → (g m ↔ f m)) : scn g i N L := ⟨h.1, h.2.1, fun m h1 h2 => (e m h1 h2).trans (h.2.2 m h1 h2)⟩
def cnE (ID : Nat → Nat) : List Nat → Nat → eL_T → Nat × eL_T
  | [], last, E => (last, E)
  | r :: L, last, E => cnE ID L (5 * ID r + 3) (edF last (nI (5 * ID r + 0)) 0 E)
def bcE (ID : Nat → Nat) (mk : Nat → Nat) (e : Nat) : List Nat → Nat → eL_T → Nat × eL_T
  | [], last, E => (last, E)
  | r :: L, last, E => bcE ID mk e L (5 * ID r + 3 + 1) (if last = 0 then (if mk r = 0 then E else enF e (nI (5 * ID r + 0)) (nI (5 * ID r + 0)) E) else edF (last - 1) (nI (5 * ID r + 0)) 0 (if mk r = 0 then E else enF e (nI (5 * ID r + 0)) (nI (5 * ID r + 0)) E))
section RUB
variable {b : Nat → Nat → Int32} {V : Nat} {t : Std.Format}
theorem rchG_L (h : RU b V t) (P s : Int32) : ∀ (j i k : Nat) (L : List Nat), i + j = sp_z t → scn (fun m => b r_around (ID t m) = P ∧ b r_isStmt (ID t m) = s) i (sp_z t) L → rchG b P s j i k = (match L[k]? with | some m => ID t m + 1 | none => 0)
  | 0, i, k, L, hi, hL => by
    rw [show i = sp_z t by omega] at hL
    rw [scn_e hL]
    rfl
  | j + 1, i, k, L, hi, hL => by
    unfold rchG
    rw [(RU_by h (show i < sp_z t by omega)).1.2]
    by_cases c : b r_around (ID t i) = P ∧ b r_isStmt (ID t i) = s
    · rw [if_pos c]
      obtain ⟨L', rfl, hL'⟩ := scn_y hL (by omega) c
      cases k with
      | zero => rw [if_pos rfl]; rfl
      | succ k =>
        rw [if_neg (by omega), Nat.add_sub_cancel, rchG_L h P s j (i + 1) k L' (by omega) hL']
        rfl
    · rw [if_neg c]
      exact rchG_L h P s j (i + 1) k L (by omega) (scn_n hL (by omega) c)
theorem cnG_L (h : RU b V t) (P pt : Int32) : ∀ (j i last : Nat) (E : eL_T) (L : List Nat), i + j = sp_z t → scn (fun m => ¬ b r_isStmt (ID t m) = 0 ∧ b r_around (ID t m) = P ∧ b r_part (ID t m) = pt) i (sp_z t) L → cnG b P pt j i last E = cnE (ID t) L last E
  | 0, i, last, E, L, hi, hL => by
    rw [show i = sp_z t by omega] at hL
    rw [scn_e hL]
    rfl
  | j + 1, i, last, E, L, hi, hL => by
    unfold cnG
    rw [(RU_by h (show i < sp_z t by omega)).1.2]
    by_cases c : ¬ b r_isStmt (ID t i) = 0 ∧ b r_around (ID t i) = P ∧ b r_part (ID t i) = pt
    · rw [if_pos c]
      obtain ⟨L', rfl, hL'⟩ := scn_y hL (by omega) c
      rw [cnG_L h P pt j (i + 1) _ _ L' (by omega) hL']
      rfl
    · rw [if_neg c]
      exact cnG_L h P pt j (i + 1) _ _ L (by omega) (scn_n hL (by omega) c)
theorem bcG_L (h : RU b V t) {p e : Nat} (mk : Nat → Nat) : ∀ (j i last : Nat) (E : eL_T) (L : List Nat), i + j = sp_z t → scn (fun m => ¬ b r_isStmt (ID t m) = 0 ∧ b r_around (ID t m) = nI p) i (sp_z t) L → (∀ m ∈ L, b r_isMarked (ID t m) = 0 ↔ mk m = 0) → bcG b p e j i last E = bcE (ID t) mk e L last E
  | 0, i, last, E, L, hi, hL, hm => by
    rw [show i = sp_z t by omega] at hL
    rw [scn_e hL]
    rfl
  | j + 1, i, last, E, L, hi, hL, hm => by
    unfold bcG
    rw [(RU_by h (show i < sp_z t by omega)).1.2]
    by_cases c : ¬ b r_isStmt (ID t i) = 0 ∧ b r_around (ID t i) = nI p
    · rw [if_pos c]
      obtain ⟨L', rfl, hL'⟩ := scn_y hL (by omega) c
      have hmi := hm i List.mem_cons_self
      have em : (if b r_isMarked (ID t i) = 0 then E else enF e (nI (5 * ID t i + 0)) (nI (5 * ID t i + 0)) E) = (if mk i = 0 then E else enF e (nI (5 * ID t i + 0)) (nI (5 * ID t i + 0)) E) := by
        by_cases c2 : mk i = 0
        · rw [if_pos c2, if_pos (hmi.mpr c2)]
        · rw [if_neg c2, if_neg (fun u => c2 (hmi.mp u))]
      rw [em, bcG_L h mk j (i + 1) _ _ L' (by omega) hL' (fun m hm' => hm m (List.mem_cons_of_mem _ hm'))]
      rfl
    · rw [if_neg c]
      exact bcG_L h mk j (i + 1) _ _ L (by omega) (scn_n hL (by omega) c) hm
/-- the kids of q are what a scan for them meets -/
theorem scn_KI (h : RU b V t) {q : Nat} (hq : q < sp_z t) : scn (fun m => b r_around (ID t m) = nI (ID t q)) 0 (sp_z t) (KI t q) := by
  have hp := lnkL_pw _ _ _ (KI_lnk hq)
  have he := EN_le hq
  refine ⟨hp.1, fun r hr => ?_, fun m _ hm => ?_⟩
  · have := hp.2 r hr; omega
  · dsimp only
    rw [RU_kid h hm hq, KI_mem hq hm]
theorem scn_RT (h : RU b V t) : scn (fun m => b r_around (ID t m) = -1) 0 (sp_z t) (rtL t 0) := by
  have hp := lnkL_pw _ _ _ (RT_lnk (t := t))
  refine ⟨hp.1, fun r hr => ?_, fun m _ hm => ?_⟩
  · have := hp.2 r hr; omega
  · dsimp only
    rw [RU_rt h hm, RT_mem hm]
abbrev isE (t : Std.Format) (m : Nat) : Bool := decide (¬ stS (SO t m))
abbrev isS (t : Std.Format) (m : Nat) : Bool := decide (stS (SO t m))
theorem rch_E (h : RU b V t) {q : Nat} (hq : q < sp_z t) (k : Nat) : rchG b (nI (ID t q)) 0 (sp_z t) 0 k = (match ((KI t q).filter (isE t))[k]? with | some m => ID t m + 1 | none => 0) := by
  refine rchG_L h _ _ _ _ k _ (by omega) (scn_iff (scn_filter (scn_KI h hq) (isE t)) (fun m _ hm => ?_))
  rw [(RU_so h hm).2, decide_eq_true_eq]
  by_cases c : stS (SO t m)
  · rw [if_pos c]
    exact ⟨fun u => absurd u.2 (by decide), fun u => absurd c u.2⟩
  · rw [if_neg c]
    exact ⟨fun u => ⟨u.1, c⟩, fun u => ⟨u.1, rfl⟩⟩
theorem rch_S (h : RU b V t) {q : Nat} (hq : q < sp_z t) (k : Nat) : rchG b (nI (ID t q)) 1 (sp_z t) 0 k = (match ((KI t q).filter (isS t))[k]? with | some m => ID t m + 1 | none => 0) := by
  refine rchG_L h _ _ _ _ k _ (by omega) (scn_iff (scn_filter (scn_KI h hq) (isS t)) (fun m _ hm => ?_))
  rw [(RU_so h hm).2, decide_eq_true_eq]
  by_cases c : stS (SO t m)
  · rw [if_pos c]
    exact ⟨fun u => ⟨u.1, c⟩, fun u => ⟨u.1, rfl⟩⟩
  · rw [if_neg c]
    exact ⟨fun u => absurd u.2 (by decide), fun u => absurd u.2 c⟩
theorem isS_1 (h : RU b V t) {m : Nat} (hm : m < sp_z t) : ¬ b r_isStmt (ID t m) = 0 ↔ stS (SO t m) := by
  rw [(RU_so h hm).2]
  by_cases c : stS (SO t m)
  · rw [if_pos c]; exact ⟨fun _ => c, fun _ => by decide⟩
  · rw [if_neg c]; exact ⟨fun u => absurd rfl u, fun u => absurd u c⟩
/-- the chain of the unit -/
theorem cn_root (h : RU b V t) (last : Nat) (E : eL_T) : cnG b (-1) 0 (sp_z t) 0 last E = cnE (ID t) (rtL t 0) last E := by
  refine cnG_L h _ _ _ _ _ _ _ (by omega) (scn_iff (scn_RT h) (fun m _ hm => ?_))
  rw [RU_rt h hm]
  constructor
  · exact fun u => u.2.1
  · intro u
    have hs := ks_root h.1.2.1 m ((RT_mem hm).mp u)
    refine ⟨(isS_1 h hm).mpr hs, u, ?_⟩
    rw [ID_st h.1.2.2 hm hs]
    exact (RU_pt h hm hs).1 u
/-- the chain of a block -/
theorem cn_123 (h : RU b V t) {q : Nat} (hq : q < sp_z t) (hs : SO t q = 123) (last : Nat) (E : eL_T) : cnG b (nI (ID t q)) 0 (sp_z t) 0 last E = cnE (ID t) (KI t q) last E := by
  refine cnG_L h _ _ _ _ _ _ _ (by omega) (scn_iff (scn_KI h hq) (fun m _ hm => ?_))
  rw [RU_kid h hm hq]
  constructor
  · exact fun u => u.2.1
  · intro u
    have hst := ks_123 h.1.2.1 hq hs m ((KI_mem hq hm).mp u)
    refine ⟨(isS_1 h hm).mpr hst, u, ?_⟩
    rw [ID_st h.1.2.2 hm hst]
    exact ((RU_pt h hm hst).2 q u).1 hs
/-- the chains of a T -/
theorem cn_84 (h : RU b V t) {q : Nat} (hq : q < sp_z t) (hs : SO t q = 84) {u v w : Std.Format} (e : XI t q = .append u (.append v w)) : (∀ last E, cnG b (nI (ID t q)) 0 (sp_z t) 0 last E = cnE (ID t) (rtL u (q + 1)) last E) ∧ (∀ last E, cnG b (nI (ID t q)) 1 (sp_z t) 0 last E = cnE (ID t) (rtL v (q + 1 + sp_z u)) last E) ∧ (∀ last E, cnG b (nI (ID t q)) 2 (sp_z t) 0 last E = cnE (ID t) (rtL w (q + 1 + sp_z u + sp_z v)) last E) := by
  have sc := scn_KI h hq
  have eK : KI t q = rtL u (q + 1) ++ (rtL v (q + 1 + sp_z u) ++ rtL w (q + 1 + sp_z u + sp_z v)) := by
    show rtL (XI t q) (q + 1) = _
    rw [e]; rfl
  have memK : ∀ m, m ∈ KI t q ↔ (m ∈ rtL u (q + 1) ∨ m ∈ rtL v (q + 1 + sp_z u) ∨ m ∈ rtL w (q + 1 + sp_z u + sp_z v)) := fun m => by
    rw [eK, List.mem_append, List.mem_append]
  have pw := sc.1
  rw [eK] at pw
  have pw1 := List.pairwise_append.mp pw
  have pw2 := List.pairwise_append.mp pw1.2.1
  have iu := fun r hr => rt_in u (q + 1) r hr
  have iv := fun r hr => rt_in v (q + 1 + sp_z u) r hr
  have iw := fun r hr => rt_in w (q + 1 + sp_z u + sp_z v) r hr
  have key : ∀ m, m < sp_z t → ((¬ b r_isStmt (ID t m) = 0 ∧ b r_around (ID t m) = nI (ID t q)) ↔ m ∈ KI t q) := fun m hm => by
    rw [RU_kid h hm hq, KI_mem hq hm]
    exact ⟨fun u => u.2, fun u => ⟨(isS_1 h hm).mpr (ks_84 h.1.2.1 hq hs m u), u⟩⟩
  have prt : ∀ m, m < sp_z t → m ∈ KI t q → ((m < q + 1 + sp_z u ∧ b r_part (ID t m) = 0) ∨ ((q + 1 + sp_z u ≤ m ∧ m < q + 1 + sp_z u + sp_z v) ∧ b r_part (ID t m) = 1) ∨ (q + 1 + sp_z u + sp_z v ≤ m ∧ b r_part (ID t m) = 2)) := fun m hm hk => by
    have hst := ks_84 h.1.2.1 hq hs m hk
    obtain ⟨u', v', w', e', g⟩ := ((RU_pt h hm hst).2 q ((KI_mem hq hm).mpr hk)).2 hs
    rw [e] at e'
    cases e'
    rw [ID_st h.1.2.2 hm hst]
    exact g
  refine ⟨fun last E => ?_, fun last E => ?_, fun last E => ?_⟩
  · refine cnG_L h _ _ _ _ _ _ _ (by omega) ⟨pw1.1, fun r hr => sc.2.1 r ((memK r).mpr (Or.inl hr)), fun m _ hm => ?_⟩
    dsimp only
    rw [← and_assoc, key m hm]
    constructor
    · rintro ⟨k1, k2⟩
      rcases (memK m).mp k1 with g | g | g
      · exact g
      · have := iv m g
        rcases prt m hm k1 with ⟨p1, -⟩ | ⟨p1, p2⟩ | ⟨p1, p2⟩
        · omega
        · rw [p2] at k2; exact absurd k2 (by decide)
        · rw [p2] at k2; exact absurd k2 (by decide)
      · have := iw m g
        rcases prt m hm k1 with ⟨p1, -⟩ | ⟨p1, p2⟩ | ⟨p1, p2⟩
        · omega
        · rw [p2] at k2; exact absurd k2 (by decide)
        · rw [p2] at k2; exact absurd k2 (by decide)
    · intro g
      have k1 := (memK m).mpr (Or.inl g)
      have := iu m g
      refine ⟨k1, ?_⟩
      rcases prt m hm k1 with ⟨-, p2⟩ | ⟨p1, -⟩ | ⟨p1, -⟩
      · exact p2
      · omega
      · omega
  · refine cnG_L h _ _ _ _ _ _ _ (by omega) ⟨pw2.1, fun r hr => sc.2.1 r ((memK r).mpr (Or.inr (Or.inl hr))), fun m _ hm => ?_⟩
    dsimp only
    rw [← and_assoc, key m hm]
    constructor
    · rintro ⟨k1, k2⟩
      rcases (memK m).mp k1 with g | g | g
      · have := iu m g
        rcases prt m hm k1 with ⟨p1, p2⟩ | ⟨p1, -⟩ | ⟨p1, -⟩
        · rw [p2] at k2; exact absurd k2 (by decide)
        · omega
        · omega
      · exact g
      · have := iw m g
        rcases prt m hm k1 with ⟨p1, -⟩ | ⟨p1, -⟩ | ⟨p1, p2⟩
        · omega
        · omega
        · rw [p2] at k2; exact absurd k2 (by decide)
    · intro g
      have k1 := (memK m).mpr (Or.inr (Or.inl g))
      have := iv m g
      refine ⟨k1, ?_⟩
      rcases prt m hm k1 with ⟨p1, -⟩ | ⟨-, p2⟩ | ⟨p1, -⟩
      · omega
      · exact p2
      · omega
  · refine cnG_L h _ _ _ _ _ _ _ (by omega) ⟨pw2.2.1, fun r hr => sc.2.1 r ((memK r).mpr (Or.inr (Or.inr hr))), fun m _ hm => ?_⟩
    dsimp only
    rw [← and_assoc, key m hm]
    constructor
    · rintro ⟨k1, k2⟩
      rcases (memK m).mp k1 with g | g | g
      · have := iu m g
        rcases prt m hm k1 with ⟨p1, p2⟩ | ⟨p1, -⟩ | ⟨p1, -⟩
        · rw [p2] at k2; exact absurd k2 (by decide)
        · omega
        · omega
      · have := iv m g
        rcases prt m hm k1 with ⟨p1, -⟩ | ⟨p1, p2⟩ | ⟨p1, -⟩
        · omega
        · rw [p2] at k2; exact absurd k2 (by decide)
        · omega
      · exact g
    · intro g
      have k1 := (memK m).mpr (Or.inr (Or.inr g))
      have := iw m g
      refine ⟨k1, ?_⟩
      rcases prt m hm k1 with ⟨p1, -⟩ | ⟨p1, -⟩ | ⟨-, p2⟩
      · omega
      · omega
      · exact p2
/-- the items of an S -/
theorem bc_83 (h : RU b V t) {q e : Nat} (hq : q < sp_z t) {L : List Nat} (hK : KI t q = e :: L) (he : ¬ stS (SO t e)) (hL : ∀ r ∈ L, stS (SO t r)) (x last : Nat) (E : eL_T) : bcG b (ID t q) x (sp_z t) 0 last E = bcE (ID t) (fun m => sp_en (CO t m)) x L last E := by
  have sc := scn_KI h hq
  have pw := sc.1
  rw [hK] at pw
  refine bcG_L h _ _ _ _ _ _ (by omega) ⟨(List.pairwise_cons.mp pw).2, fun r hr => sc.2.1 r (by rw [hK]; exact List.mem_cons_of_mem _ hr), fun m _ hm => ?_⟩ (fun m hm => ?_)
  · dsimp only
    rw [RU_kid h hm hq, KI_mem hq hm, hK, List.mem_cons, isS_1 h hm]
    constructor
    · rintro ⟨k1, rfl | k2⟩
      · exact absurd k1 he
      · exact k2
    · intro k
      exact ⟨hL m k, Or.inr k⟩
  · have hm2 := sc.2.1 m (by rw [hK]; exact List.mem_cons_of_mem _ hm)
    have hst := hL m hm
    rw [ID_st h.1.2.2 hm2.2 hst, (RU_S h hm2.2 hst).1.1]
    exact nI_eq (a := sp_en (CO t m)) (b := 0) (by have : sp_en (CO t m) < 2 := Nat.mod_lt _ (by decide); omega) (by decide)
end RUB
