/-! the class's walks: contracts -/
abbrev shl (x : Int64) (y : Int32) : Int64 := x <<< (y.toInt64 &&& 63)
abbrev shr (x : Int64) (y : Int32) : Int64 := ((x.toUInt64 >>> (y.toInt64.toUInt64 &&& Int64.toUInt64 63)).toInt64)
def sAsg (s : Int64) (v : Int32) : Int64 := (s &&& ((shl 1 v ||| shl 1 (v + 32)) ^^^ (-1))) ||| shl (s &&& (shl 1 v ||| shl 1 (v + 32))) 16
def sUns (s : Int64) (v : Int32) : Int64 := (s &&& (shl (shl 1 v ||| shl 1 (v + 32)) 16 ^^^ (-1))) ||| shr (s &&& shl (shl 1 v ||| shl 1 (v + 32)) 16) 16
def sThr (c s : Int64) : Int64 := (((s &&& 281470681808895) ||| shl (s &&& 281470681808895) 16) &&& ((c &&& 4294967295) ||| shl c 32)) ||| (((shr s 16 &&& 281470681808895) ||| shl (shr s 16 &&& 281470681808895) 16) &&& (shr c 32 ||| (c &&& (-4294967296))))
theorem lg_0 (x y : Int64) : lg_cmp x y = 0 ↔ x = y := by
  unfold lg_cmp
  by_cases h : x > y
  · rw [if_pos h]
    constructor
    · intro q; exact absurd q (by decide)
    · intro q; rw [q] at h; exact absurd h (Int64.lt_irrefl)
  · rw [if_neg h]
    by_cases e : x = y
    · rw [if_pos e]; exact ⟨fun _ => e, fun _ => rfl⟩
    · rw [if_neg e]
      exact ⟨fun q => absurd q (by decide), fun q => absurd q e⟩
def lst (l : Nat → Nat → Int64) (f : Nat → Int64) : Nat → Nat → Int64 := fun k => if k = 0 then f else l k
abbrev GF : Type := Int32 × (Nat → Int64)
abbrev WS (m : Nat → Int32) (a : Nat → Nat → Int32) (l : Nat → Nat → Int64) (w : Int64) (G : GF) : pv_S := cs (upd m c_W_hasGrown G.1) a (lst l G.2) w
def flw (x : Int32) (s : Int64) (G : GF) : GF := if x < 0 ∨ 965 ≤ x then G else if G.2 x.toNatClampNeg ||| s = G.2 x.toNatClampNeg then G else (1, vp_updL G.2 x.toNatClampNeg (G.2 x.toNatClampNeg ||| s))
section CK1
variable {m : Nat → Int32} {a : Nat → Nat → Int32} {l : Nat → Nat → Int64} {w : Int64}
set_option maxRecDepth 100000 in
theorem cc_assign (d : Nat) (S : pv_S) (s : Int64) (v : Int32) (P : pv_R) (h : P (some (.long (sAsg s v))) S) : pv_call cq_mt (d + 1) cq_m_State_assign [.long s, .int v] S P := by
  refine pv_call_of rfl rfl rfl (pv_run [] 60 ?_)
  exact h
set_option maxRecDepth 100000 in
theorem cc_unassign (d : Nat) (S : pv_S) (s : Int64) (v : Int32) (P : pv_R) (h : P (some (.long (sUns s v))) S) : pv_call cq_mt (d + 1) cq_m_State_unassign [.long s, .int v] S P := by
  refine pv_call_of rfl rfl rfl (pv_run [] 60 ?_)
  exact h
set_option maxRecDepth 100000 in
theorem cc_through (d : Nat) (S : pv_S) (c s : Int64) (P : pv_R) (h : P (some (.long (sThr c s))) S) : pv_call cq_mt (d + 1) cq_m_State_through [.long c, .long s] S P := by
  refine pv_call_of rfl rfl rfl (pv_run [] 80 ?_)
  exact h
set_option maxRecDepth 100000 in
theorem cc_flow (d : Nat) (G : GF) (x : Int32) (s : Int64) (P : pv_R) (h : P none (WS m a l w (flw x s G))) : pv_call cq_mt (d + 1) cq_m_Walks_flow [.ref 5, .int x, .long s] (WS m a l w G) P := by
  unfold flw at h
  refine pv_call_of rfl rfl rfl (pv_run [] 60 ?_)
  refine And.intro (fun q => ?_) (fun q0 => ?_)
  · have q : x < 0 := q
    rw [if_pos (Or.inl q)] at h
    exact h
  refine And.intro (fun q1 => ?_) (fun q1 => ?_)
  · have q1 : x < 965 := q1
    have q0 : ¬ x < 0 := q0
    obtain ⟨p, hp, rfl⟩ := nI_of q0
    have hp2 : p < 965 := by
      rw [show (965 : Int32) = nI 965 from rfl, nI_ltI hp (by omega)] at q1
      exact q1
    have i1 : vp_in (nI p) 965 := vp_in_nI (by omega) (by decide)
    rw [if_neg (fun e => e.elim q0 (fun e => absurd q1 (Int32.not_lt.mpr e)))] at h
    refine And.intro i1 ?_
    refine And.intro i1 ?_
    refine And.intro (fun e => ?_) (fun e => ?_)
    · have e : lg_cmp (G.2 (nI p).toNatClampNeg ||| s) (G.2 (nI p).toNatClampNeg) = 0 := e
      rw [if_pos ((lg_0 _ _).mp e)] at h
      exact h
    · have e : ¬ lg_cmp (G.2 (nI p).toNatClampNeg ||| s) (G.2 (nI p).toNatClampNeg) = 0 := e
      rw [if_neg (fun z => e ((lg_0 _ _).mpr z))] at h
      refine And.intro i1 ?_
      have e2 : upd (upd m c_W_hasGrown G.1) c_W_hasGrown 1 = upd m c_W_hasGrown 1 := upd_upd _ _ _ _
      have e3 : lst (lst l G.2) (vp_updL G.2 (nI p).toNatClampNeg (G.2 (nI p).toNatClampNeg ||| s)) = lst l (vp_updL G.2 (nI p).toNatClampNeg (G.2 (nI p).toNatClampNeg ||| s)) := by
        funext k
        unfold lst
        by_cases z : k = 0
        · rw [if_pos z, if_pos z]
        · rw [if_neg z, if_neg z, if_neg z]
      have h2 : P none (cs (upd (upd m c_W_hasGrown G.1) c_W_hasGrown 1) a (lst (lst l G.2) (vp_updL G.2 (nI p).toNatClampNeg (G.2 (nI p).toNatClampNeg ||| s))) w) := by rw [e2, e3]; exact h
      exact And.intro (Or.inr rfl) h2
  · have q1 : ¬ x < 965 := q1
    rw [if_pos (Or.inr (Int32.not_lt.mp q1))] at h
    exact h
end CK1
