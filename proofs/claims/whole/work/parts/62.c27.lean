theorem PrS_EdS {a : Nat → Nat → Int32} {V W : Nat} {t : Std.Format} (ht : fT V t) : ∀ (b : Nat) (sc : sc_T), PrS a W t b sc → EdS a t b := by
  have pe : ∀ (N : Nat) (t : Std.Format), SizeOf.sizeOf t < N → fT V t → ∀ b, PrE a t b → (∀ c x, t = .tag c x → ¬ stS (sp_s c)) → True := fun _ _ _ _ _ _ _ => trivial
  suffices hh : (∀ b, PrE a t b → (eW V t ∨ ∃ y z, t = .append y z ∧ eW V y ∧ eW V z) → EdS a t b) ∧ ∀ (b : Nat) (sc : sc_T), PrS a W t b sc → EdS a t b from hh.2
  have nt : ∀ c, ¬ stS (sp_s c) → ¬ sp_s c = 84 := fun c h q => h (by rw [q]; unfold stS; omega)
  refine fT_ind (V := V) (M := fun t => (∀ b, PrE a t b → (eW V t ∨ ∃ y z, t = .append y z ∧ eW V y ∧ eW V z) → EdS a t b) ∧ ∀ (b : Nat) (sc : sc_T), PrS a W t b sc → EdS a t b) ?_ ?_ ?_ ?_ ?_ ?_ ?_ _ t (Nat.lt_succ_self _) ht
  · intro x y hx hy
    refine ⟨fun b h q => ?_, fun b sc h => ⟨hx.2 b sc h.1, hy.2 _ _ h.2⟩⟩
    rcases q with q | ⟨y', z', e, q1, q2⟩
    · obtain ⟨c, x', e, -⟩ := eW_tag q; cases e
    · cases e
      exact ⟨hx.1 b h.1 (Or.inl q1), hy.1 _ h.2 (Or.inl q2)⟩
  · exact ⟨fun _ _ _ => trivial, fun _ _ _ => trivial⟩
  · exact ⟨fun _ _ _ => trivial, fun _ _ _ => trivial⟩
  · intro c x hs h8 hx
    refine ⟨fun b h q => ?_, fun b sc h => ?_⟩
    · rcases q with q | ⟨y', z', e, q1, q2⟩
      · exact absurd hs (eW_notS q)
      · cases e
    · unfold PrS at h
      rw [if_pos hs, if_neg h8] at h
      exact ⟨⟨⟨h.1.1.1.2.1.2, h.1.1.1.1.1⟩, fun q => absurd q h8⟩, hx.2 _ _ h.2.2⟩
  · intro c u v w h8 hc hu hv hw
    have hs : stS (sp_s c) := by rw [h8]; unfold stS; omega
    refine ⟨fun b h q => ?_, fun b sc h => ?_⟩
    · rcases q with q | ⟨y', z', e, q1, q2⟩
      · exact absurd hs (eW_notS q)
      · cases e
    · unfold PrS at h
      rw [if_pos hs, if_pos h8] at h
      simp only at h
      exact ⟨⟨⟨h.1.1.1.2.1.2, h.1.1.1.1.1⟩, fun _ => h.2.1⟩, hu.2 _ _ h.2.2.1, hv.2 _ _ h.2.2.2.1, hw.2 _ _ h.2.2.2.2⟩
  · intro c u v hs he hu hv
    obtain ⟨-, h5 | ⟨h5, -⟩⟩ := eW_shape he
    · obtain ⟨u', v', e, hu', hv'⟩ := h5
      cases e
      have key : ∀ b, PrE a (.tag c (.append u v)) b → EdS a (.tag c (.append u v)) b := fun b h => ⟨⟨⟨h.1.2.2, h.1.1.1⟩, fun q => absurd q (nt c hs)⟩, hu.1 _ h.2.1 (Or.inl hu'), hv.1 _ h.2.2 hv'⟩
      refine ⟨fun b h _ => key b h, fun b sc h => ?_⟩
      unfold PrS at h
      rw [if_neg hs] at h
      exact key b h.1
    · exact absurd ⟨u, v, rfl⟩ h5
  · intro c x hs he hx hM
    have key : ∀ b, PrE a (.tag c x) b → EdS a (.tag c x) b := by
      intro b h
      refine ⟨⟨⟨h.1.2.2, h.1.1.1⟩, fun q => absurd q (nt c hs)⟩, ?_⟩
      obtain ⟨-, ⟨u, v, e, -⟩ | ⟨-, h5⟩⟩ := eW_shape he
      · exact absurd ⟨u, v, e⟩ hx
      · rcases h5 with rfl | h5
        · trivial
        · exact hM.1 _ h.2 (Or.inl h5)
    refine ⟨fun b h _ => key b h, fun b sc h => ?_⟩
    unfold PrS at h
    rw [if_neg hs] at h
    exact key b h.1
theorem cc_link_ok {l : Nat → Nat → Int64} {w : Int64} (d : Nat) (m : Nat → Int32) (a : Nat → Nat → Int32) {V : Nat} {t : Std.Format} (ht : fT V t) (hE : EdS a t 0) (hN : sp_z t ≤ 241) (hs : m c_P_size = nI (sp_z t)) (P : pv_R) (h : ∀ a', FL a a' 0 → LkS a' t 0 0 0 0 0 false → P none (cs m a' l w)) : pv_call cq_mt (d + 4) cq_m_Places_link [.ref 2] (cs m a l w) P := by
  refine cc_link (d + 3) m a P ?_
  have key := lM_all (l := l) (w := w) (d := d) (P := P) hN hs ht 0 0 0 0 0 0 false a hE (by omega) ⟨⟨0, by omega, rfl, rfl⟩, fun _ => rfl, Nat.le_refl _⟩ (Or.inl ⟨rfl, rfl, rfl, rfl⟩) (fun a' g1 g2 g3 => ?_) [] (Or.inl rfl)
  · exact key
  · rw [Nat.zero_add]
    exact lk_end (d + 3) m a' hs P (h a' g1 g2)
