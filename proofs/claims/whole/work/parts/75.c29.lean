section PLR
variable {a : Nat → Nat → Int32} {W N : Nat}
/-- a statement's own row -/
theorem plR_S (hN : N ≤ 241) {b c : Nat} {x : Std.Format} {sc : sc_T} (hW : W ≤ 12) (hs : stS (sp_s c)) (h8 : ¬ sp_s c = 84) (hg : (sp_s c = 36 ∨ sp_s c = 37) → 1 ≤ sp_pl c % 16 ∧ sp_pl c % 16 ≤ W) (hj : (sp_s c = 66 ∨ sp_s c = 67) → sp_pl c ≤ N) (hb : b + 1 + sp_z x ≤ N) (h : PrS a W (.tag c x) b sc) : plR a N b ∧ PrS a W x (b + 1) sc := by
  unfold PrS at h
  rw [if_pos hs, if_neg h8] at h
  obtain ⟨⟨⟨⟨⟨h1, h2⟩, ⟨h3, h4⟩, h5⟩, h6, h7, h9, h10⟩, -⟩, ⟨h11, h12⟩, h13⟩ := h
  refine ⟨⟨⟨_, h4, by omega, hb, Or.inl h11, Or.inl h12⟩, ?_, fun q => ?_⟩, h13⟩
  · by_cases q : sp_s c = 36 ∨ sp_s c = 37
    · have := (h6 q).1
      have hg := hg q
      refine ⟨sp_pl c % 16, ?_, by omega⟩
      rw [(h6 q).2.1]
      obtain ⟨k, hk⟩ := Nat.exists_eq_add_of_le' this.1
      rw [hk, oI_s]; rfl
    · exact ⟨0, h7 q, by omega⟩
  · rw [h1, show (66 : Int32) = nI 66 from rfl, show (67 : Int32) = nI 67 from rfl, nI_eq (by unfold sp_s; omega) (by omega), nI_eq (by unfold sp_s; omega) (by omega)] at q
    have := h9 q
    exact ⟨sp_pl c - 1, by have := hj q; omega, this.2⟩
def M0R (a : Nat → Nat → Int32) (W N : Nat) (cx : kx_T) (t : Std.Format) (b : Nat) : Prop := (∀ e ∈ cx, e.1 < N) → ∀ sc, PrS a W t b sc → b + sp_z t ≤ N → ∀ i, b ≤ i → i < b + sp_z t → plR a N i
theorem plR_sub {b i z : Nat} {x : Std.Format} (h0 : plR a N b) (hx : ∀ i, b + 1 ≤ i → i < b + 1 + sp_z x → plR a N i) (hz : z = sp_z x + 1) (h1 : b ≤ i) (h2 : i < b + z) : plR a N i := by
  by_cases c : i = b
  · rw [c]; exact h0
  · exact hx i (by omega) (by omega)
theorem plR_ex (hN : N ≤ 241) (hW : W ≤ 12) {e : Std.Format} {b : Nat} {sc : sc_T} (he : eW W e) (hb : b + sp_z e ≤ N) (h : PrS a W e b sc) : ∀ i, b ≤ i → i < b + sp_z e → plR a N i := by
  obtain ⟨c, x, rfl, -⟩ := eW_tag he
  unfold PrS at h
  rw [if_neg (eW_notS he)] at h
  exact plR_e hW hN he b hb h.1 (fun i i1 i2 => ⟨_, h.2 i i1 i2⟩)
theorem cx_lt {cx : kx_T} {b s : Nat} (h : ∀ e ∈ cx, e.1 < N) (hb : b < N) : ∀ e ∈ (b, s) :: cx, e.1 < N := by
  intro e he
  rcases List.mem_cons.mp he with q | q
  · rw [q]; exact hb
  · exact h e q
theorem plR_all (hN : N ≤ 241) (hW : W ≤ 12) {t : Std.Format} {cx : kx_T} {b : Nat} : (sW W 0 cx t b → M0R a W N cx t b) ∧ (sW W 1 cx t b → M0R a W N cx t b) := by
  have nj : ∀ c, ¬ (sp_s c = 66 ∨ sp_s c = 67) → (sp_s c = 66 ∨ sp_s c = 67) → sp_pl c ≤ N := fun c h q => absurd q h
  have ng : ∀ c, ¬ (sp_s c = 36 ∨ sp_s c = 37) → (sp_s c = 36 ∨ sp_s c = 37) → 1 ≤ sp_pl c % 16 ∧ sp_pl c % 16 ≤ W := fun c h q => absurd q h
  refine sW_ind (W := W) (M0 := M0R a W N) (M1 := M0R a W N) ?_ ?_ ?_ ?_ ?_ ?_ ?_ ?_ ?_ ?_ ?_ ?_ ?_ ?_ ?_ ?_ ?_ _ t (Nat.lt_succ_self _) cx b
  · intro cx c b h1 h2 hcx sc hP hb i i1 i2
    simp only [sp_z] at hb i2
    have r := plR_S hN hW (by unfold stS; omega) (by omega) (fun _ => h2) (nj c (by omega)) (by simp only [sp_z]; omega) hP
    have : i = b := by omega
    rw [this]; exact r.1
  · intro cx c x b h1 hx hcx sc hP hb i i1 i2
    simp only [sp_z] at hb i2
    have r := plR_S hN hW (by unfold stS; omega) (by omega) (ng c (by omega)) (nj c (by omega)) (by omega) hP
    exact plR_sub r.1 (hx (cx_lt hcx (by omega)) sc r.2 (by omega)) rfl i1 i2
  · intro cx c t b h1 hx hcx sc hP hb i i1 i2
    simp only [sp_z] at hb i2
    have r := plR_S hN hW (by unfold stS; omega) (by omega) (ng c (by omega)) (nj c (by omega)) (by simp only [sp_z]; omega) hP
    refine plR_sub (x := .append t .nil) r.1 (fun k k1 k2 => ?_) (by simp only [sp_z]) i1 i2
    simp only [sp_z] at k2
    exact hx (cx_lt hcx (by omega)) sc r.2.1 (by omega) k k1 (by omega)
  · intro cx c e b h1 he hcx sc hP hb i i1 i2
    simp only [sp_z] at hb i2
    have r := plR_S hN hW (by unfold stS; omega) (by omega) (ng c (by omega)) (nj c (by omega)) (by simp only [sp_z]; omega) hP
    refine plR_sub (x := .append e .nil) r.1 (fun k k1 k2 => ?_) (by simp only [sp_z]) i1 i2
    simp only [sp_z] at k2
    exact plR_ex hN hW he (by omega) r.2.1 k k1 (by omega)
  · intro cx c e t b h1 he ht hcx sc hP hb i i1 i2
    simp only [sp_z] at hb i2
    have r := plR_S hN hW (by unfold stS; omega) (by omega) (ng c (by omega)) (nj c (by omega)) (by simp only [sp_z]; omega) hP
    refine plR_sub (x := .append e (.append t .nil)) r.1 (fun k k1 k2 => ?_) (by simp only [sp_z]) i1 i2
    simp only [sp_z] at k2
    by_cases q : k < b + 1 + sp_z e
    · exact plR_ex hN hW he (by omega) r.2.1 k k1 q
    · exact ht (cx_lt hcx (by omega)) _ r.2.2.1 (by omega) k (by omega) (by omega)
  · intro cx c e t t2 b h1 he ht ht2 hcx sc hP hb i i1 i2
    simp only [sp_z] at hb i2
    have r := plR_S hN hW (by unfold stS; omega) (by omega) (ng c (by omega)) (nj c (by omega)) (by simp only [sp_z]; omega) hP
    refine plR_sub (x := .append e (.append t (.append t2 .nil))) r.1 (fun k k1 k2 => ?_) (by simp only [sp_z]) i1 i2
    simp only [sp_z] at k2
    by_cases q : k < b + 1 + sp_z e
    · exact plR_ex hN hW he (by omega) r.2.1 k k1 q
    · by_cases q2 : k < b + 1 + sp_z e + sp_z t
      · exact ht (cx_lt hcx (by omega)) _ r.2.2.1 (by omega) k (by omega) q2
      · exact ht2 (cx_lt hcx (by omega)) _ r.2.2.2.1 (by omega) k (by omega) (by omega)
  · intro cx c e t b h1 he ht hcx sc hP hb i i1 i2
    simp only [sp_z] at hb i2
    have r := plR_S hN hW (by unfold stS; omega) (by omega) (ng c (by omega)) (nj c (by omega)) (by simp only [sp_z]; omega) hP
    refine plR_sub (x := .append e (.append t .nil)) r.1 (fun k k1 k2 => ?_) (by simp only [sp_z]) i1 i2
    simp only [sp_z] at k2
    by_cases q : k < b + 1 + sp_z e
    · exact plR_ex hN hW he (by omega) r.2.1 k k1 q
    · exact ht (cx_lt hcx (by omega)) _ r.2.2.1 (by omega) k (by omega) (by omega)
  · intro cx c e t b h1 he ht hcx sc hP hb i i1 i2
    simp only [sp_z] at hb i2
    have r := plR_S hN hW (by unfold stS; omega) (by omega) (ng c (by omega)) (nj c (by omega)) (by simp only [sp_z]; omega) hP
    refine plR_sub (x := .append t (.append e .nil)) r.1 (fun k k1 k2 => ?_) (by simp only [sp_z]) i1 i2
    simp only [sp_z] at k2
    by_cases q : k < b + 1 + sp_z t
    · exact ht (cx_lt hcx (by omega)) _ r.2.1 (by omega) k k1 q
    · exact plR_ex hN hW he (by omega) r.2.2.1 k (by omega) (by omega)
  · intro cx c e e2 t b h1 he he2 ht hcx sc hP hb i i1 i2
    simp only [sp_z] at hb i2
    have r := plR_S hN hW (by unfold stS; omega) (by omega) (ng c (by omega)) (nj c (by omega)) (by simp only [sp_z]; omega) hP
    refine plR_sub (x := .append e (.append e2 (.append t .nil))) r.1 (fun k k1 k2 => ?_) (by simp only [sp_z]) i1 i2
    simp only [sp_z] at k2
    by_cases q : k < b + 1 + sp_z e
    · exact plR_ex hN hW he (by omega) r.2.1 k k1 q
    · by_cases q2 : k < b + 1 + sp_z e + sp_z e2
      · exact plR_ex hN hW he2 (by omega) r.2.2.1 k (by omega) q2
      · exact ht (cx_lt hcx (by omega)) _ r.2.2.2.1 (by omega) k (by omega) (by omega)
  · intro cx c e y b h1 he hy hcx sc hP hb i i1 i2
    simp only [sp_z] at hb i2
    have r := plR_S hN hW (by unfold stS; omega) (by omega) (ng c (by omega)) (nj c (by omega)) (by simp only [sp_z]; omega) hP
    refine plR_sub (x := .append e y) r.1 (fun k k1 k2 => ?_) (by simp only [sp_z]) i1 i2
    simp only [sp_z] at k2
    by_cases q : k < b + 1 + sp_z e
    · exact plR_ex hN hW he (by omega) r.2.1 k k1 q
    · exact hy (cx_lt hcx (by omega)) _ r.2.2 (by omega) k (by omega) (by omega)
  · intro cx c u v w b h8 hc hu hv hw hcx sc hP hb i i1 i2
    simp only [sp_z] at hb i2
    have hs : stS (sp_s c) := by unfold stS; omega
    unfold PrS at hP
    rw [if_pos hs, if_pos h8] at hP
    simp only at hP
    obtain ⟨⟨⟨⟨⟨h1, h2⟩, ⟨h3, h4⟩, h5⟩, h6, h7, h9, h10⟩, -⟩, ⟨h11, h12⟩, hPu, hPv, hPw⟩ := hP
    simp only [sp_z] at h4
    have h0 : plR a N b := by
      refine ⟨⟨_, h4, by omega, by omega, ?_, ?_⟩, ⟨0, h7 (by omega), by omega⟩, fun q => ?_⟩
      · by_cases q : sp_pl c % 2 = 1
        · exact Or.inr ⟨_, by rw [h11, if_pos q], by omega⟩
        · exact Or.inl (by rw [h11, if_neg q])
      · by_cases q : sp_pl c / 2 = 1
        · exact Or.inr ⟨_, by rw [h12, if_pos q], by omega⟩
        · exact Or.inl (by rw [h12, if_neg q])
      · exfalso
        rw [h1, h8] at q
        exact absurd q (by decide)
    refine plR_sub (x := .append u (.append v w)) h0 (fun k k1 k2 => ?_) (by simp only [sp_z]) i1 i2
    simp only [sp_z] at k2
    by_cases q : k < b + 1 + sp_z u
    · exact hu (cx_lt hcx (by omega)) _ hPu (by omega) k k1 q
    · by_cases q2 : k < b + 1 + sp_z u + sp_z v
      · exact hv (cx_lt hcx (by omega)) _ hPv (by omega) k (by omega) q2
      · exact hw (cx_lt hcx (by omega)) _ hPw (by omega) k (by omega) (by omega)
  · intro cx c b h1 h2 hcx sc hP hb i i1 i2
    simp only [sp_z] at hb i2
    obtain ⟨t, s, hm, hp, -⟩ := h2
    have r := plR_S hN hW (by unfold stS; omega) (by omega) (ng c (by omega)) (fun _ => by have := hcx _ hm; simp only at this; omega) (by simp only [sp_z]; omega) hP
    have : i = b := by omega
    rw [this]; exact r.1
  · intro cx c b h1 hcx sc hP hb i i1 i2
    simp only [sp_z] at hb i2
    have r := plR_S hN hW (by unfold stS; omega) (by omega) (ng c (by omega)) (nj c (by omega)) (by simp only [sp_z]; omega) hP
    have : i = b := by omega
    rw [this]; exact r.1
  · intro cx c e b h1 he hcx sc hP hb i i1 i2
    simp only [sp_z] at hb i2
    have r := plR_S hN hW (by unfold stS; omega) (by omega) (ng c (by omega)) (nj c (by omega)) (by simp only [sp_z]; omega) hP
    refine plR_sub (x := .append e .nil) r.1 (fun k k1 k2 => ?_) (by simp only [sp_z]) i1 i2
    simp only [sp_z] at k2
    exact plR_ex hN hW he (by omega) r.2.1 k k1 (by omega)
  · intro cx t y b ht hy hcx sc hP hb i i1 i2
    simp only [sp_z] at hb i2
    by_cases q : i < b + sp_z t
    · exact ht hcx _ hP.1 (by omega) i i1 q
    · exact hy hcx _ hP.2 (by omega) i (by omega) (by omega)
  · intro cx b hcx sc hP hb i i1 i2
    simp only [sp_z] at i2; omega
  · intro cx b hcx sc hP hb i i1 i2
    simp only [sp_z] at i2; omega
end PLR
