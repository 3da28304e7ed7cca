/-! the two objects hold one state -/
def iSet (μ : xM) (t : Nat) : Prop := ∃ r, r ≤ t ∧ μ.1 95 3 = nI r ∧ ∀ s, s < 1024 → ∃ e, e ≤ r ∧ μ.1 98 s = nI e
def CX (μ : xM) (t : Nat) (ρ : Nat → Nat) (σ : Int32) (h : Nat) (Hρ : Nat → Nat → Nat) (Hσ : Nat → Int32) (c : Nat → Int32) (L : Nat) (T : Nat → Nat) : Prop :=
  Rep μ 1 ρ σ ∧ CH μ h Hρ Hσ ∧ (∀ j, j < 3 → μ.1 0 (5 + j) = c j) ∧ (μ.1 100 1 = nI L ∧ ∀ i, i < L → μ.1 101 i = nI (T i)) ∧ iSet μ t
def CM (μ : xM) (ρ : Nat → Nat) (σ : Int32) (h : Nat) (Hρ : Nat → Nat → Nat) (Hσ : Nat → Int32) (c : Nat → Int32) (L : Nat) (T : Nat → Nat) : Prop :=
  MR (μ.1 105) ρ σ ∧ MH μ h Hρ Hσ ∧ (∀ j, j < 3 → μ.1 108 j = c j) ∧ (μ.1 104 17 = nI L ∧ ∀ i, i < L → μ.1 117 i = nI (T i))
def CW (ρ : Nat → Nat) (h : Nat) (Hρ : Nat → Nat → Nat) (L : Nat) (T : Nat → Nat) : Prop := WF ρ ∧ (∀ i, i < h → WF (Hρ i)) ∧ L ≤ 150 ∧ ∀ i, i < L → T i < 128
def Inv (t : Nat) (μ : xM) : Prop := ∃ ρ σ h Hρ Hσ c L T, CW ρ h Hρ L T ∧ CX μ t ρ σ h Hρ Hσ c L T ∧ CM μ ρ σ h Hρ Hσ c L T
section INV
variable {μ ν κ : xM} {t h L : Nat} {ρ : Nat → Nat} {σ : Int32} {Hρ : Nat → Nat → Nat} {Hσ : Nat → Int32} {c : Nat → Int32} {T : Nat → Nat}
theorem iSet_mono {u : Nat} (hu : t ≤ u) (hi : iSet μ t) : iSet μ u := by
  obtain ⟨r, h1, h2⟩ := hi
  exact ⟨r, by omega, h2⟩
theorem iSet_fr (h1 : ν.1 95 = μ.1 95) (h2 : ν.1 98 = μ.1 98) (hi : iSet μ t) : iSet ν t := by
  unfold iSet at *
  rw [h1, h2]
  exact hi
theorem CH_fr (hf : ∀ q, 16 ≤ q → q < 93 → ν.1 q = μ.1 q ∧ ν.2 q = μ.2 q) (hh : CH μ h Hρ Hσ) : CH ν h Hρ Hσ := by
  obtain ⟨nx, h1, h2, h3, h4, h5⟩ := hh
  refine ⟨nx, h1, h2, by rw [(hf 16 (by omega) (by omega)).1]; exact h3, by rw [(hf 16 (by omega) (by omega)).1]; exact h4, fun i hi => ⟨(h5 i hi).1, Rep_fr (fun q q1 q2 => hf q (by omega) (by omega)) (h5 i hi).2⟩⟩
theorem MH_fr (h1 : ν.1 104 3 = μ.1 104 3) (h2 : ν.1 107 = μ.1 107) (hh : MH μ h Hρ Hσ) : MH ν h Hρ Hσ := by
  unfold MH at *
  rw [h1, h2]
  exact hh
theorem CX_fr (hf : fr (fun q => 104 ≤ q) μ ν) (hx : CX μ t ρ σ h Hρ Hσ c L T) : CX ν t ρ σ h Hρ Hσ c L T := by
  obtain ⟨h1, h2, h3, h4, h5⟩ := hx
  refine ⟨Rep_fr (fun q q1 q2 => hf q (by omega)) h1, CH_fr (fun q q1 q2 => hf q (by omega)) h2, ?_, ?_, iSet_fr (hf 95 (by decide)).1 (hf 98 (by decide)).1 h5⟩
  · rw [(hf 0 (by decide)).1]; exact h3
  · rw [(hf 100 (by decide)).1, (hf 101 (by decide)).1]; exact h4
theorem CM_fr (hf : fr (fun q => q < 104 ∨ q = 106) μ ν) (hm : CM μ ρ σ h Hρ Hσ c L T) : CM ν ρ σ h Hρ Hσ c L T := by
  obtain ⟨h1, h2, h3, h4⟩ := hm
  have e := hf 104 (by decide)
  refine ⟨?_, MH_fr (by rw [e.1]) (hf 107 (by decide)).1 h2, ?_, ?_⟩
  · rw [(hf 105 (by decide)).1]; exact h1
  · rw [(hf 108 (by decide)).1]; exact h3
  · rw [e.1, (hf 117 (by decide)).1]; exact h4
def cup (c : Nat → Int32) (j : Nat) : Nat → Int32 := fun i => if i = j then c j + 1 else c i
theorem CX_ref {j : Nat} (hj : j < 3) (hx : CX μ t ρ σ h Hρ Hσ c L T) : CX (xi μ 0 (5 + j) (μ.1 0 (5 + j) + 1)) t ρ σ h Hρ Hσ (cup c j) L T := by
  have hf : fr (fun q => q = 0) μ (xi μ 0 (5 + j) (μ.1 0 (5 + j) + 1)) := fr_xi rfl
  obtain ⟨h1, h2, h3, h4, h5⟩ := hx
  refine ⟨Rep_fr (fun q q1 q2 => hf q (by omega)) h1, CH_fr (fun q q1 q2 => hf q (by omega)) h2, ?_, ?_, iSet_fr (hf 95 (by decide)).1 (hf 98 (by decide)).1 h5⟩
  · intro i hi
    rw [y_xi]
    unfold cup
    by_cases e : i = j
    · rw [if_pos ⟨rfl, by omega⟩, if_pos e, h3 j hj]
    · rw [if_neg (by omega), if_neg e, h3 i hi]
  · rw [(hf 100 (by decide)).1, (hf 101 (by decide)).1]; exact h4
theorem CM_ref {j : Nat} (hj : j < 3) (hm : CM μ ρ σ h Hρ Hσ c L T) : CM (xi μ 108 j (μ.1 108 j + 1)) ρ σ h Hρ Hσ (cup c j) L T := by
  have hf : fr (fun q => q = 108) μ (xi μ 108 j (μ.1 108 j + 1)) := fr_xi rfl
  obtain ⟨h1, h2, h3, h4⟩ := hm
  have e := hf 104 (by decide)
  refine ⟨?_, MH_fr (by rw [e.1]) (hf 107 (by decide)).1 h2, ?_, ?_⟩
  · rw [(hf 105 (by decide)).1]; exact h1
  · intro i hi
    rw [y_xi]
    unfold cup
    by_cases e : i = j
    · rw [if_pos ⟨rfl, e⟩, if_pos e, h3 j hj]
    · rw [if_neg (by omega), if_neg e, h3 i hi]
  · rw [e.1, (hf 117 (by decide)).1]; exact h4
theorem fr_lo {P : Nat → Prop} (hp : ∀ q, P q → q < 104) (hf : fr P μ ν) : fr (fun q => q < 104 ∨ q = 106) μ ν := fr_mono hf (fun q h => Or.inl (hp q h))
theorem CX_t {u : Nat} (hu : t ≤ u) (hx : CX μ t ρ σ h Hρ Hσ c L T) : CX μ u ρ σ h Hρ Hσ c L T := ⟨hx.1, hx.2.1, hx.2.2.1, hx.2.2.2.1, iSet_mono hu hx.2.2.2.2⟩
/-- both refuse: the class first, then the reference, which may have held its row -/
theorem inv_ref {j : Nat} (hj : j < 3) (hw : CW ρ h Hρ L T) (hx : CX μ t ρ σ h Hρ Hσ c L T) (hm : CM μ ρ σ h Hρ Hσ c L T) (hF : fr (fun q => q = 106) (xi μ 0 (5 + j) (μ.1 0 (5 + j) + 1)) ν) : Inv (t + 1) (xi ν 108 j (ν.1 108 j + 1)) := by
  refine ⟨ρ, σ, h, Hρ, Hσ, cup c j, L, T, hw, CX_t (Nat.le_succ t) (CX_fr (fr_xi (by decide)) (CX_fr (fr_mono hF (fun q e => by subst e; decide)) (CX_ref hj hx))), CM_ref hj (CM_fr (fr_mono hF (fun q e => Or.inr e)) (CM_fr (fr_xi (Or.inl (by decide))) hm))⟩
theorem inv_id (hw : CW ρ h Hρ L T) (hx : CX μ t ρ σ h Hρ Hσ c L T) (hm : CM μ ρ σ h Hρ Hσ c L T) : Inv (t + 1) μ := ⟨ρ, σ, h, Hρ, Hσ, c, L, T, hw, CX_t (Nat.le_succ t) hx, hm⟩
end INV
theorem MR_0 {r : Nat → Int32} {ρ : Nat → Nat} {σ : Int32} (h : MR r ρ σ) : r 0 = nI (ρ 0) := by
  rw [h.2 0 (by decide) (by decide)]
  rfl
theorem clamp0 : (0 : Int32).toNatClampNeg = 0 := by decide
theorem op_clear {μ : xM} {t : Nat} (hI : Inv t μ) : p_X11_clear 0 μ (fun r1 μ1 => p_X12_clear 104 μ1 (fun r2 μ2 => r1 = r2 ∧ Inv (t + 1) μ2)) := by
  obtain ⟨ρ, σ, h, Hρ, Hσ, c, L, T, hw, hx, hm⟩ := hI
  unfold p_X11_clear p_X12_clear
  simp only [shp, shm]
  intro v1 e1 μ1 e2 v2 e3 μ2 e4
  have f1 : fr (fun q => q = 100) μ μ1 := by rw [e2]; exact fr_xi rfl
  have f2 : fr (fun q => q = 104) μ1 μ2 := by rw [e4]; exact fr_xi rfl
  refine ⟨?_, ρ, σ, h, Hρ, Hσ, c, 0, T, ⟨hw.1, hw.2.1, by omega, fun i hi => by omega⟩, ?_, ?_⟩
  · rw [e1, e3, hx.2.2.2.1.1, (f1 104 (by decide)).1, hm.2.2.2.1]
  · refine CX_t (Nat.le_succ t) (CX_fr (fr_mono f2 (fun q e => by subst e; decide)) ?_)
    obtain ⟨h1, h2, h3, h4, h5⟩ := hx
    refine ⟨Rep_fr (fun q q1 q2 => f1 q (by omega)) h1, CH_fr (fun q q1 q2 => f1 q (by omega)) h2, by rw [(f1 0 (by decide)).1]; exact h3, ⟨?_, fun i hi => by omega⟩, iSet_fr (f1 95 (by decide)).1 (f1 98 (by decide)).1 h5⟩
    rw [e2, y_xi, if_pos ⟨rfl, rfl⟩]
    rfl
  · have hm1 := CM_fr (fr_lo (fun q e => by subst e; decide) f1) hm
    obtain ⟨h1, h2, h3, h4⟩ := hm1
    refine ⟨by rw [(f2 105 (by decide)).1]; exact h1, MH_fr ?_ (f2 107 (by decide)).1 h2, by rw [(f2 108 (by decide)).1]; exact h3, ?_, fun i hi => by omega⟩
    · rw [e4, y_xi, if_neg (by decide)]
    · rw [e4, y_xi, if_pos ⟨rfl, rfl⟩]
      rfl
theorem op_told {μ : xM} {t : Nat} (hI : Inv t μ) (a : Int32) : p_X11_told 0 a μ (fun r1 μ1 => p_X12_told 104 a μ1 (fun r2 μ2 => r1 = r2 ∧ Inv (t + 1) μ2)) := by
  obtain ⟨ρ, σ, h, Hρ, Hσ, c, L, T, hw, hx, hm⟩ := hI
  unfold p_X11_told p_X12_told p_X12_toldOf
  simp only [shp, shm, e_in, y_b0]
  have hid := inv_id hw hx hm
  have x0 := hx.2.2.1 0 (by decide)
  have x1 := hx.2.2.1 1 (by decide)
  have x2 := hx.2.2.1 2 (by decide)
  have m0 := hm.2.2.1 0 (by decide)
  have m1 := hm.2.2.1 1 (by decide)
  have m2 := hm.2.2.1 2 (by decide)
  have hL : μ.1 100 1 = μ.1 104 17 := by rw [hx.2.2.2.1.1, hm.2.2.2.1]
  have hB : μ.1 2 0 = μ.1 105 0 := by rw [hx.1.1.1, MR_0 hm.1]
  have hH : μ.1 16 2 = μ.1 104 3 := by
    obtain ⟨nx, q⟩ := hx.2.1
    rw [q.2.2.2.1, hm.2.1.2.1]
  have v0 : ∀ k, k < 3 → vp_in (nI k) 3 := fun k hk => vp_in_nI hk (by decide)
  refine ⟨fun e => ?_, fun e0 => ⟨fun e => ?_, fun e1 => ⟨fun e => ?_, fun e2 => ⟨fun e => ?_, fun e3 => ⟨fun e => ?_, fun e4 => ⟨fun e => ?_, fun e5 => ?_⟩⟩⟩⟩⟩⟩
  · subst e
    refine ⟨fun h => absurd h (by decide), fun _ => ⟨fun h => absurd h (by decide), fun _ => ⟨v0 0 (by decide), ?_, hid⟩⟩⟩
    exact x0.trans m0.symm
  · subst e
    refine ⟨fun h => absurd h (by decide), fun _ => ⟨fun h => absurd h (by decide), fun _ => ⟨v0 1 (by decide), ?_, hid⟩⟩⟩
    exact x1.trans m1.symm
  · subst e
    refine ⟨fun h => absurd h (by decide), fun _ => ⟨fun h => absurd h (by decide), fun _ => ⟨v0 2 (by decide), ?_, hid⟩⟩⟩
    exact x2.trans m2.symm
  · subst e
    exact ⟨fun h => absurd h (by decide), fun _ => ⟨fun _ => ⟨fun h => absurd rfl h, fun _ => ⟨hL, hid⟩⟩, fun h => absurd (by decide) h⟩⟩
  · subst e
    refine ⟨fun h => absurd h (by decide), fun _ => ⟨fun _ => ⟨fun _ => ⟨fun h => absurd rfl h, fun _ => ⟨by exact vp_in_nI (n := 0) (by decide) (by decide), ?_, hid⟩⟩, fun h => absurd h (by decide)⟩, fun h => absurd (by decide) h⟩⟩
    rw [clamp0]; exact hB
  · subst e
    exact ⟨fun h => absurd h (by decide), fun _ => ⟨fun _ => ⟨fun _ => ⟨fun _ => ⟨hH, hid⟩, fun h => absurd h (by decide)⟩, fun h => absurd h (by decide)⟩, fun h => absurd (by decide) h⟩⟩
  · refine e_refX0 ?_
    refine ⟨fun _ => e_refM0 ⟨rfl, inv_ref (j := 0) (by decide) hw hx hm fr_rf⟩, fun hn => ?_⟩
    exact absurd (by grind) hn
