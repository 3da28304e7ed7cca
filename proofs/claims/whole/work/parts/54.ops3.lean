/-! shifts -/
def rShf (ρ : Nat → Nat) (k x y : Nat) : Nat → Nat := up1 (up1 ρ (5 + 7 * k) x) (6 + 7 * k) y
theorem rShf_x {ρ : Nat → Nat} {k x y : Nat} : rShf ρ k x y (5 + 7 * k) = x := by unfold rShf; rw [up1_n (by omega), up1_s]
theorem rShf_y {ρ : Nat → Nat} {k x y : Nat} : rShf ρ k x y (6 + 7 * k) = y := by unfold rShf; rw [up1_s]
theorem rShf_n {ρ : Nat → Nat} {k x y i : Nat} (h1 : i ≠ 5 + 7 * k) (h2 : i ≠ 6 + 7 * k) : rShf ρ k x y i = ρ i := by unfold rShf; rw [up1_n h2, up1_n h1]
theorem WF_shf {ρ : Nat → Nat} {k x y : Nat} (hw : WF ρ) (hk : k < ρ 0) (hx : x ≤ 6) (hy : y ≤ 6) : WF (rShf ρ k x y) := by
  obtain ⟨h1, h2, h3, h4, h5, h6, h7⟩ := hw
  have g : ∀ i, 43 ≤ i → rShf ρ k x y i = ρ i := fun i hi => rShf_n (by omega) (by omega)
  have g0 : rShf ρ k x y 0 = ρ 0 := rShf_n (by omega) (by omega)
  refine ⟨by rw [g0]; exact h1, fun j hj => ?_, fun c hc => ?_, ?_, ?_, ?_, fun i hi => ?_⟩
  · rw [g0] at hj
    have := h2 j hj
    unfold WB at this ⊢
    by_cases e : j = k
    · subst e
      rw [rShf_x, rShf_y, rShf_n (by omega) (by omega), rShf_n (by omega) (by omega), rShf_n (by omega) (by omega), rShf_n (by omega) (by omega), rShf_n (by omega) (by omega)]
      exact ⟨this.1, this.2.1, this.2.2.1, this.2.2.2.1, hx, hy, this.2.2.2.2.2.2⟩
    · rw [rShf_n (by omega) (by omega), rShf_n (by omega) (by omega), rShf_n (by omega) (by omega), rShf_n (by omega) (by omega), rShf_n (by omega) (by omega), rShf_n (by omega) (by omega), rShf_n (by omega) (by omega)]
      exact this
  · rw [g _ (by omega), g _ (by omega), g _ (by omega)]; exact h3 c hc
  · rw [g _ (by omega)]; exact h4
  · rw [g _ (by omega)]; exact h5
  · rw [g 92 (by omega), g 93 (by omega)]; exact h6
  · rw [g 93 (by omega)] at hi
    rw [g (95 + 3 * i) (by omega), g (96 + 3 * i) (by omega), g (97 + 3 * i) (by omega), g 92 (by omega), g0]
    exact h7 i hi
theorem e_shfX {μ : xM} {ρ : Nat → Nat} {σ : Int32} {k x y : Nat} (hR : Rep μ 1 ρ σ) (hw : WF ρ) (hk : k < ρ 0) (hx : x < 7) (hy : y < 7) {Q : xM → Prop} (hQ : ∀ ν, fr (fun q => 2 ≤ q ∧ q ≤ 10) μ ν → Rep ν 1 (rShf ρ k x y) σ → Q ν) : p_X0_move 2 (nI k) (nI x - 3) (nI y - 3) μ Q := by
  obtain ⟨⟨h1, h2⟩, h3, h4⟩ := hR
  have hk6 : k < 6 := by have := hw.1; omega
  have hb := hw.2.1 k hk
  have hkk := h2 k hk
  refine e_mv2 (a := ρ (4 + 7 * k)) hk6 hb.2.2.2.1.2 hx hy hkk.2.2.2.1 ?_
  have F : fr (fun q => 2 ≤ q ∧ q ≤ 10) μ (xi (xi (xi μ 7 k (nI x - 3)) 8 k (nI y - 3)) 9 k (nI (mvN (ρ (4 + 7 * k)) x y))) := fr_tr (fr_tr (fr_xi (by omega)) (fr_xi (by omega))) (fr_xi (by omega))
  refine hQ _ F ⟨⟨?_, fun j hj => ?_⟩, RH_ext (fun q q1 q2 => F q (by omega)) (fun i hi => rShf_n (by omega) (by omega)) h3, ?_⟩
  · rw [rShf_n (by omega) (by omega), y_xi, if_neg (by omega), y_xi, if_neg (by omega), y_xi, if_neg (by omega)]; exact h1
  · rw [rShf_n (by omega) (by omega)] at hj
    have hjj := h2 j hj
    unfold RBk plc at hjj ⊢
    simp only [y_xi]
    by_cases e : j = k
    · subst e
      rw [rShf_x, rShf_y, rShf_n (i := 1 + 7 * j) (by omega) (by omega), rShf_n (i := 2 + 7 * j) (by omega) (by omega), rShf_n (i := 3 + 7 * j) (by omega) (by omega), rShf_n (i := 4 + 7 * j) (by omega) (by omega), rShf_n (i := 7 + 7 * j) (by omega) (by omega)]
      refine ⟨?_, ?_, ?_, ?_, ?_, ?_, ?_, ?_⟩
      · simp; exact hjj.1
      · simp; exact hjj.2.1
      · simp; exact hjj.2.2.1
      · simp; exact hjj.2.2.2.1
      · simp
      · simp
      · simp
      · simp; exact hjj.2.2.2.2.2.2.2
    · rw [rShf_n (i := 5 + 7 * j) (by omega) (by omega), rShf_n (i := 6 + 7 * j) (by omega) (by omega), rShf_n (i := 1 + 7 * j) (by omega) (by omega), rShf_n (i := 2 + 7 * j) (by omega) (by omega), rShf_n (i := 3 + 7 * j) (by omega) (by omega), rShf_n (i := 4 + 7 * j) (by omega) (by omega), rShf_n (i := 7 + 7 * j) (by omega) (by omega)]
      simp only [e, and_false, if_false]
      exact hjj
  · have e1 : (fun i => rShf ρ k x y (43 + i)) = fun i => ρ (43 + i) := by funext i; exact rShf_n (by omega) (by omega)
    rw [e1, (F 1 (by omega)).2]
    exact h4
theorem e_plX {μ : xM} {ρ : Nat → Nat} {σ : Int32} {k : Nat} (hR : Rep μ 1 ρ σ) (h6 : ρ 0 ≤ 6) (hk : k < ρ 0) {Q : Int32 → xM → Prop} : p_X0_placeOf 2 (nI k) μ Q ↔ Q (nI (plc ρ k)) μ := by
  unfold p_X0_placeOf
  simp only [shp]
  rw [e_at (by simp only [shl]; omega) (by decide +kernel)]
  have := (hR.1.2 k hk).2.2.2.2.2.2.1
  rw [show (9 : Nat) = 1 + 8 from rfl, this]
theorem plc_lt (ρ : Nat → Nat) (k : Nat) : plc ρ k < 65536 := mvN_lt _ _ _
theorem e_doShf {μ : xM} {ρ : Nat → Nat} {σ : Int32} {k x y : Int32} (hM : MR (μ.1 105) ρ σ) (hw : WF ρ) {Q : Int32 → xM → Prop} (h1 : ¬ (isB k (nI (ρ 0)) ∧ inR x (-3) 3 ∧ inR y (-3) 3) → Q (-2) μ) (h2 : ∀ k2 x2 y2, k = nI k2 → x = nI x2 - 3 → y = nI y2 - 3 → k2 < ρ 0 → x2 < 7 → y2 < 7 → ∀ ν, fr (fun q => q = 105) μ ν → MR (ν.1 105) (rShf ρ k2 x2 y2) σ → Q (nI (pcN (plc (rShf ρ k2 x2 y2) k2))) ν) : p_X12_doShifts 104 k x y μ Q := by
  unfold p_X12_doShifts
  rw [e_isBlk (MR_0 hM) hw.1]
  simp only [e_in, y_b0, shm]
  by_cases g1 : isB k (nI (ρ 0))
  case neg => rw [pr0 g1]; exact h1 (fun h => g1 h.1)
  rw [pr1 g1]
  by_cases g2 : inR x (-3) 3
  case neg => rw [pr0 g2]; exact h1 (fun h => g2 h.2.1)
  rw [pr1 g2]
  by_cases g3 : inR y (-3) 3
  case neg => rw [pr0' g3]; exact h1 (fun h => g3 h.2.2)
  rw [pr1' g3]
  have h6 := hw.1
  obtain ⟨k2, hk, rfl⟩ := isB_of h6 g1
  obtain ⟨x2, hx, rfl⟩ := sh_of g2
  obtain ⟨y2, hy, rfl⟩ := sh_of g3
  rw [show (1 : Int32) = nI 1 from rfl, show (7 : Int32) = nI 7 from rfl, show (4 : Int32) = nI 4 from rfl, show (5 : Int32) = nI 5 from rfl, pk_mul, nI_add, nI_add, nI_add, nI_clamp (by omega), nI_clamp (by omega)]
  refine ⟨v131 (by omega), fun μ1 e1 => ⟨v131 (by omega), fun μ2 e2 => ?_⟩⟩
  have F : fr (fun q => q = 105) μ μ2 := by rw [e2, e1]; exact fr_tr (fr_xi rfl) (fr_xi rfl)
  have M2 : MR (μ2.1 105) (rShf ρ k2 x2 y2) σ := by
    refine ⟨?_, fun i i1 i2 => ?_⟩
    · rw [e2, y_xi, if_neg (by omega), e1, y_xi, if_neg (by omega)]; exact hM.1
    · rw [e2, y_xi, e1, y_xi]
      by_cases ey : i = 6 + 7 * k2
      · rw [if_pos ⟨rfl, by omega⟩, enc_s (by omega), ey, rShf_y]
      · rw [if_neg (by omega)]
        by_cases ex : i = 5 + 7 * k2
        · rw [if_pos ⟨rfl, by omega⟩, enc_s (by omega), ex, rShf_x]
        · rw [if_neg (by omega), hM.2 i i1 i2]
          unfold enc
          rw [rShf_n ex ey]
  have hW2 := WF_shf hw hk (show x2 ≤ 6 by omega) (show y2 ≤ 6 by omega)
  have hk0 : k2 < rShf ρ k2 x2 y2 0 := by rw [rShf_n (by omega) (by omega)]; exact hk
  refine e_plcM M2 (by omega) (hW2.2.1 k2 hk0) ?_
  refine e_bits (plc_lt _ _) ?_
  exact h2 k2 x2 y2 rfl rfl rfl hk hx hy μ2 F M2
theorem op_shifts {μ : xM} {t : Nat} (hI : Inv t μ) (k x y : Int32) : p_X11_shifts 0 k x y μ (fun r1 μ1 => p_X12_shifts 104 k x y μ1 (fun r2 μ2 => r1 = r2 ∧ Inv (t + 1) μ2)) := by
  obtain ⟨ρ, σ, h, Hρ, Hσ, cc, L, T, hw, hx, hm⟩ := hI
  have hn6 : ρ 0 ≤ 6 := hw.1.1
  have h0 : μ.1 2 0 = nI (ρ 0) := hx.1.1.1
  unfold p_X11_shifts
  rw [e_whyShf, h0]
  simp only [shp]
  by_cases hv : isB k (nI (ρ 0)) ∧ inR x (-3) 3 ∧ inR y (-3) 3
  · rw [if_pos hv]
    refine ⟨fun _ => ?_, fun h => absurd rfl h⟩
    obtain ⟨k2, hk, ek⟩ := isB_of hn6 hv.1
    obtain ⟨x2, hx2, ex⟩ := sh_of hv.2.1
    obtain ⟨y2, hy2, ey⟩ := sh_of hv.2.2
    refine keepR hw.1 hx (fun μ4 f4 hc4 hr4 => ?_)
    rw [ek, ex, ey]
    refine e_shfX hr4 hw.1 hk hx2 hy2 (fun ν F hr => ?_)
    have hW2 := WF_shf hw.1 hk (show x2 ≤ 6 by omega) (show y2 ≤ 6 by omega)
    have hk0 : k2 < rShf ρ k2 x2 y2 0 := by rw [rShf_n (by omega) (by omega)]; exact hk
    rw [e_plX hr hW2.1 hk0, e_bc (plc_lt _ _)]
    have fX : fr (fun q => q < 104 ∨ q = 106) μ ν := fr_tr (fr_mono f4 (fun q e => by omega)) (fr_mono F (fun q e => by omega))
    have hm1 := CM_fr fX hm
    unfold p_X12_shifts
    refine e_hold (fun ν1 F1 hv1 => ?_)
    have m1 : MR (ν1.1 105) ρ σ := by rw [(F1 105 (by decide)).1]; exact hm1.1
    rw [← ek, ← ex, ← ey]
    refine e_doShf m1 hw.1 (fun h => absurd hv h) (fun k3 x3 y3 e1 e2 e3 hk3 hx3 hy3 ν2 F2 hR2 => ?_)
    have q1 : k3 = k2 := by rw [ek] at e1; exact ((nI_eq (by omega) (by omega)).mp e1).symm
    have cn : ∀ a, a < 7 → ∀ b, b < 7 → nI a - 3 = nI b - 3 → a = b := by decide +kernel
    have q2 : x3 = x2 := by rw [ex] at e2; exact (cn _ hx2 _ hx3 e2).symm
    have q3 : y3 = y2 := by rw [ey] at e3; exact (cn _ hy2 _ hy3 e3).symm
    subst q1; subst q2; subst q3
    have g : ∀ q, q ≠ 105 → ν2.1 q = ν1.1 q := fun q hq => (F2 q hq).1
    have g1 : ∀ q, q ≠ 106 → ν1.1 q = ν.1 q := fun q hq => (F1 q hq).1
    refine e_endS (μ := ν) (by have := pcN_le (plc (rShf ρ k3 x3 y3) k3); omega) hm1 (by rw [g 106 (by decide)]; exact held hm1.1 hv1) (by rw [g _ (by decide), g1 _ (by decide)]) (by rw [g _ (by decide), g1 _ (by decide)]) (by rw [g _ (by decide), g1 _ (by decide)]) (by rw [g _ (by decide), g1 _ (by decide)]) (by rw [g _ (by decide), g1 _ (by decide)]) hR2 (fun κ F3 hm3 => ⟨rfl, _, _, _, _, _, _, _, _, hpu_WF hw hm.2.1.1 hW2, ?_, hm3⟩)
    refine CX_t (Nat.le_succ t) (CX_fr (fr_tr (fr_mono F1 (fun q e => by omega)) (fr_tr (fr_mono F2 (fun q e => by omega)) F3)) ?_)
    exact CX_S hx f4 hc4 (fr_mono F (fun q e => by omega)) hr
  · rw [if_neg hv]
    refine ⟨fun h => absurd h (by decide), fun _ => e_refX0 ?_⟩
    unfold p_X12_shifts
    refine e_hold (fun ν1 F1 hv1 => ?_)
    have m1 : MR (ν1.1 105) ρ σ := by rw [(F1 105 (by decide)).1, y_xin (by decide)]; exact hm.1
    refine e_doShf m1 hw.1 (fun _ => ?_) (fun k3 x3 y3 e1 e2 e3 hk3 hx3 hy3 => absurd ⟨by rw [e1]; exact isB_nI hk3 hn6, ?_, ?_⟩ hv)
    · exact e_endR (j := 0) (by decide) (by decide) (by decide) ⟨rfl, inv_ref (j := 0) (by decide) hw hx hm F1⟩
    · have : ∀ a, a < 7 → inR (nI a - 3) (-3) 3 := by decide +kernel
      rw [e2]; exact this _ hx3
    · have : ∀ a, a < 7 → inR (nI a - 3) (-3) 3 := by decide +kernel
      rw [e3]; exact this _ hy3
