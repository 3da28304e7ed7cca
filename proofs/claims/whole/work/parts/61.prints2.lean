/-! PRINTS BY HAND -/
def ptS (ρ : Nat → Nat) : Nat → Nat
  | 0 => 0
  | i + 1 => ptS ρ i ||| 2 ^ ρ (95 + 3 * i)
theorem ptS_lt {ρ : Nat → Nat} (hW : WF ρ) : ∀ i, i ≤ ρ 93 → ptS ρ i < 64
  | 0, _ => by simp [ptS]
  | i + 1, hi => by
    have h1 := (hW.2.2.2.2.2.2 i (by omega)).1
    have h6 := hW.1
    exact Nat.or_lt_two_pow (n := 6) (ptS_lt hW i (by omega)) (Nat.pow_lt_pow_right (by decide) (by omega))
theorem l_ptX {μ : xM} {ρ : Nat → Nat} {σ : Int32} (hR : Rep μ 1 ρ σ) (hW : WF ρ) {K : Int32 → xM → Prop} (hK : K (nI (ptS ρ (ρ 93))) μ) : ∀ d i, i + d = ρ 93 → L_X2_printed_4 11 (d + 1) (nI i) (nI (ptS ρ i)) μ K
  | 0, i, hi => by
    unfold L_X2_printed_4 B_X2_printed_4
    have hcnt : μ.1 11 2 = nI (ρ 93) := hR.2.1.2.2.1
    rw [hcnt, show i = ρ 93 by omega]
    have := hW.2.2.2.2.1
    exact ⟨fun _ => hK, fun h => absurd (nI_le (Nat.le_refl _) (by omega)) h⟩
  | d + 1, i, hi => by
    have ih := l_ptX hR hW hK d (i + 1) (by omega)
    have h12 := hW.2.2.2.2.1
    have h6 := hW.1
    have hi93 : i < ρ 93 := by omega
    have hcnt : μ.1 11 2 = nI (ρ 93) := hR.2.1.2.2.1
    have q1 := (hR.2.1.2.2.2.2 i hi93).1
    have w1 := (hW.2.2.2.2.2.2 i hi93).1
    unfold L_X2_printed_4 B_X2_printed_4
    simp only [shp, hcnt]
    refine ⟨fun h => absurd h (nI_ge hi93 (by omega)), fun _ => ?_⟩
    rw [e_at (by simp only [shl]; omega) (by decide +kernel), show (13 : Nat) = 1 + 12 from rfl, q1, show (1 : Int32) = nI 1 from rfl, y_shl (by omega), y_or, nI_add, Nat.one_mul]
    simp only [forall_eq]
    exact ih
theorem l_ptM {μ : xM} {ρ : Nat → Nat} {σ : Int32} {x y : Int32} (hM : MR (μ.1 105) ρ σ) (hW : WF ρ) {K : Int32 → xM → Prop} (hK : K (nI (ptS ρ (ρ 93))) μ) : ∀ d i, i + d = ρ 93 → L_X12_doPrints_26 104 x y (d + 1) (nI i) (nI (ptS ρ i)) μ K
  | 0, i, hi => by
    unfold L_X12_doPrints_26 B_X12_doPrints_26
    have c93 : (93 : Int32).toNatClampNeg = 93 := by decide
    have hcnt : μ.1 105 93 = nI (ρ 93) := MR_p hM (by decide) (by decide) (by decide)
    simp only [shm, c93, hcnt]
    rw [show i = ρ 93 by omega]
    have := hW.2.2.2.2.1
    exact ⟨v131 (k := 93) (by decide), fun _ => hK, fun h => absurd (nI_le (Nat.le_refl _) (by omega)) h⟩
  | d + 1, i, hi => by
    have ih := l_ptM (x := x) (y := y) hM hW hK d (i + 1) (by omega)
    have h12 := hW.2.2.2.2.1
    have h6 := hW.1
    have hi93 : i < ρ 93 := by omega
    have c93 : (93 : Int32).toNatClampNeg = 93 := by decide
    have hcnt : μ.1 105 93 = nI (ρ 93) := MR_p hM (by decide) (by decide) (by decide)
    have w1 := (hW.2.2.2.2.2.2 i hi93).1
    unfold L_X12_doPrints_26 B_X12_doPrints_26
    simp only [shm, c93, hcnt]
    refine ⟨v131 (k := 93) (by decide), fun h => absurd h (nI_ge hi93 (by omega)), fun _ => ?_⟩
    rw [show (95 : Int32) = nI 95 from rfl, show (3 : Int32) = nI 3 from rfl, pk_mul, nI_add, nI_clamp (by omega), MR_p hM (by omega) (by omega) (by omega), show (1 : Int32) = nI 1 from rfl, y_shl (by omega), y_or, nI_add, Nat.one_mul]
    simp only [forall_eq]
    exact ⟨v131 (by omega), ih⟩
theorem e_mayF {μ : xM} {ρ : Nat → Nat} {σ : Int32} {k u : Nat} (hR : Rep μ 1 ρ σ) (h6 : ρ 0 ≤ 6) (hk : k < ρ 0) (hb : ρ (7 + 7 * k) < 64) {Q : Int32 → xM → Prop} : p_X0_mayFollow 2 (nI k) (nI u) μ Q ↔ Q (if ndf (ρ (7 + 7 * k)) u = 0 then 1 else 0) μ := by
  unfold p_X0_mayFollow
  simp only [shp]
  have hkk : μ.1 10 k = nI (ρ (7 + 7 * k)) := (hR.1.2 k hk).2.2.2.2.2.2.2
  have hl : ndf (ρ (7 + 7 * k)) u < 64 := ndf_lt (n := 6) hb
  rw [e_at (by simp only [shl]; omega) (by decide +kernel), hkk, y_andn, show (0 : Int32) = nI 0 from rfl, nI_eq (by omega) (by decide)]
  by_cases e : ndf (ρ (7 + 7 * k)) u = 0
  · rw [if_pos e]
    exact ⟨fun x => x.2 e, fun x => ⟨fun y => absurd e y, fun _ => x⟩⟩
  · rw [if_neg e]
    exact ⟨fun x => x.1 e, fun x => ⟨fun _ => x, fun y => absurd y e⟩⟩
abbrev vPrt (k n : Int32) (m : Nat) : Prop := isB k (nI m) ∧ inR n 0 9
theorem e_whyPrt {μ : xM} {ρ : Nat → Nat} {σ : Int32} {k n : Int32} (hR : Rep μ 1 ρ σ) (hW : WF ρ) {Q : Int32 → xM → Prop} (h1 : ¬ vPrt k n (ρ 0) → Q (-2) μ) (h2 : ∀ j m, k = nI j → n = nI m → j < ρ 0 → m ≤ 9 → ¬ ndf (ρ (7 + 7 * j)) (ptS ρ (ρ 93)) = 0 → Q (-3) μ) (h3 : ∀ j m, k = nI j → n = nI m → j < ρ 0 → m ≤ 9 → ndf (ρ (7 + 7 * j)) (ptS ρ (ρ 93)) = 0 → ρ 93 < 12 → Q 0 μ) (h4 : ∀ j m, k = nI j → n = nI m → j < ρ 0 → m ≤ 9 → ndf (ρ (7 + 7 * j)) (ptS ρ (ρ 93)) = 0 → ρ 93 = 12 → Q (-4) μ) : p_X11_whyNoPrint 0 k n μ Q := by
  have h6 := hW.1
  have h12 := hW.2.2.2.2.1
  have h0 : μ.1 2 0 = nI (ρ 0) := hR.1.1
  have hcnt : μ.1 11 2 = nI (ρ 93) := hR.2.1.2.2.1
  unfold p_X11_whyNoPrint
  simp only [shp, e_hasX, e_within, y_b0, h0]
  by_cases g1 : isB k (nI (ρ 0))
  case neg => rw [pr0 g1]; exact h1 (fun h => g1 h.1)
  rw [pr1 g1]
  by_cases g2 : inR n 0 9
  case neg => rw [pr0' g2]; exact h1 (fun h => g2 h.2)
  rw [pr1' g2]
  obtain ⟨j, hj, rfl⟩ := isB_of h6 g1
  obtain ⟨m, hm, rfl⟩ := i_of (m := 9) (by decide) g2.1 g2.2
  unfold p_X2_printed
  refine ⟨ρ 93 + 1, l_ptX hR hW ?_ (ρ 93) 0 (by omega)⟩
  dsimp only
  rw [e_mayF hR h6 hj (hW.2.1 j hj).2.2.2.2.2.2, y_b0]
  by_cases e : ndf (ρ (7 + 7 * j)) (ptS ρ (ρ 93)) = 0
  · rw [pr1' e, hcnt]
    refine ⟨fun hl => ?_, fun hl => ?_⟩
    · rw [show (12 : Int32) = nI 12 from rfl, nI_ltI (by omega) (by decide)] at hl
      exact h3 j m rfl rfl hj hm e hl
    · rw [show (12 : Int32) = nI 12 from rfl, nI_ltI (by omega) (by decide)] at hl
      exact h4 j m rfl rfl hj hm e (by omega)
  · rw [pr0' e]
    exact h2 j m rfl rfl hj hm e
/-- what is smeared by the first i PRINTS, at the hour hr, on the PLACE pl -/
def sI (ρ : Nat → Nat) (hr i : Nat) : Int32 := nI (ρ (96 + 3 * i)) + nI (ρ (3 + 7 * ρ (95 + 3 * i))) - nI hr
def smS (ρ : Nat → Nat) (hr pl : Nat) : Nat → Int32
  | 0 => 0
  | i + 1 => smS ρ hr pl i + (if sI ρ hr i ≤ 0 then 0 else sI ρ hr i * nI (pcN (pl &&& ρ (97 + 3 * i))))
theorem l_smX {μ : xM} {ρ : Nat → Nat} {hr pl : Nat} (hB : RB μ 1 ρ) (hc : μ.1 11 2 = nI (ρ 93)) (hh : μ.1 11 1 = nI hr) (hP : ∀ i, i < ρ 93 → RPi μ 1 ρ i) (hW : WF ρ) (hpl : pl < 65536) {K : Int32 → xM → Prop} (hK : K (smS ρ hr pl (ρ 93)) μ) : ∀ d i, i + d = ρ 93 → L_X2_smearOn_5 11 2 (nI pl) (d + 1) (nI i) (smS ρ hr pl i) μ K
  | 0, i, hi => by
    unfold L_X2_smearOn_5 B_X2_smearOn_5
    rw [hc, show i = ρ 93 by omega]
    have := hW.2.2.2.2.1
    exact ⟨fun _ => hK, fun h => absurd (nI_le (Nat.le_refl _) (by omega)) h⟩
  | d + 1, i, hi => by
    have ih := l_smX hB hc hh hP hW hpl hK d (i + 1) (by omega)
    have h12 := hW.2.2.2.2.1
    have h6 := hW.1
    have hi93 : i < ρ 93 := by omega
    obtain ⟨q1, q2, q3⟩ := hP i hi93
    obtain ⟨w1, w2, w3⟩ := hW.2.2.2.2.2.2 i hi93
    have hd := (hB.2 _ w1).2.2.1
    unfold L_X2_smearOn_5 B_X2_smearOn_5 p_X0_smearBy
    simp only [shp, hc, hh]
    refine ⟨fun h => absurd h (nI_ge hi93 (by omega)), fun _ => ?_⟩
    rw [e_at (by simp only [shl]; omega) (by decide +kernel), show (14 : Nat) = 1 + 13 from rfl, q2]
    intro v16 e16
    rw [e_at (by simp only [shl]; omega) (by decide +kernel), show (13 : Nat) = 1 + 12 from rfl, q1]
    rw [e_at (by simp only [shl]; omega) (by decide +kernel), show (15 : Nat) = 1 + 14 from rfl, q3, y_and]
    rw [e_at (by simp only [shl]; omega) (by decide +kernel), show (5 : Nat) = 1 + 4 from rfl, hd]
    intro v3 e3
    have e3' : v3 = sI ρ hr i := by rw [e3, e16]; unfold sI; grind
    rw [e3', nI_1]
    have hlt : pl &&& ρ (97 + 3 * i) < 65536 := Nat.lt_of_le_of_lt Nat.and_le_left hpl
    rw [e_bc hlt]
    simp only [forall_eq]
    simp only [smS] at ih
    refine ⟨fun h => ?_, fun h => ?_⟩
    · rw [if_pos h] at ih; exact ih
    · rw [if_neg h] at ih; exact ih
theorem l_smM {μ : xM} {ρ ρ0 : Nat → Nat} {σ : Int32} {hr pl : Nat} {x : Int32} (hM : ∀ i, i < 131 → i ≠ 92 → i ≠ 94 → μ.1 105 i = enc ρ i) (hh : μ.1 105 92 = nI hr) (hW : WF ρ) (hpl : pl < 65536) {K : Int32 → xM → Prop} (hK : K (smS ρ hr pl (ρ 93)) μ) : ∀ d i, i + d = ρ 93 → L_X12_doPrints_117 (nI pl) 104 x (d + 1) (nI i) (smS ρ hr pl i) μ K
  | 0, i, hi => by
    unfold L_X12_doPrints_117 B_X12_doPrints_117
    have c93 : (93 : Int32).toNatClampNeg = 93 := by decide
    have hcnt : μ.1 105 93 = nI (ρ 93) := by rw [hM 93 (by decide) (by decide) (by decide)]; exact enc_n (by omega)
    simp only [shm, c93, hcnt]
    rw [show i = ρ 93 by omega]
    have := hW.2.2.2.2.1
    exact ⟨v131 (k := 93) (by decide), fun _ => hK, fun h => absurd (nI_le (Nat.le_refl _) (by omega)) h⟩
  | d + 1, i, hi => by
    have ih := l_smM (ρ0 := ρ0) (σ := σ) (x := x) hM hh hW hpl hK d (i + 1) (by omega)
    have h12 := hW.2.2.2.2.1
    have h6 := hW.1
    have hi93 : i < ρ 93 := by omega
    have c93 : (93 : Int32).toNatClampNeg = 93 := by decide
    have c92 : (92 : Int32).toNatClampNeg = 92 := by decide
    have hcnt : μ.1 105 93 = nI (ρ 93) := by rw [hM 93 (by decide) (by decide) (by decide)]; exact enc_n (by omega)
    obtain ⟨w1, w2, w3⟩ := hW.2.2.2.2.2.2 i hi93
    have p1 : μ.1 105 (95 + 3 * i) = nI (ρ (95 + 3 * i)) := by rw [hM _ (by omega) (by omega) (by omega)]; exact enc_n (by omega)
    have p2 : μ.1 105 (96 + 3 * i) = nI (ρ (96 + 3 * i)) := by rw [hM _ (by omega) (by omega) (by omega)]; exact enc_n (by omega)
    have p3 : μ.1 105 (97 + 3 * i) = nI (ρ (97 + 3 * i)) := by rw [hM _ (by omega) (by omega) (by omega)]; exact enc_n (by omega)
    have p4 : μ.1 105 (3 + 7 * ρ (95 + 3 * i)) = nI (ρ (3 + 7 * ρ (95 + 3 * i))) := by rw [hM _ (by omega) (by omega) (by omega)]; exact enc_n (by omega)
    unfold L_X12_doPrints_117 B_X12_doPrints_117
    simp only [shm, c93, hcnt, c92]
    refine ⟨v131 (k := 93) (by decide), fun h => absurd h (nI_ge hi93 (by omega)), fun _ => ?_⟩
    rw [show (95 : Int32) = nI 95 from rfl, show (3 : Int32) = nI 3 from rfl, show (1 : Int32) = nI 1 from rfl, show (2 : Int32) = nI 2 from rfl, pk_mul, nI_add, nI_add, nI_add, nI_add, nI_clamp (by omega), nI_clamp (by omega), nI_clamp (by omega), show 95 + 3 * i + 1 = 96 + 3 * i by omega, show 95 + 3 * i + 2 = 97 + 3 * i by omega, p1, p2]
    refine ⟨v131 (by omega), v131 (by omega), ?_⟩
    rw [e_ofB (by omega) (by decide), show 1 + 2 + 7 * ρ (95 + 3 * i) = 3 + 7 * ρ (95 + 3 * i) by omega, p4, hh, p3, y_and]
    refine ⟨v131 (k := 92) (by decide), fun v46 e46 => ?_⟩
    have e46' : v46 = sI ρ hr i := e46
    rw [e46']
    have hlt : pl &&& ρ (97 + 3 * i) < 65536 := Nat.lt_of_le_of_lt Nat.and_le_left hpl
    simp only [forall_eq]
    simp only [smS] at ih
    refine ⟨fun h => ?_, fun h => ⟨v131 (by omega), e_bits hlt ?_⟩⟩
    · rw [if_pos h] at ih; exact ih
    · rw [if_neg h] at ih; exact ih
