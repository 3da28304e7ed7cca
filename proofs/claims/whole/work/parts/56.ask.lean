/-! questions that change nothing -/
def vOf (ρ : Nat → Nat) (k w : Nat) : Int32 := if w = 4 then nI (plc ρ k) else if w < 4 then nI (ρ (1 + w + 7 * k)) else nI (ρ (w + 7 * k))
theorem m33 (x : Int32) : x - 3 + 3 = x := by grind
theorem e_ofX {μ : xM} {ρ : Nat → Nat} {σ : Int32} {k w : Nat} (hR : Rep μ 1 ρ σ) (h6 : ρ 0 ≤ 6) (hk : k < ρ 0) (hw : w < 8) {Q : Int32 → xM → Prop} (hQ : Q (vOf ρ k w) μ) : p_X11_of 0 (nI k) (nI w) μ Q := by
  unfold p_X11_of
  have h0 : μ.1 2 0 = nI (ρ 0) := hR.1.1
  simp only [shp, e_hasX, e_within, y_b0, h0]
  rw [pr1 (isB_nI hk h6), pr1' (show inR (nI w) 0 7 from ⟨nI_pos' (by omega), nI_le (b := 7) (by omega) (by decide)⟩)]
  obtain ⟨q1, q2, q3, q4, q5, q6, q7, q8⟩ := hR.1.2 k hk
  have hk6 : k < 6 := by omega
  have a1 : ∀ {Q : Int32 → xM → Prop}, p_X5_at 3 (nI k) μ Q ↔ Q (nI (ρ (1 + 7 * k))) μ := by intro Q; rw [e_at (by simp only [shl]; exact hk6) (by decide +kernel), q1]
  have a2 : ∀ {Q : Int32 → xM → Prop}, p_X5_at 4 (nI k) μ Q ↔ Q (nI (ρ (2 + 7 * k))) μ := by intro Q; rw [e_at (by simp only [shl]; exact hk6) (by decide +kernel), q2]
  have a3 : ∀ {Q : Int32 → xM → Prop}, p_X5_at 5 (nI k) μ Q ↔ Q (nI (ρ (3 + 7 * k))) μ := by intro Q; rw [e_at (by simp only [shl]; exact hk6) (by decide +kernel), q3]
  have a4 : ∀ {Q : Int32 → xM → Prop}, p_X5_at 6 (nI k) μ Q ↔ Q (nI (ρ (4 + 7 * k))) μ := by intro Q; rw [e_at (by simp only [shl]; exact hk6) (by decide +kernel), q4]
  have a5 : ∀ {Q : Int32 → xM → Prop}, p_X5_at 7 (nI k) μ Q ↔ Q (nI (ρ (5 + 7 * k)) - 3) μ := by intro Q; rw [e_at (by simp only [shl]; exact hk6) (by decide +kernel), q5]
  have a6 : ∀ {Q : Int32 → xM → Prop}, p_X5_at 8 (nI k) μ Q ↔ Q (nI (ρ (6 + 7 * k)) - 3) μ := by intro Q; rw [e_at (by simp only [shl]; exact hk6) (by decide +kernel), q6]
  have a8 : ∀ {Q : Int32 → xM → Prop}, p_X5_at 10 (nI k) μ Q ↔ Q (nI (ρ (7 + 7 * k))) μ := by intro Q; rw [e_at (by simp only [shl]; exact hk6) (by decide +kernel), q8]
  simp only [a1, a2, a3, a4, a5, a6, a8, e_plX hR h6 hk, m33]
  unfold vOf at hQ
  rcases (show w = 0 ∨ w = 1 ∨ w = 2 ∨ w = 3 ∨ w = 4 ∨ w = 5 ∨ w = 6 ∨ w = 7 by omega) with rfl | rfl | rfl | rfl | rfl | rfl | rfl | rfl
  · exact ⟨fun _ => hQ, fun h => absurd rfl h⟩
  · exact ⟨fun h => absurd h (by decide), fun _ => ⟨fun _ => hQ, fun h => absurd rfl h⟩⟩
  · exact ⟨fun h => absurd h (by decide), fun _ => ⟨fun h => absurd h (by decide), fun _ => ⟨fun _ => hQ, fun h => absurd rfl h⟩⟩⟩
  · exact ⟨fun h => absurd h (by decide), fun _ => ⟨fun h => absurd h (by decide), fun _ => ⟨fun h => absurd h (by decide), fun _ => ⟨fun _ => hQ, fun h => absurd rfl h⟩⟩⟩⟩
  · exact ⟨fun h => absurd h (by decide), fun _ => ⟨fun h => absurd h (by decide), fun _ => ⟨fun h => absurd h (by decide), fun _ => ⟨fun h => absurd h (by decide), fun _ => ⟨fun _ => hQ, fun h => absurd rfl h⟩⟩⟩⟩⟩
  · exact ⟨fun h => absurd h (by decide), fun _ => ⟨fun h => absurd h (by decide), fun _ => ⟨fun h => absurd h (by decide), fun _ => ⟨fun h => absurd h (by decide), fun _ => ⟨fun h => absurd h (by decide), fun _ => ⟨fun _ => hQ, fun h => absurd rfl h⟩⟩⟩⟩⟩⟩
  · exact ⟨fun h => absurd h (by decide), fun _ => ⟨fun h => absurd h (by decide), fun _ => ⟨fun h => absurd h (by decide), fun _ => ⟨fun h => absurd h (by decide), fun _ => ⟨fun h => absurd h (by decide), fun _ => ⟨fun h => absurd h (by decide), fun _ => ⟨fun _ => hQ, fun h => absurd rfl h⟩⟩⟩⟩⟩⟩⟩
  · exact ⟨fun h => absurd h (by decide), fun _ => ⟨fun h => absurd h (by decide), fun _ => ⟨fun h => absurd h (by decide), fun _ => ⟨fun h => absurd h (by decide), fun _ => ⟨fun h => absurd h (by decide), fun _ => ⟨fun h => absurd h (by decide), fun _ => ⟨fun h => absurd h (by decide), fun _ => hQ⟩⟩⟩⟩⟩⟩⟩
theorem e_ofM {μ : xM} {ρ : Nat → Nat} {σ : Int32} {k w : Nat} (hM : MR (μ.1 105) ρ σ) (hW : WF ρ) (hk : k < ρ 0) (hw : w < 8) {Q : Int32 → xM → Prop} (hQ : Q (vOf ρ k w) μ) : p_X12_ofAll 104 (nI k) (nI w) μ Q := by
  have h6 := hW.1
  have hk6 : k < 6 := by omega
  unfold p_X12_ofAll
  obtain ⟨m1, m2, m3, m4, m5, m6, m7⟩ := MR_k hM hk6
  have o : ∀ {Q : Int32 → xM → Prop} (j : Nat), j < 7 → (p_X12_ofBlock 104 (nI k) (nI j) μ Q ↔ Q (μ.1 105 (1 + j + 7 * k)) μ) := fun j hj => e_ofB hk6 hj
  unfold vOf at hQ
  rcases (show w = 0 ∨ w = 1 ∨ w = 2 ∨ w = 3 ∨ w = 4 ∨ w = 5 ∨ w = 6 ∨ w = 7 by omega) with rfl | rfl | rfl | rfl | rfl | rfl | rfl | rfl
  · refine ⟨fun h => absurd h (by decide), fun _ => ?_⟩
    rw [o 0 (by decide), show 1 + 0 + 7 * k = 1 + 7 * k by omega, m1]; exact hQ
  · refine ⟨fun h => absurd h (by decide), fun _ => ?_⟩
    rw [o 1 (by decide), show 1 + 1 + 7 * k = 2 + 7 * k by omega, m2]; exact hQ
  · refine ⟨fun h => absurd h (by decide), fun _ => ?_⟩
    rw [o 2 (by decide), show 1 + 2 + 7 * k = 3 + 7 * k by omega, m3]; exact hQ
  · refine ⟨fun h => absurd h (by decide), fun _ => ?_⟩
    rw [o 3 (by decide), show 1 + 3 + 7 * k = 4 + 7 * k by omega, m4]; exact hQ
  · exact ⟨fun _ => ⟨fun h => absurd rfl h, fun _ => e_plcM hM hk6 (hW.2.1 k hk) hQ⟩, fun h => absurd (by decide) h⟩
  · refine ⟨fun _ => ⟨fun _ => ⟨fun h => absurd h (by decide), fun _ => ?_⟩, fun h => absurd h (by decide)⟩, fun h => absurd (by decide) h⟩
    rw [show nI 5 - (1 : Int32) = nI 4 by decide, o 4 (by decide), show 1 + 4 + 7 * k = 5 + 7 * k by omega, m5, m33]; exact hQ
  · refine ⟨fun _ => ⟨fun _ => ⟨fun h => absurd h (by decide), fun _ => ?_⟩, fun h => absurd h (by decide)⟩, fun h => absurd (by decide) h⟩
    rw [show nI 6 - (1 : Int32) = nI 5 by decide, o 5 (by decide), show 1 + 5 + 7 * k = 6 + 7 * k by omega, m6, m33]; exact hQ
  · refine ⟨fun _ => ⟨fun _ => ⟨fun _ => ?_, fun h => absurd (by decide) h⟩, fun h => absurd h (by decide)⟩, fun h => absurd (by decide) h⟩
    rw [show (6 : Int32) = nI 6 from rfl, o 6 (by decide), show 1 + 6 + 7 * k = 7 + 7 * k by omega, m7]; exact hQ
theorem op_of {μ : xM} {t : Nat} (hI : Inv t μ) (a b : Int32) : p_X11_of 0 a b μ (fun r1 μ1 => p_X12_of 104 a b μ1 (fun r2 μ2 => r1 = r2 ∧ Inv (t + 1) μ2)) := by
  obtain ⟨ρ, σ, h, Hρ, Hσ, cc, L, T, hw, hx, hm⟩ := hI
  have h6 := hw.1.1
  have hid := inv_id hw hx hm
  have h0 : μ.1 2 0 = nI (ρ 0) := hx.1.1.1
  by_cases g1 : isB a (nI (ρ 0))
  · by_cases g2 : inR b 0 7
    · obtain ⟨k, hk, rfl⟩ := isB_of h6 g1
      obtain ⟨w, hw2, rfl⟩ := i_of (m := 7) (by decide) g2.1 g2.2
      refine e_ofX hx.1 h6 hk (by omega) ?_
      unfold p_X12_of
      rw [e_isBlk (MR_0 hm.1) h6]
      simp only [y_b0, e_in]
      rw [pr1 g1, pr1 g2]
      exact e_ofM hm.1 hw.1 hk (by omega) ⟨rfl, hid⟩
    · unfold p_X11_of p_X12_of
      simp only [shp, e_hasX, e_within, y_b0, h0]
      rw [pr1 g1, pr0' g2]
      refine e_refX0 ?_
      rw [e_isBlk (by rw [y_xin (by decide)]; exact MR_0 hm.1) h6]
      simp only [y_b0, e_in]
      rw [pr1 g1, pr0 g2]
      exact e_refM0 ⟨rfl, inv_ref (j := 0) (by decide) hw hx hm fr_rf⟩
  · unfold p_X11_of p_X12_of
    simp only [shp, e_hasX, e_within, y_b0, h0]
    rw [pr0 g1]
    refine e_refX0 ?_
    rw [e_isBlk (by rw [y_xin (by decide)]; exact MR_0 hm.1) h6]
    simp only [y_b0, e_in]
    rw [pr0 g1]
    exact e_refM0 ⟨rfl, inv_ref (j := 0) (by decide) hw hx hm fr_rf⟩
theorem op_common {μ : xM} {t : Nat} (hI : Inv t μ) (a b w : Int32) : p_X11_common 0 a b w μ (fun r1 μ1 => p_X12_common 104 a b w μ1 (fun r2 μ2 => r1 = r2 ∧ Inv (t + 1) μ2)) := by
  obtain ⟨ρ, σ, h, Hρ, Hσ, cc, L, T, hw, hx, hm⟩ := hI
  have h6 := hw.1.1
  have hid := inv_id hw hx hm
  have h0 : μ.1 2 0 = nI (ρ 0) := hx.1.1.1
  have hbad : ¬ ((isB a (nI (ρ 0)) ∧ isB b (nI (ρ 0)) ∧ ¬ a = b) ∧ inR w 0 1) → p_X12_common 104 a b w (xi μ 0 5 (μ.1 0 5 + 1)) (fun r2 μ2 => -2 = r2 ∧ Inv (t + 1) μ2) := by
    intro hb
    have z := e_refM0 (μ := xi μ 0 5 (μ.1 0 5 + 1)) (Q := fun r2 μ2 => -2 = r2 ∧ Inv (t + 1) μ2) ⟨rfl, inv_ref (j := 0) (by decide) hw hx hm fr_rf⟩
    have k0 : (xi μ 0 5 (μ.1 0 5 + 1)).1 105 0 = nI (ρ 0) := by rw [y_xin (by decide)]; exact MR_0 hm.1
    unfold p_X12_common
    rw [e_isBlk k0 h6]
    simp only [y_b0, e_in]
    by_cases g1 : isB a (nI (ρ 0))
    case neg => rw [pr0 g1]; exact z
    rw [pr1 g1, e_isBlk k0 h6]
    simp only [y_b0]
    by_cases g2 : isB b (nI (ρ 0))
    case neg => rw [pr0 g2]; exact z
    rw [pr1 g2]
    refine ⟨fun _ => z, fun g3 => ?_⟩
    by_cases g4 : inR w 0 1
    case neg => rw [pr0' g4]; exact z
    exact absurd ⟨⟨g1, g2, g3⟩, g4⟩ hb
  unfold p_X11_common
  simp only [shp, e_unl, e_within, y_b0, h0]
  by_cases g1 : isB a (nI (ρ 0)) ∧ isB b (nI (ρ 0)) ∧ ¬ a = b
  case neg => rw [pr0 g1]; exact e_refX0 (hbad (fun h => g1 h.1))
  rw [pr1 g1]
  by_cases g4 : inR w 0 1
  case neg => rw [pr0' g4]; exact e_refX0 (hbad (fun h => g4 h.2))
  rw [pr1' g4]
  obtain ⟨i, hi, rfl⟩ := isB_of h6 g1.1
  obtain ⟨j, hj, rfl⟩ := isB_of h6 g1.2.1
  rw [e_plX hx.1 h6 hi, e_plX hx.1 h6 hj, y_and]
  have hlt : plc ρ i &&& plc ρ j < 65536 := Nat.lt_of_le_of_lt Nat.and_le_left (plc_lt ρ i)
  have hM : ∀ {Q : Int32 → xM → Prop}, ((¬ w = (0 : Int32) → Q (nI (plc ρ i &&& plc ρ j)) μ) ∧ (w = (0 : Int32) → Q (nI (pcN (plc ρ i &&& plc ρ j))) μ)) → p_X12_common 104 (nI i) (nI j) w μ Q := by
    intro Q hQ
    unfold p_X12_common
    rw [e_isBlk (MR_0 hm.1) h6]
    simp only [y_b0, e_in]
    rw [pr1 g1.1, e_isBlk (MR_0 hm.1) h6]
    simp only [y_b0]
    rw [pr1 g1.2.1]
    refine ⟨fun e => absurd e g1.2.2, fun _ => ?_⟩
    rw [pr1' g4]
    refine e_plcM hm.1 (by omega) (hw.1.2.1 i hi) ?_
    refine e_plcM hm.1 (by omega) (hw.1.2.1 j hj) ?_
    intro v ev
    rw [y_and] at ev
    rw [ev]
    exact ⟨hQ.1, fun e => e_bits hlt (hQ.2 e)⟩
  intro v ev
  rw [ev]
  refine ⟨fun e => hM ⟨fun _ => ⟨rfl, hid⟩, fun e2 => absurd e2 e⟩, fun e => ?_⟩
  rw [e_bc hlt]
  exact hM ⟨fun e2 => absurd e e2, fun _ => ⟨rfl, hid⟩⟩
/-! print -/
theorem e_prX {μ : xM} {ρ : Nat → Nat} {σ : Int32} {i w : Nat} (hR : Rep μ 1 ρ σ) (hW : WF ρ) (hi : i < ρ 93) (hw : w < 3) {Q : Int32 → xM → Prop} (hQ : Q (nI (ρ (95 + 3 * i + w))) μ) : p_X11_print 0 (nI i) (nI w) μ Q := by
  have h12 := hW.2.2.2.2.1
  unfold p_X11_print
  have hc : μ.1 11 2 = nI (ρ 93) := hR.2.1.2.2.1
  simp only [shp, e_within, y_b0, hc]
  refine ⟨fun h => absurd h (nI_pos (by omega)), fun _ => ?_⟩
  rw [pr1' (show inR (nI w) 0 2 from ⟨nI_pos' (by omega), nI_le (b := 2) (by omega) (by decide)⟩)]
  refine ⟨fun _ => ?_, fun h => absurd (nI_lt hi (by omega)) h⟩
  obtain ⟨q1, q2, q3⟩ := hR.2.1.2.2.2.2 i hi
  have i12 : i < 12 := by omega
  rw [e_at (by simp only [shl]; exact i12) (by decide +kernel), e_at (by simp only [shl]; exact i12) (by decide +kernel), e_at (by simp only [shl]; exact i12) (by decide +kernel), show (13 : Nat) = 1 + 12 from rfl, q1, show (14 : Nat) = 1 + 13 from rfl, q2, show (15 : Nat) = 1 + 14 from rfl, q3]
  rcases (show w = 0 ∨ w = 1 ∨ w = 2 by omega) with rfl | rfl | rfl
  · exact ⟨fun _ => hQ, fun h => absurd rfl h⟩
  · rw [show 96 + 3 * i = 95 + 3 * i + 1 by omega]
    exact ⟨fun h => absurd h (by decide), fun _ => ⟨fun _ => hQ, fun h => absurd rfl h⟩⟩
  · rw [show 97 + 3 * i = 95 + 3 * i + 2 by omega]
    exact ⟨fun h => absurd h (by decide), fun _ => ⟨fun h => absurd h (by decide), fun _ => hQ⟩⟩
theorem op_print {μ : xM} {t : Nat} (hI : Inv t μ) (a b : Int32) : p_X11_print 0 a b μ (fun r1 μ1 => p_X12_print 104 a b μ1 (fun r2 μ2 => r1 = r2 ∧ Inv (t + 1) μ2)) := by
  obtain ⟨ρ, σ, h, Hρ, Hσ, cc, L, T, hw, hx, hm⟩ := hI
  have h12 := hw.1.2.2.2.2.1
  have hid := inv_id hw hx hm
  have hc : μ.1 11 2 = nI (ρ 93) := hx.1.2.1.2.2.1
  have hcM : μ.1 105 93 = nI (ρ 93) := MR_p hm.1 (by decide) (by decide) (by decide)
  have z := e_refM0 (μ := xi μ 0 5 (μ.1 0 5 + 1)) (Q := fun r2 μ2 => -2 = r2 ∧ Inv (t + 1) μ2) ⟨rfl, inv_ref (j := 0) (by decide) hw hx hm fr_rf⟩
  by_cases g0 : a < 0
  · unfold p_X11_print p_X12_print
    exact ⟨fun _ => e_refX0 ⟨fun _ => z, fun h => absurd g0 h⟩, fun h => absurd g0 h⟩
  by_cases g2 : inR b 0 2
  case neg =>
    unfold p_X11_print p_X12_print
    simp only [e_within, e_in, y_b0]
    refine ⟨fun h => absurd h g0, fun _ => ?_⟩
    rw [pr0' g2]
    refine e_refX0 ⟨fun h => absurd h g0, fun _ => ?_⟩
    rw [pr0' g2]
    exact z
  obtain ⟨w, hw2, rfl⟩ := i_of (m := 2) (by decide) g2.1 g2.2
  have c93 : (93 : Int32).toNatClampNeg = 93 := by decide
  by_cases g3 : a < nI (ρ 93)
  · obtain ⟨i, hi1, rfl⟩ := nI_of g0
    have hi : i < ρ 93 := by rw [nI_ltI hi1 (by omega)] at g3; exact g3
    refine e_prX hx.1 hw.1 hi (by omega) ?_
    unfold p_X12_print
    simp only [e_in, y_b0, shm, c93, hcM]
    refine ⟨fun h => absurd h g0, fun _ => ?_⟩
    rw [pr1' g2]
    refine ⟨v131 (k := 93) (by decide), fun h => absurd h (nI_ge hi (by omega)), fun _ => ?_⟩
    rw [show (95 : Int32) = nI 95 from rfl, show (3 : Int32) = nI 3 from rfl, pk_mul, nI_add, nI_add, nI_clamp (by omega), MR_p hm.1 (by omega) (by omega) (by omega)]
    exact ⟨v131 (by omega), rfl, hid⟩
  · unfold p_X11_print p_X12_print
    simp only [e_within, e_in, y_b0, shp, shm, hc, c93, hcM]
    refine ⟨fun h => absurd h g0, fun _ => ?_⟩
    rw [pr1' g2]
    refine ⟨fun h => absurd h g3, fun _ => ⟨fun h => absurd h g0, fun _ => ?_⟩⟩
    rw [pr1' g2]
    exact ⟨v131 (k := 93) (by decide), fun _ => ⟨trivial, hid⟩, fun h => absurd (by grind) h⟩
