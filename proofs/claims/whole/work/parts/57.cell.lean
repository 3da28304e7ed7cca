/-! the SHEET BY HAND: cell, hand -/
def scr (μ ν : xM) : Prop := fr (fun q => q = 104 ∨ q = 106 ∨ (109 ≤ q ∧ q ≠ 117)) μ ν ∧ ν.1 104 3 = μ.1 104 3 ∧ ν.1 104 17 = μ.1 104 17
theorem scr_rf {μ : xM} : scr μ μ := ⟨fr_rf, rfl, rfl⟩
theorem scr_tr {μ ν κ : xM} (h1 : scr μ ν) (h2 : scr ν κ) : scr μ κ := ⟨fr_tr h1.1 h2.1, h2.2.1.trans h1.2.1, h2.2.2.trans h1.2.2⟩
theorem CM_scr {μ ν : xM} {ρ : Nat → Nat} {σ : Int32} {h : Nat} {Hρ : Nat → Nat → Nat} {Hσ : Nat → Int32} {c : Nat → Int32} {L : Nat} {T : Nat → Nat} (hs : scr μ ν) (hm : CM μ ρ σ h Hρ Hσ c L T) : CM ν ρ σ h Hρ Hσ c L T := by
  obtain ⟨hf, g3, g17⟩ := hs
  obtain ⟨h1, h2, h3, h4⟩ := hm
  refine ⟨by rw [(hf 105 (by decide)).1]; exact h1, MH_fr g3 (hf 107 (by decide)).1 h2, by rw [(hf 108 (by decide)).1]; exact h3, by rw [g17]; exact h4.1, by rw [(hf 117 (by decide)).1]; exact h4.2⟩
theorem CX_scr {μ ν : xM} {t : Nat} {ρ : Nat → Nat} {σ : Int32} {h : Nat} {Hρ : Nat → Nat → Nat} {Hσ : Nat → Int32} {c : Nat → Int32} {L : Nat} {T : Nat → Nat} (hs : scr μ ν) (hx : CX μ t ρ σ h Hρ Hσ c L T) : CX ν t ρ σ h Hρ Hσ c L T := CX_fr (fr_mono hs.1 (fun q e => by omega)) hx
/-- how many hours a CELL is wet yet, by the first i PRINTS -/
def wI (ρ : Nat → Nat) (i : Nat) : Int32 := nI (ρ (96 + 3 * i)) + nI (ρ (3 + 7 * ρ (95 + 3 * i))) - nI (ρ 92)
def wetS (ρ : Nat → Nat) (c : Nat) : Nat → Int32
  | 0 => 0
  | i + 1 => if (ρ (97 + 3 * i)).testBit c = true then (if wetS ρ c i < wI ρ i then wI ρ i else wetS ρ c i) else wetS ρ c i
theorem l_wetX {μ : xM} {ρ : Nat → Nat} {σ : Int32} {c : Nat} (hR : Rep μ 1 ρ σ) (hW : WF ρ) (hc : c < 16) {K : Int32 → xM → Prop} (hK : K (wetS ρ c (ρ 93)) μ) : ∀ d i, i + d = ρ 93 → L_X2_wetHours_5 11 2 (nI c) (d + 1) (nI i) (wetS ρ c i) μ K
  | 0, i, hi => by
    unfold L_X2_wetHours_5 B_X2_wetHours_5
    have hcnt : μ.1 11 2 = nI (ρ 93) := hR.2.1.2.2.1
    rw [hcnt, show i = ρ 93 by omega]
    have := hW.2.2.2.2.1
    exact ⟨fun _ => hK, fun h => absurd (nI_le (Nat.le_refl _) (by omega)) h⟩
  | d + 1, i, hi => by
    have ih := l_wetX hR hW hc hK d (i + 1) (by omega)
    have h12 := hW.2.2.2.2.1
    have h6 := hW.1
    have hi93 : i < ρ 93 := by omega
    have hcnt : μ.1 11 2 = nI (ρ 93) := hR.2.1.2.2.1
    have hhr : μ.1 11 1 = nI (ρ 92) := hR.2.1.2.1
    obtain ⟨q1, q2, q3⟩ := hR.2.1.2.2.2.2 i hi93
    obtain ⟨w1, w2, w3⟩ := hW.2.2.2.2.2.2 i hi93
    have hd := (hR.1.2 _ w1).2.2.1
    unfold L_X2_wetHours_5 B_X2_wetHours_5
    simp only [shp, hcnt]
    refine ⟨fun h => absurd h (nI_ge hi93 (by omega)), fun _ => ?_⟩
    rw [e_at (by simp only [shl]; omega) (by decide +kernel), show (14 : Nat) = 1 + 13 from rfl, q2]
    rw [e_at (by simp only [shl]; omega) (by decide +kernel), show (13 : Nat) = 1 + 12 from rfl, q1]
    rw [e_at (by simp only [shl]; omega) (by decide +kernel), show (5 : Nat) = 1 + 4 from rfl, hd]
    intro v20 e20
    rw [hhr] at e20
    rw [e_at (by simp only [shl]; omega) (by decide +kernel), show (15 : Nat) = 1 + 14 from rfl, q3, y_ubit (by omega) (by omega), bN_1, nI_1]
    have e20' : v20 = wI ρ i := e20
    rw [e20']
    simp only [forall_eq]
    simp only [wetS] at ih
    by_cases hb : (ρ (97 + 3 * i)).testBit c = true
    · rw [if_pos hb] at ih
      exact ⟨fun h => absurd hb h, fun _ => ih⟩
    · rw [if_neg hb] at ih
      exact ⟨fun _ => ih, fun h => absurd h hb⟩
theorem e_wetX {μ : xM} {ρ : Nat → Nat} {σ : Int32} {c : Nat} (hR : Rep μ 1 ρ σ) (hW : WF ρ) (hc : c < 16) {Q : Int32 → xM → Prop} (hQ : Q (wetS ρ c (ρ 93)) μ) : p_X2_wetHours 11 2 (nI c) μ Q := by
  unfold p_X2_wetHours
  exact ⟨ρ 93 + 1, l_wetX hR hW hc hQ (ρ 93) 0 (by omega)⟩
theorem l_wetM {μ : xM} {ρ : Nat → Nat} {σ : Int32} {c : Nat} (hM : MR (μ.1 105) ρ σ) (hW : WF ρ) (hc : c < 16) {K : Int32 → xM → Prop} (hK : K (wetS ρ c (ρ 93)) μ) : ∀ d i, i + d = ρ 93 → L_X12_wet_4 104 (nI c) (d + 1) (nI i) (wetS ρ c i) μ K
  | 0, i, hi => by
    unfold L_X12_wet_4 B_X12_wet_4
    have c93 : (93 : Int32).toNatClampNeg = 93 := by decide
    have hcnt : μ.1 105 93 = nI (ρ 93) := MR_p hM (by decide) (by decide) (by decide)
    simp only [shm, c93, hcnt]
    rw [show i = ρ 93 by omega]
    have := hW.2.2.2.2.1
    exact ⟨v131 (k := 93) (by decide), fun _ => hK, fun h => absurd (nI_le (Nat.le_refl _) (by omega)) h⟩
  | d + 1, i, hi => by
    have ih := l_wetM hM hW hc hK d (i + 1) (by omega)
    have h12 := hW.2.2.2.2.1
    have h6 := hW.1
    have hi93 : i < ρ 93 := by omega
    have c93 : (93 : Int32).toNatClampNeg = 93 := by decide
    have c92 : (92 : Int32).toNatClampNeg = 92 := by decide
    have hcnt : μ.1 105 93 = nI (ρ 93) := MR_p hM (by decide) (by decide) (by decide)
    have hhr : μ.1 105 92 = nI (ρ 92) := MR_p hM (by decide) (by decide) (by decide)
    obtain ⟨w1, w2, w3⟩ := hW.2.2.2.2.2.2 i hi93
    have p1 : μ.1 105 (95 + 3 * i) = nI (ρ (95 + 3 * i)) := MR_p hM (by omega) (by omega) (by omega)
    have p2 : μ.1 105 (96 + 3 * i) = nI (ρ (96 + 3 * i)) := MR_p hM (by omega) (by omega) (by omega)
    have p3 : μ.1 105 (97 + 3 * i) = nI (ρ (97 + 3 * i)) := MR_p hM (by omega) (by omega) (by omega)
    unfold L_X12_wet_4 B_X12_wet_4
    simp only [shm, c93, hcnt, c92]
    refine ⟨v131 (k := 93) (by decide), fun h => absurd h (nI_ge hi93 (by omega)), fun _ => ?_⟩
    rw [show (95 : Int32) = nI 95 from rfl, show (3 : Int32) = nI 3 from rfl, show (1 : Int32) = nI 1 from rfl, show (2 : Int32) = nI 2 from rfl, pk_mul, nI_add, nI_add, nI_add, nI_clamp (by omega), nI_clamp (by omega), nI_clamp (by omega), show 95 + 3 * i + 1 = 96 + 3 * i by omega, show 95 + 3 * i + 2 = 97 + 3 * i by omega, p1, p2]
    refine ⟨v131 (by omega), v131 (by omega), ?_⟩
    rw [e_ofB (by omega) (by decide), show 1 + 2 + 7 * ρ (95 + 3 * i) = 3 + 7 * ρ (95 + 3 * i) by omega, (MR_k hM (show ρ (95 + 3 * i) < 6 by omega)).2.2.1, hhr, p3]
    refine ⟨v131 (k := 92) (by decide), fun v15 e15 => ⟨v131 (by omega), ?_⟩⟩
    have e15' : v15 = wI ρ i := e15
    rw [e15', e_has (by omega) (by omega), y_b0, nI_add]
    simp only [forall_eq]
    simp only [wetS] at ih
    by_cases hb : (ρ (97 + 3 * i)).testBit c = true
    · rw [if_pos hb] at ih
      rw [pr1 hb]
      by_cases hl : wetS ρ c i < wI ρ i
      · rw [if_pos hl] at ih
        exact ⟨fun h => absurd hl (by grind), fun _ => ih⟩
      · rw [if_neg hl] at ih
        exact ⟨fun _ => ih, fun h => absurd (by grind) h⟩
    · rw [if_neg hb] at ih
      rw [pr0 hb]
      exact ih
theorem e_wetM {μ : xM} {ρ : Nat → Nat} {σ : Int32} {c : Nat} (hM : MR (μ.1 105) ρ σ) (hW : WF ρ) (hc : c < 16) {Q : Int32 → xM → Prop} (hQ : Q (wetS ρ c (ρ 93)) μ) : p_X12_wet 104 (nI c) μ Q := by
  unfold p_X12_wet
  exact ⟨ρ 93 + 1, l_wetM hM hW hc hQ (ρ 93) 0 (by omega)⟩
def vCell (ρ : Nat → Nat) (c w : Nat) : Int32 := if w = 0 then nI (ρ (59 + c)) else if w = 1 then nI (ρ (75 + c)) else if w = 2 then nI (bN ((ρ 91).testBit c)) else wetS ρ c (ρ 93)
theorem e_cellX {μ : xM} {ρ : Nat → Nat} {σ : Int32} {c w : Nat} (hR : Rep μ 1 ρ σ) (hW : WF ρ) (hc : c < 16) (hw : w < 4) {Q : Int32 → xM → Prop} (hQ : Q (vCell ρ c w) μ) : p_X11_cell 0 (nI c) (nI w) μ Q := by
  unfold p_X11_cell
  simp only [shp, e_within, y_b0]
  rw [pr1 (show inR (nI c) 0 15 from ⟨nI_pos' (by omega), nI_le (b := 15) (by omega) (by decide)⟩), pr1' (show inR (nI w) 0 3 from ⟨nI_pos' (by omega), nI_le (b := 3) (by omega) (by decide)⟩)]
  have h1 : μ.2 12 0 = lN (nb (fun c => ρ (59 + c)) 16) := hR.2.1.1.1
  have h2 : μ.2 12 1 = lN (nb (fun c => ρ (75 + c)) 16) := hR.2.1.1.2.1
  have h3 : μ.1 12 2 = nI (ρ 91) := hR.2.1.1.2.2
  rw [h1, h2, h3, e_nibd (fun i hi => Nat.lt_trans (hW.2.2.1 i hi).2.1 (by decide)) hc, e_nibd (fun i hi => Nat.lt_trans (hW.2.2.1 i hi).2.2 (by decide)) hc, y_ubit (by have := hW.2.2.2.1; omega) (by omega)]
  unfold vCell at hQ
  rcases (show w = 0 ∨ w = 1 ∨ w = 2 ∨ w = 3 by omega) with rfl | rfl | rfl | rfl
  · exact ⟨fun _ => hQ, fun h => absurd rfl h⟩
  · exact ⟨fun h => absurd h (by decide), fun _ => ⟨fun _ => hQ, fun h => absurd rfl h⟩⟩
  · exact ⟨fun h => absurd h (by decide), fun _ => ⟨fun h => absurd h (by decide), fun _ => ⟨fun _ => hQ, fun h => absurd rfl h⟩⟩⟩
  · exact ⟨fun h => absurd h (by decide), fun _ => ⟨fun h => absurd h (by decide), fun _ => ⟨fun h => absurd h (by decide), fun _ => e_wetX hR hW hc hQ⟩⟩⟩
theorem e_cellM {μ : xM} {ρ : Nat → Nat} {σ : Int32} {c w : Nat} (hM : MR (μ.1 105) ρ σ) (hW : WF ρ) (hc : c < 16) (hw : w < 4) {Q : Int32 → xM → Prop} (hQ : Q (vCell ρ c w) μ) : p_X12_ofCell 104 (nI c) (nI w) μ Q := by
  unfold p_X12_ofCell
  have c91 : (91 : Int32).toNatClampNeg = 91 := by decide
  simp only [shm, c91]
  rw [show (59 : Int32) = nI 59 from rfl, show (75 : Int32) = nI 75 from rfl, nI_add, nI_add, nI_clamp (by omega), nI_clamp (by omega), MR_p hM (i := 91) (by omega) (by omega) (by omega), MR_p hM (i := 59 + c) (by omega) (by omega) (by omega), MR_p hM (i := 75 + c) (by omega) (by omega) (by omega), y_sbit (by have := hW.2.2.2.1; omega) (by omega)]
  have z1 : vp_in (91 : Int32) 131 := v131 (k := 91) (by decide)
  unfold vCell at hQ
  rcases (show w = 0 ∨ w = 1 ∨ w = 2 ∨ w = 3 by omega) with rfl | rfl | rfl | rfl
  · exact ⟨fun h => absurd rfl h, fun _ => ⟨v131 (by omega), hQ⟩⟩
  · exact ⟨fun _ => ⟨fun h => absurd rfl h, fun _ => ⟨v131 (by omega), hQ⟩⟩, fun h => absurd h (by decide)⟩
  · exact ⟨fun _ => ⟨fun _ => ⟨fun h => absurd rfl h, fun _ => ⟨z1, hQ⟩⟩, fun h => absurd h (by decide)⟩, fun h => absurd h (by decide)⟩
  · exact ⟨fun _ => ⟨fun _ => ⟨fun _ => e_wetM hM hW hc hQ, fun h => absurd h (by decide)⟩, fun h => absurd h (by decide)⟩, fun h => absurd h (by decide)⟩
theorem op_cell {μ : xM} {t : Nat} (hI : Inv t μ) (a b : Int32) : p_X11_cell 0 a b μ (fun r1 μ1 => p_X12_cell 104 a b μ1 (fun r2 μ2 => r1 = r2 ∧ Inv (t + 1) μ2)) := by
  obtain ⟨ρ, σ, h, Hρ, Hσ, cc, L, T, hw, hx, hm⟩ := hI
  have hid := inv_id hw hx hm
  have z := e_refM0 (μ := xi μ 0 5 (μ.1 0 5 + 1)) (Q := fun r2 μ2 => -2 = r2 ∧ Inv (t + 1) μ2) ⟨rfl, inv_ref (j := 0) (by decide) hw hx hm fr_rf⟩
  by_cases g1 : inR a 0 15
  · by_cases g2 : inR b 0 3
    · obtain ⟨c, hc, rfl⟩ := i_of (m := 15) (by decide) g1.1 g1.2
      obtain ⟨w, hw2, rfl⟩ := i_of (m := 3) (by decide) g2.1 g2.2
      refine e_cellX hx.1 hw.1 (by omega) (by omega) ?_
      unfold p_X12_cell
      simp only [e_in, y_b0]
      rw [pr1 g1, pr1 g2]
      exact e_cellM hm.1 hw.1 (by omega) (by omega) ⟨rfl, hid⟩
    · unfold p_X11_cell p_X12_cell
      simp only [e_within, e_in, y_b0]
      rw [pr1 g1, pr0' g2]
      refine e_refX0 ?_
      rw [pr1 g1, pr0 g2]
      exact z
  · unfold p_X11_cell p_X12_cell
    simp only [e_within, e_in, y_b0]
    rw [pr0 g1]
    refine e_refX0 ?_
    rw [pr0 g1]
    exact z
