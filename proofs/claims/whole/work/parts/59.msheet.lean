/-! the reference's scratch sheet: clearing, printing on it, giving it back -/
def prP : Nat → Prop := fun q => q = 104 ∨ q = 109 ∨ q = 110
def clS (kind place cl : Nat) : Nat → Nat
  | 0 => cl
  | i + 1 => if kind = 3 ∧ opn place cl i = true then clS kind place cl i ||| 2 ^ i else clS kind place cl i
theorem clS_n {kind place cl : Nat} (h : kind ≠ 3) : ∀ i, clS kind place cl i = cl
  | 0 => rfl
  | i + 1 => by simp only [clS]; rw [if_neg (fun e => h e.1)]; exact clS_n h i
theorem clS_bit (place cl : Nat) : ∀ i j, (clS 3 place cl i).testBit j = (cl.testBit j || (decide (j < i) && place.testBit j))
  | 0, j => by simp [clS]
  | i + 1, j => by
    have ih := clS_bit place cl i j
    simp only [clS]
    by_cases e : opn place cl i = true
    · rw [if_pos ⟨trivial, e⟩, Nat.testBit_or, ih, Nat.testBit_two_pow]
      unfold opn at e
      by_cases ej : i = j
      · subst ej
        simp only [Bool.and_eq_true] at e
        simp [e.1]
      · by_cases hl : j < i
        · have : j < i + 1 := by omega
          simp [hl, this, ej]
        · have : ¬ j < i + 1 := by omega
          simp [hl, this, ej]
    · rw [if_neg (fun h => e h.2), ih]
      unfold opn at e
      by_cases ej : j = i
      · subst ej
        cases h1 : place.testBit j <;> cases h2 : cl.testBit j <;> simp_all
      · have : decide (j < i + 1) = decide (j < i) := by
          by_cases hl : j < i
          · have : j < i + 1 := by omega
            simp [hl, this]
          · have : ¬ j < i + 1 := by omega
            simp [hl, this]
        rw [this]
theorem clS_16 {kind place cl : Nat} (hp : place < 65536) : clS kind place cl 16 = prL kind place cl := by
  unfold prL
  by_cases e : kind = 3
  · subst e
    rw [if_pos rfl]
    apply Nat.eq_of_testBit_eq
    intro j
    rw [clS_bit, Nat.testBit_or]
    by_cases hj : j < 16
    · simp [hj]
    · have := mask_ge (n := 16) hp (show 16 ≤ j by omega)
      simp [this]
  · rw [if_neg e]; exact clS_n e 16
theorem clS_lt {kind place cl : Nat} (hc : cl < 65536) : ∀ i, i ≤ 16 → clS kind place cl i < 65536
  | 0, _ => hc
  | i + 1, hi => by
    simp only [clS]
    have ih := clS_lt (kind := kind) (place := place) hc i (by omega)
    split
    · exact Nat.or_lt_two_pow (n := 16) ih (Nat.pow_lt_pow_right (by decide) (by omega))
    · exact ih
/-- the scratch sheet when the first i CELLS have been printed on -/
def MSi (μ ν : xM) (kind col place cl : Nat) (C S : Nat → Nat) (i : Nat) : Prop := fr prP μ ν ∧ (∀ j, j ≠ 7 → ν.1 104 j = μ.1 104 j) ∧ (∀ c, c < 16 → ν.1 109 c = nI (if c < i then prC kind col place cl C c else C c) ∧ ν.1 110 c = nI (if c < i then prS kind place cl S c else S c)) ∧ ν.1 104 7 = nI (clS kind place cl i)
theorem MSi_step {μ ν κ : xM} {kind col place cl i : Nat} {C S : Nat → Nat} (h : MSi μ ν kind col place cl C S i) (f : fr prP ν κ) (g : ∀ j, j ≠ 7 → κ.1 104 j = ν.1 104 j) (h9 : ∀ c, c ≠ i → κ.1 109 c = ν.1 109 c) (h10 : ∀ c, c ≠ i → κ.1 110 c = ν.1 110 c) (k9 : κ.1 109 i = nI (prC kind col place cl C i)) (k10 : κ.1 110 i = nI (prS kind place cl S i)) (k7 : κ.1 104 7 = nI (clS kind place cl (i + 1))) : MSi μ κ kind col place cl C S (i + 1) := by
  obtain ⟨a1, a2, a3, a4⟩ := h
  refine ⟨fr_tr a1 f, fun j hj => (g j hj).trans (a2 j hj), fun c hc => ?_, k7⟩
  by_cases e : c = i
  · subst e
    rw [if_pos (by omega), if_pos (by omega)]
    exact ⟨k9, k10⟩
  · have := a3 c hc
    rw [h9 c e, h10 c e]
    by_cases hl : c < i
    · rw [if_pos hl, if_pos hl] at this
      rw [if_pos (by omega), if_pos (by omega)]; exact this
    · rw [if_neg hl, if_neg hl] at this
      rw [if_neg (by omega), if_neg (by omega)]; exact this
theorem l_prM {μ : xM} {ρ : Nat → Nat} {σ : Int32} {k place cl : Nat} {C S : Nat → Nat} (hM : MR (μ.1 105) ρ σ) (hk : k < 6) (hb : WB ρ k) (hC : ∀ i, i < 16 → C i < 8) (hS : ∀ i, i < 16 → S i < 10) (hp : place < 65536) (hcl : cl < 65536) {K : xM → Prop} (hK : ∀ ν, MSi μ ν (ρ (1 + 7 * k)) (ρ (2 + 7 * k)) place cl C S 16 → K ν) : ∀ d i ν, i + d = 16 → MSi μ ν (ρ (1 + 7 * k)) (ρ (2 + 7 * k)) place cl C S i → L_X12_printOn_20 (nI (ndf place cl)) (nI (ρ (1 + 7 * k))) 104 (nI k) (d + 1) (nI i) ν K
  | 0, i, ν, hi, hm => by
    obtain rfl : i = 16 := by omega
    unfold L_X12_printOn_20 B_X12_printOn_20
    exact ⟨fun _ => hK ν hm, fun h => absurd (by decide) h⟩
  | d + 1, i, ν, hi, hm => by
    have ih := l_prM hM hk hb hC hS hp hcl hK d (i + 1)
    have i16 : i < 16 := by omega
    obtain ⟨a1, a2, a3, a4⟩ := id hm
    have e5 : ν.1 105 = μ.1 105 := (a1 105 (by unfold prP; decide)).1
    have m2 : MR (ν.1 105) ρ σ := by rw [e5]; exact hM
    have hcol := (MR_k m2 hk).2.1
    have v9 := (a3 i i16).1
    have v10 := (a3 i i16).2
    rw [if_neg (by omega)] at v9 v10
    have cC := hC i i16
    have cS := hS i i16
    have hcl2 := clS_lt (kind := ρ (1 + 7 * k)) (place := place) hcl i (by omega)
    have bnd : ndf place cl < 2 ^ 31 := Nat.lt_trans (ndf_lt (n := 16) hp) (by decide)
    unfold L_X12_printOn_20 B_X12_printOn_20
    simp only [shm]
    refine ⟨fun h2 => absurd h2 (nI_ge (b := 16) i16 (by decide)), fun _ => ?_⟩
    rw [e_has bnd (by omega), y_b0, ndf_bit]
    have vi : vp_in (nI i) 16 := vp_in_nI i16 (by decide)
    have hop : (place.testBit i && !cl.testBit i) = opn place cl i := rfl
    rw [hop]
    by_cases ho : opn place cl i = true
    · rw [pr1 ho, nI_clamp (by omega), v9, v10]
      generalize hkd : ρ (1 + 7 * k) = kind at *
      have hkind : kind < 4 := by rw [← hkd]; exact hb.1
      rcases (show kind = 0 ∨ kind = 1 ∨ kind = 2 ∨ kind = 3 by omega) with rfl | rfl | rfl | rfl
      · refine ⟨fun h => absurd rfl h, fun _ => ?_⟩
        rw [show (1 : Int32) = nI 1 from rfl, e_ofB hk (by decide), show 1 + 1 + 7 * k = 2 + 7 * k by omega, hcol, nI_add]
        refine ⟨vi, fun μ39 e39 => ⟨vi, fun μ40 e40 v41 e41 => ?_⟩⟩
        rw [e41]
        refine ih μ40 (by omega) (MSi_step hm ?_ ?_ ?_ ?_ ?_ ?_ ?_)
        · rw [e40, e39]; exact fr_tr (fr_xi (by unfold prP; decide)) (fr_xi (by unfold prP; decide))
        · intro j hj; rw [e40, y_xin (by decide), e39, y_xin (by decide)]
        · intro c hc; rw [e40, y_xin (by decide), e39, y_xi, if_neg (fun h => hc h.2)]
        · intro c hc; rw [e40, y_xi, if_neg (fun h => hc h.2), e39, y_xin (by decide)]
        · rw [e40, y_xin (by decide), e39, y_xi, if_pos ⟨rfl, rfl⟩]; unfold prC; rw [if_pos ho]; rfl
        · rw [e40, y_xi, if_pos ⟨rfl, rfl⟩]; unfold prS; rw [if_pos ho]; rfl
        · rw [e40, y_xin (by decide), e39, y_xin (by decide), a4, clS_n (by decide), clS_n (by decide)]
      · refine ⟨fun _ => ⟨fun h => absurd rfl h, fun _ => ⟨vi, ?_⟩⟩, fun h => absurd h (by decide)⟩
        rw [show (1 : Int32) = nI 1 from rfl, e_ofB hk (by decide), show 1 + 1 + 7 * k = 2 + 7 * k by omega, hcol, nI_add, nI_add]
        have hb2 := hb.2.1.2
        intro v31 e31
        rw [show (8 : Int32) = nI 8 from rfl, pk_rem (by omega) (by decide) (by decide)] at e31
        have ev : v31 = 0 ↔ (C i + ρ (2 + 7 * k)) % 8 = 0 := by rw [e31]; exact nI_eq (by omega) (by decide)
        have go : ∀ (w : Int32), w = nI (mixN (C i) (ρ (2 + 7 * k))) → ∀ μ33 : xM, μ33 = xi ν 109 i w → ∀ v34 : Int32, v34 = nI (i + 1) → L_X12_printOn_20 (nI (ndf place cl)) (nI 1) 104 (nI k) (d + 1) v34 μ33 K := by
          intro w hw μ33 e33 v34 e34
          rw [e34]
          refine ih μ33 (by omega) (MSi_step hm ?_ ?_ ?_ ?_ ?_ ?_ ?_)
          · rw [e33]; exact fr_xi (by unfold prP; decide)
          · intro j hj; rw [e33, y_xin (by decide)]
          · intro c hc; rw [e33, y_xi, if_neg (fun h => hc h.2)]
          · intro c hc; rw [e33, y_xin (by decide)]
          · rw [e33, y_xi, if_pos ⟨rfl, rfl⟩, hw]; unfold prC; rw [if_pos ho]; rfl
          · rw [e33, y_xin (by decide), v10]; unfold prS; rw [if_pos ho]; rfl
          · rw [e33, y_xin (by decide), a4, clS_n (by decide), clS_n (by decide)]
        rw [ev]
        refine ⟨fun hn => ⟨vi, go v31 ?_⟩, fun he => ⟨vi, go _ ?_⟩⟩
        · rw [e31]; unfold mixN; rw [if_neg hn]
        · unfold mixN; rw [if_pos he]
      · refine ⟨fun _ => ⟨fun _ => ⟨fun h => absurd rfl h, fun _ => ⟨vi, vi, ?_⟩⟩, fun h => absurd h (by decide)⟩, fun h => absurd h (by decide)⟩
        have go : ∀ (w : Int32), w = nI (if S i = 9 then 9 else S i + 1) → ∀ μ33 : xM, μ33 = xi ν 110 i w → ∀ v34 : Int32, v34 = nI i + 1 → L_X12_printOn_20 (nI (ndf place cl)) (nI 2) 104 (nI k) (d + 1) v34 μ33 K := by
          intro w hw μ33 e33 v34 e34
          rw [e34, nI_1]
          refine ih μ33 (by omega) (MSi_step hm ?_ ?_ ?_ ?_ ?_ ?_ ?_)
          · rw [e33]; exact fr_xi (by unfold prP; decide)
          · intro j hj; rw [e33, y_xin (by decide)]
          · intro c hc; rw [e33, y_xin (by decide)]
          · intro c hc; rw [e33, y_xi, if_neg (fun h => hc h.2)]
          · rw [e33, y_xin (by decide), v9]; unfold prC; rw [if_pos ho]; rfl
          · rw [e33, y_xi, if_pos ⟨rfl, rfl⟩, hw]; unfold prS; rw [if_pos ho]; rfl
          · rw [e33, y_xin (by decide), a4, clS_n (by decide), clS_n (by decide)]
        have hle : (9 : Int32) ≤ nI (S i) ↔ 9 ≤ S i := nI_leI (a := 9) (by decide) (by omega)
        rw [hle]
        refine ⟨fun h9 => ⟨vi, go _ ?_⟩, fun h9 => ⟨vi, go _ ?_⟩⟩
        · rw [add0, if_pos (by omega), show S i = 9 by omega]
        · rw [nI_1, if_neg (by omega)]
      · refine ⟨fun _ => ⟨fun _ => ⟨fun _ => ?_, fun h => absurd h (by decide)⟩, fun h => absurd h (by decide)⟩, fun h => absurd h (by decide)⟩
        intro μ22 e22 v23 e23
        rw [e23, nI_1]
        rw [a4, show (1 : Int32) = nI 1 from rfl, y_shl (by omega), y_or, Nat.one_mul] at e22
        refine ih μ22 (by omega) (MSi_step hm ?_ ?_ ?_ ?_ ?_ ?_ ?_)
        · rw [e22]; exact fr_xi (by unfold prP; decide)
        · intro j hj; rw [e22, y_xi, if_neg (fun h => hj h.2)]
        · intro c hc; rw [e22, y_xin (by decide)]
        · intro c hc; rw [e22, y_xin (by decide)]
        · rw [e22, y_xin (by decide), v9]; unfold prC; rw [if_pos ho]; rfl
        · rw [e22, y_xin (by decide), v10]; unfold prS; rw [if_pos ho]; rfl
        · rw [e22, y_xi, if_pos ⟨rfl, rfl⟩]; simp only [clS]; rw [if_pos ⟨trivial, ho⟩]
    · rw [pr0 ho]
      intro v e
      rw [e, nI_1]
      refine ih ν (by omega) (MSi_step hm fr_rf (fun _ _ => rfl) (fun _ _ => rfl) (fun _ _ => rfl) ?_ ?_ ?_)
      · rw [v9]; unfold prC; rw [if_neg ho]
      · rw [v10]; unfold prS; rw [if_neg ho]
      · rw [a4]; simp only [clS]; rw [if_neg (fun h => ho h.2)]
theorem e_prM {μ : xM} {ρ : Nat → Nat} {σ : Int32} {k place cl : Nat} {C S : Nat → Nat} (hM : MR (μ.1 105) ρ σ) (hk : k < 6) (hb : WB ρ k) (hms : MS μ C S cl) (hC : ∀ i, i < 16 → C i < 8) (hS : ∀ i, i < 16 → S i < 10) (hp : place < 65536) (hcl : cl < 65536) {Q : xM → Prop} (hQ : ∀ ν, fr prP μ ν → (∀ j, j ≠ 7 → ν.1 104 j = μ.1 104 j) → MS ν (prC (ρ (1 + 7 * k)) (ρ (2 + 7 * k)) place cl C) (prS (ρ (1 + 7 * k)) place cl S) (prL (ρ (1 + 7 * k)) place cl) → Q ν) : p_X12_printOn 104 (nI k) (nI place) μ Q := by
  unfold p_X12_printOn
  rw [show (0 : Int32) = nI 0 from rfl, e_ofB hk (by decide), show 1 + 0 + 7 * k = 1 + 7 * k by omega, (MR_k hM hk).1]
  intro v3 e3
  rw [hms.2, y_andn] at e3
  rw [e3]
  refine ⟨17, l_prM hM hk hb hC hS hp hcl ?_ 16 0 μ rfl ⟨fr_rf, fun _ _ => rfl, fun c hc => ?_, hms.2⟩⟩
  · intro ν hm
    obtain ⟨a1, a2, a3, a4⟩ := hm
    refine hQ ν a1 a2 ⟨fun c hc => ?_, ?_⟩
    · have := a3 c hc
      rw [if_pos hc, if_pos hc] at this
      exact this
    · rw [a4, clS_16 hp]
  · rw [if_neg (Nat.not_lt_zero c), if_neg (Nat.not_lt_zero c)]
    exact hms.1 c hc
theorem l_clr {μ : xM} {K : xM → Prop} (hK : ∀ ν, fr tkP μ ν → (∀ c, c < 16 → ν.1 109 c = nI 0 ∧ ν.1 110 c = nI 0) → K ν) : ∀ d i ν, i + d = 16 → fr tkP μ ν → (∀ c, c < i → ν.1 109 c = nI 0 ∧ ν.1 110 c = nI 0) → L_X12_clearSheet_2 104 (d + 1) (nI i) ν K
  | 0, i, ν, hi, hf, hv => by
    obtain rfl : i = 16 := by omega
    unfold L_X12_clearSheet_2 B_X12_clearSheet_2
    exact ⟨fun _ => hK ν hf hv, fun h => absurd (by decide) h⟩
  | d + 1, i, ν, hi, hf, hv => by
    unfold L_X12_clearSheet_2 B_X12_clearSheet_2
    simp only [shm]
    refine ⟨fun h2 => absurd h2 (nI_ge (b := 16) (by omega) (by decide)), fun _ => ?_⟩
    rw [nI_clamp (by omega), nI_1]
    refine ⟨vp_in_nI (by omega) (by decide), fun μ9 e9 => ⟨vp_in_nI (by omega) (by decide), fun μ10 e10 v11 e11 => ?_⟩⟩
    rw [e11]
    refine l_clr hK d (i + 1) μ10 (by omega) ?_ ?_
    · rw [e10, e9]; exact fr_tr hf (fr_tr (fr_xi (Or.inl rfl)) (fr_xi (Or.inr rfl)))
    · intro c hc
      by_cases e : c = i
      · subst e
        refine ⟨?_, ?_⟩
        · rw [e10, y_xi, if_neg (by omega), e9, y_xi, if_pos ⟨rfl, rfl⟩]; rfl
        · rw [e10, y_xi, if_pos ⟨rfl, rfl⟩]; rfl
      · refine ⟨?_, ?_⟩
        · rw [e10, y_xi, if_neg (by omega), e9, y_xi, if_neg (by omega)]; exact (hv c (by omega)).1
        · rw [e10, y_xi, if_neg (by omega), e9, y_xi, if_neg (by omega)]; exact (hv c (by omega)).2
theorem e_clrM {μ : xM} {Q : xM → Prop} (hQ : ∀ ν, fr prP μ ν → (∀ j, j ≠ 7 → ν.1 104 j = μ.1 104 j) → MS ν (fun _ => 0) (fun _ => 0) 0 → Q ν) : p_X12_clearSheet 104 μ Q := by
  unfold p_X12_clearSheet
  refine ⟨17, l_clr ?_ 16 0 μ rfl fr_rf (fun c hc => absurd hc (Nat.not_lt_zero c))⟩
  intro ν F hv μ13 e13
  refine hQ μ13 ?_ ?_ ⟨fun c hc => ?_, ?_⟩
  · rw [e13]; exact fr_tr (fr_mono F (fun q h => by unfold tkP at h; unfold prP; omega)) (fr_xi (by unfold prP; decide))
  · intro j hj
    rw [e13, y_xi, if_neg (fun h => hj h.2), (F 104 (by unfold tkP; decide)).1]
  · rw [e13, y_xin (by decide), y_xin (by decide)]; exact hv c hc
  · rw [e13, y_xi, if_pos ⟨rfl, rfl⟩]; rfl
def rSht (ρ C S : Nat → Nat) (cl : Nat) : Nat → Nat := fun i => if 59 ≤ i ∧ i < 75 then C (i - 59) else if 75 ≤ i ∧ i < 91 then S (i - 75) else if i = 91 then cl else ρ i
theorem l_give {μ : xM} {K : xM → Prop} (hK : ∀ ν, fr (fun q => q = 105) μ ν → (∀ i, ν.1 105 i = if 59 ≤ i ∧ i < 75 then μ.1 109 (i - 59) else if 75 ≤ i ∧ i < 91 then μ.1 110 (i - 75) else μ.1 105 i) → K ν) : ∀ d i ν, i + d = 16 → fr (fun q => q = 105) μ ν → (∀ j, ν.1 105 j = if 59 ≤ j ∧ j < 59 + i then μ.1 109 (j - 59) else if 75 ≤ j ∧ j < 75 + i then μ.1 110 (j - 75) else μ.1 105 j) → L_X12_giveSheet_2 104 (d + 1) (nI i) ν K
  | 0, i, ν, hi, hf, hv => by
    obtain rfl : i = 16 := by omega
    unfold L_X12_giveSheet_2 B_X12_giveSheet_2
    exact ⟨fun _ => hK ν hf hv, fun h => absurd (by decide) h⟩
  | d + 1, i, ν, hi, hf, hv => by
    unfold L_X12_giveSheet_2 B_X12_giveSheet_2
    simp only [shm]
    refine ⟨fun h2 => absurd h2 (nI_ge (b := 16) (by omega) (by decide)), fun _ => ?_⟩
    rw [show (59 : Int32) = nI 59 from rfl, show (75 : Int32) = nI 75 from rfl, nI_add, nI_add, nI_clamp (by omega), nI_clamp (by omega), nI_clamp (by omega), nI_1]
    refine ⟨vp_in_nI (by omega) (by decide), v131 (by omega), fun μ9 e9 => ⟨vp_in_nI (by omega) (by decide), v131 (by omega), fun μ10 e10 v11 e11 => ?_⟩⟩
    rw [e11]
    have k9 : ν.1 109 = μ.1 109 := (hf 109 (by decide)).1
    have k10 : μ9.1 110 = μ.1 110 := by rw [e9, y_xin (by decide), (hf 110 (by decide)).1]
    refine l_give hK d (i + 1) μ10 (by omega) ?_ ?_
    · rw [e10, e9]; exact fr_tr hf (fr_tr (fr_xi rfl) (fr_xi rfl))
    · intro j
      rw [e10, y_xi, k10, e9, y_xi, hv j, k9]
      by_cases a : j = 75 + i
      · subst a
        rw [if_pos ⟨rfl, rfl⟩, if_neg (by omega), if_pos (by omega), Nat.add_sub_cancel_left]
      · rw [if_neg (by omega)]
        by_cases b : j = 59 + i
        · subst b
          rw [if_pos ⟨rfl, rfl⟩, if_pos (by omega), Nat.add_sub_cancel_left]
        · rw [if_neg (by omega)]
          by_cases c1 : 59 ≤ j ∧ j < 59 + i
          · rw [if_pos c1, if_pos (by omega)]
          · rw [if_neg c1, if_neg (show ¬ (59 ≤ j ∧ j < 59 + (i + 1)) by omega)]
            by_cases c2 : 75 ≤ j ∧ j < 75 + i
            · rw [if_pos c2, if_pos (show 75 ≤ j ∧ j < 75 + (i + 1) by omega)]
            · rw [if_neg c2, if_neg (show ¬ (75 ≤ j ∧ j < 75 + (i + 1)) by omega)]
theorem e_giveM {μ : xM} {ρ C S : Nat → Nat} {σ : Int32} {cl : Nat} (hM : MR (μ.1 105) ρ σ) (hms : MS μ C S cl) {Q : xM → Prop} (hQ : ∀ ν, fr (fun q => q = 105) μ ν → MR (ν.1 105) (rSht ρ C S cl) σ → Q ν) : p_X12_giveSheet 104 μ Q := by
  unfold p_X12_giveSheet
  refine ⟨17, l_give ?_ 16 0 μ rfl fr_rf (fun j => by rw [if_neg (by omega), if_neg (by omega)])⟩
  intro ν F hv
  have c91 : (91 : Int32).toNatClampNeg = 91 := by decide
  simp only [shm, c91]
  refine ⟨v131 (k := 91) (by decide), fun μ13 e13 => ?_⟩
  have g7 : ν.1 104 7 = nI cl := by rw [(F 104 (by decide)).1]; exact hms.2
  rw [g7] at e13
  refine hQ μ13 (by rw [e13]; exact fr_tr F (fr_xi rfl)) ⟨?_, fun i i1 i2 => ?_⟩
  · rw [e13, y_xi, if_neg (by omega), hv, if_neg (by omega), if_neg (by omega)]; exact hM.1
  · rw [e13, y_xi]
    unfold enc rSht
    by_cases e : i = 91
    · subst e
      simp
    · rw [if_neg (fun h => e h.2), hv]
      by_cases c1 : 59 ≤ i ∧ i < 75
      · rw [if_pos c1, if_neg (by omega), if_pos c1]
        exact (hms.1 _ (by omega)).1
      · rw [if_neg c1]
        by_cases c2 : 75 ≤ i ∧ i < 91
        · rw [if_pos c2, if_neg (by omega), if_neg c1, if_pos c2]
          exact (hms.1 _ (by omega)).2
        · rw [if_neg c2, hM.2 i i1 i2, if_neg c1, if_neg c2, if_neg e]
          rfl
