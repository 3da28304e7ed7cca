theorem enc_n {ρ : Nat → Nat} {i : Nat} (h : ¬ isSh i) : enc ρ i = nI (ρ i) := by unfold enc; rw [if_neg h]
theorem enc_s {ρ : Nat → Nat} {i : Nat} (h : isSh i) : enc ρ i = nI (ρ i) - 3 := by unfold enc; rw [if_pos h]
theorem MR_k {r : Nat → Int32} {ρ : Nat → Nat} {σ : Int32} (h : MR r ρ σ) {k : Nat} (hk : k < 6) : r (1 + 7 * k) = nI (ρ (1 + 7 * k)) ∧ r (2 + 7 * k) = nI (ρ (2 + 7 * k)) ∧ r (3 + 7 * k) = nI (ρ (3 + 7 * k)) ∧ r (4 + 7 * k) = nI (ρ (4 + 7 * k)) ∧ r (5 + 7 * k) = nI (ρ (5 + 7 * k)) - 3 ∧ r (6 + 7 * k) = nI (ρ (6 + 7 * k)) - 3 ∧ r (7 + 7 * k) = nI (ρ (7 + 7 * k)) := by
  refine ⟨?_, ?_, ?_, ?_, ?_, ?_, ?_⟩ <;> rw [h.2 _ (by omega) (by omega)] <;> first | exact enc_n (by omega) | exact enc_s (by omega)
theorem MR_p {r : Nat → Int32} {ρ : Nat → Nat} {σ : Int32} (h : MR r ρ σ) {i : Nat} (h1 : 43 ≤ i) (h2 : i < 131) (h3 : i ≠ 94) : r i = nI (ρ i) := by
  rw [h.2 i h2 h3]
  exact enc_n (by omega)
theorem v131 {k : Nat} (h : k < 131) : vp_in (nI k) 131 := vp_in_nI h (by decide)
/-- ofBlock -/
theorem e_ofB {k j : Nat} (hk : k < 6) (hj : j < 7) {μ : xM} {Q : Int32 → xM → Prop} : p_X12_ofBlock 104 (nI k) (nI j) μ Q ↔ Q (μ.1 105 (1 + j + 7 * k)) μ := by
  unfold p_X12_ofBlock
  simp only [shm]
  rw [show (1 : Int32) = nI 1 from rfl, show (7 : Int32) = nI 7 from rfl, pk_mul, nI_add, nI_add, nI_clamp (by omega), show 1 + 7 * k + j = 1 + j + 7 * k by omega]
  simp only [v131 (show 1 + j + 7 * k < 131 by omega), true_and]
theorem e_plcM {μ : xM} {ρ : Nat → Nat} {σ : Int32} {k : Nat} (hM : MR (μ.1 105) ρ σ) (hk : k < 6) (hb : WB ρ k) {Q : Int32 → xM → Prop} (hQ : Q (nI (plc ρ k)) μ) : p_X12_placeOf 104 (nI k) μ Q := by
  unfold p_X12_placeOf
  obtain ⟨m1, m2, m3, m4, m5, m6, m7⟩ := MR_k hM hk
  rw [show (3 : Int32) = nI 3 from rfl, show (4 : Int32) = nI 4 from rfl, show (5 : Int32) = nI 5 from rfl, e_ofB hk (by decide), e_ofB hk (by decide), e_ofB hk (by decide)]
  rw [show 1 + 3 + 7 * k = 4 + 7 * k by omega, show 1 + 4 + 7 * k = 5 + 7 * k by omega, show 1 + 5 + 7 * k = 6 + 7 * k by omega, m4, m5, m6]
  obtain ⟨-, -, -, b4, b5, b6, -⟩ := hb
  exact e_mvM b4.2 (by omega) (by omega) hQ
theorem MR_add {μ ν : xM} {ρ : Nat → Nat} {σ : Int32} {a b c d : Nat} (hM : MR (μ.1 105) ρ σ) (hn : ρ 0 < 6) (H : ∀ i, ν.1 105 i = if i = 0 then nI (ρ 0 + 1) else if i = 7 + 7 * ρ 0 then 0 else if i = 6 + 7 * ρ 0 then 0 else if i = 5 + 7 * ρ 0 then 0 else if i = 4 + 7 * ρ 0 then nI d else if i = 3 + 7 * ρ 0 then nI c else if i = 2 + 7 * ρ 0 then nI b else if i = 1 + 7 * ρ 0 then nI a else μ.1 105 i) : MR (ν.1 105) (rAdd ρ a b c d) σ := by
  obtain ⟨q1, q2, q3, q4, q5, q6, q7⟩ := @rAdd_1 ρ a b c d
  refine ⟨?_, fun i h1 h2 => ?_⟩
  · rw [H, if_neg (by omega), if_neg (by omega), if_neg (by omega), if_neg (by omega), if_neg (by omega), if_neg (by omega), if_neg (by omega), if_neg (by omega)]
    exact hM.1
  · rw [H]
    by_cases e0 : i = 0
    · subst e0
      rw [if_pos rfl, enc_n (by omega), rAdd_0]
    rw [if_neg e0]
    by_cases e7 : i = 7 + 7 * ρ 0
    · rw [if_pos e7, enc_n (by omega), e7, q7]; rfl
    rw [if_neg e7]
    by_cases e6 : i = 6 + 7 * ρ 0
    · rw [if_pos e6, enc_s (by omega), e6, q6]; decide
    rw [if_neg e6]
    by_cases e5 : i = 5 + 7 * ρ 0
    · rw [if_pos e5, enc_s (by omega), e5, q5]; decide
    rw [if_neg e5]
    by_cases e4 : i = 4 + 7 * ρ 0
    · rw [if_pos e4, enc_n (by omega), e4, q4]
    rw [if_neg e4]
    by_cases e3 : i = 3 + 7 * ρ 0
    · rw [if_pos e3, enc_n (by omega), e3, q3]
    rw [if_neg e3]
    by_cases e2 : i = 2 + 7 * ρ 0
    · rw [if_pos e2, enc_n (by omega), e2, q2]
    rw [if_neg e2]
    by_cases e1 : i = 1 + 7 * ρ 0
    · rw [if_pos e1, enc_n (by omega), e1, q1]
    rw [if_neg e1, hM.2 i h1 h2]
    unfold enc
    rw [rAdd_o e0 (by omega)]
theorem e_doBlk {μ : xM} {ρ : Nat → Nat} {σ : Int32} {a b c d : Int32} (hM : MR (μ.1 105) ρ σ) (h6 : ρ 0 ≤ 6) {Q : Int32 → xM → Prop} (h1 : ¬ vBlk a b c d → Q (-2) μ) (h2 : vBlk a b c d → ρ 0 = 6 → Q (-4) μ) (h3 : vBlk a b c d → ρ 0 < 6 → ∀ ν, fr (fun q => q = 105) μ ν → (∀ a2 b2 c2 d2, a = nI a2 → b = nI b2 → c = nI c2 → d = nI d2 → MR (ν.1 105) (rAdd ρ a2 b2 c2 d2) σ) → Q (nI (ρ 0)) ν) : p_X12_doBlock 104 a b c d μ Q := by
  unfold p_X12_doBlock
  simp only [e_in, y_b0, shm, clamp0, MR_0 hM]
  by_cases g1 : inR a 0 3
  case neg => rw [pr0 g1]; exact h1 (fun h => g1 h.1)
  rw [pr1 g1]
  by_cases g2 : inR b 1 7
  case neg => rw [pr0 g2]; exact h1 (fun h => g2 h.2.1)
  rw [pr1 g2]
  by_cases g3 : inR c 0 9
  case neg => rw [pr0 g3]; exact h1 (fun h => g3 h.2.2.1)
  rw [pr1 g3]
  by_cases g4 : inR d 1 65535
  case neg => rw [pr0' g4]; exact h1 (fun h => g4 h.2.2.2)
  rw [pr1' g4]
  have hv : vBlk a b c d := ⟨g1, g2, g3, g4⟩
  have z : vp_in (0 : Int32) 131 := v131 (k := 0) (by decide)
  refine ⟨z, fun hne => ⟨z, ?_⟩, fun he => ?_⟩
  · have hn : ρ 0 < 6 := by
      rcases Nat.lt_or_ge (ρ 0) 6 with q | q
      · exact q
      · exact absurd (by rw [show ρ 0 = 6 by omega]; rfl) hne
    intro v14 e14
    rw [show (1 : Int32) = nI 1 from rfl, show (7 : Int32) = nI 7 from rfl, pk_mul, nI_add] at e14
    rw [e14, show (1 : Int32) = nI 1 from rfl, show (2 : Int32) = nI 2 from rfl, show (3 : Int32) = nI 3 from rfl, show (4 : Int32) = nI 4 from rfl, show (5 : Int32) = nI 5 from rfl, show (6 : Int32) = nI 6 from rfl, nI_add, nI_add, nI_add, nI_add, nI_add, nI_add]
    rw [nI_clamp (by omega), nI_clamp (by omega), nI_clamp (by omega), nI_clamp (by omega), nI_clamp (by omega), nI_clamp (by omega), nI_clamp (by omega)]
    refine ⟨v131 (by omega), fun μ15 e15 => ⟨v131 (by omega), fun μ16 e16 => ⟨v131 (by omega), fun μ17 e17 => ⟨v131 (by omega), fun μ18 e18 => ⟨v131 (by omega), fun μ19 e19 => ⟨v131 (by omega), fun μ20 e20 => ⟨v131 (by omega), fun μ21 e21 => ⟨z, z, fun μ22 e22 => ⟨z, ?_⟩⟩⟩⟩⟩⟩⟩⟩⟩
    have k0 : μ21.1 105 0 = nI (ρ 0) := by
      rw [e21, y_xi, if_neg (by omega), e20, y_xi, if_neg (by omega), e19, y_xi, if_neg (by omega), e18, y_xi, if_neg (by omega), e17, y_xi, if_neg (by omega), e16, y_xi, if_neg (by omega), e15, y_xi, if_neg (by omega), MR_0 hM]
    rw [k0, nI_add] at e22
    have r : μ22.1 105 0 - nI 1 = nI (ρ 0) := by
      rw [e22, y_xi, if_pos ⟨rfl, rfl⟩, pk_sub (by omega), Nat.add_sub_cancel]
    rw [r]
    have F : fr (fun q => q = 105) μ μ22 := by
      rw [e22, e21, e20, e19, e18, e17, e16, e15]
      exact fr_tr (fr_tr (fr_tr (fr_tr (fr_tr (fr_tr (fr_tr (fr_xi rfl) (fr_xi rfl)) (fr_xi rfl)) (fr_xi rfl)) (fr_xi rfl)) (fr_xi rfl)) (fr_xi rfl)) (fr_xi rfl)
    refine h3 hv hn μ22 F (fun a2 b2 c2 d2 ea eb ec ed => MR_add hM hn (fun i => ?_))
    rw [e22, e21, e20, e19, e18, e17, e16, e15, ea, eb, ec, ed]
    simp only [y_xi, true_and]
    rw [show 1 + 7 * ρ 0 + 1 = 2 + 7 * ρ 0 by omega, show 1 + 7 * ρ 0 + 2 = 3 + 7 * ρ 0 by omega, show 1 + 7 * ρ 0 + 3 = 4 + 7 * ρ 0 by omega, show 1 + 7 * ρ 0 + 4 = 5 + 7 * ρ 0 by omega, show 1 + 7 * ρ 0 + 5 = 6 + 7 * ρ 0 by omega, show 1 + 7 * ρ 0 + 6 = 7 + 7 * ρ 0 by omega]
  · refine h2 hv ?_
    rw [show (6 : Int32) = nI 6 from rfl, nI_eq (by omega) (by decide)] at he
    exact he
