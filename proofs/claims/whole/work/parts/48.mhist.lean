/-! the reference's history -/
def MH (μ : xM) (h : Nat) (Hρ : Nat → Nat → Nat) (Hσ : Nat → Int32) : Prop := h ≤ 5 ∧ μ.1 104 3 = nI h ∧ ∀ i, i < h → MR (fun k => μ.1 107 (131 * i + k)) (Hρ i) (Hσ i)
theorem shm_x : rt 104 0 = 105 ∧ rt 104 1 = 106 ∧ rt 104 2 = 107 ∧ rt 104 4 = 108 ∧ ln 105 = 131 ∧ ln 106 = 131 ∧ ln 107 = 655 ∧ ln 108 = 3 := by decide +kernel
theorem l_hold {μ : xM} {K : xM → Prop} (hK : ∀ ν, fr (fun x => x = 106) μ ν → ν.2 = μ.2 → (∀ k, k < 131 → ν.1 106 k = μ.1 105 k) → K ν) : ∀ d i ν, i + d = 131 → fr (fun x => x = 106) μ ν → ν.2 = μ.2 → (∀ k, k < i → ν.1 106 k = μ.1 105 k) → L_X12_hold_2 104 (d + 1) (nI i) ν K
  | 0, i, ν, hi, hf, hl, hv => by
    obtain rfl : i = 131 := by omega
    unfold L_X12_hold_2 B_X12_hold_2
    exact ⟨fun _ => hK ν hf hl hv, fun h => absurd (by decide) h⟩
  | d + 1, i, ν, hi, hf, hl, hv => by
    unfold L_X12_hold_2 B_X12_hold_2
    simp only [shm_x]
    have hlt : i < 131 := by omega
    refine ⟨fun h => absurd h (nI_ge (b := 131) hlt (by decide)), fun _ => ⟨vp_in_nI hlt (by decide), vp_in_nI hlt (by decide), ?_⟩⟩
    intro μ1 e1 v1 ev
    rw [nI_clamp (by omega)] at e1
    rw [ev, nI_1]
    refine l_hold hK d (i + 1) μ1 (by omega) ?_ ?_ ?_
    · rw [e1]; exact fr_tr hf (fr_xi rfl)
    · rw [e1, y_xi2]; exact hl
    · intro k hk
      rw [e1, y_xi]
      by_cases hki : k = i
      · rw [if_pos ⟨rfl, hki⟩, (hf 105 (by decide)).1, hki]
      · rw [if_neg (fun h => hki h.2)]
        exact hv k (by omega)
theorem e_hold {μ : xM} {Q : xM → Prop} (hQ : ∀ ν, fr (fun x => x = 106) μ ν → (∀ k, k < 131 → ν.1 106 k = μ.1 105 k) → Q ν) : p_X12_hold 104 μ Q := by
  unfold p_X12_hold
  exact ⟨132, l_hold (fun ν a _ c => hQ ν a c) 131 0 μ rfl fr_rf rfl (fun k hk => absurd hk (Nat.not_lt_zero k))⟩
theorem l_push1 {μ : xM} {K : xM → Prop} (hK : ∀ ν, fr (fun x => x = 107) μ ν → (∀ k, k < 524 → ν.1 107 k = μ.1 107 (k + 131)) → K ν) : ∀ d i ν, i + d = 524 → fr (fun x => x = 107) μ ν → (∀ k, k < i → ν.1 107 k = μ.1 107 (k + 131)) → (∀ k, i ≤ k → ν.1 107 k = μ.1 107 k) → L_X12_push_10 104 (d + 1) (nI i) ν K
  | 0, i, ν, hi, hf, hv, hu => by
    obtain rfl : i = 524 := by omega
    unfold L_X12_push_10 B_X12_push_10
    exact ⟨fun _ => hK ν hf hv, fun h => absurd (by decide) h⟩
  | d + 1, i, ν, hi, hf, hv, hu => by
    unfold L_X12_push_10 B_X12_push_10
    simp only [shm_x]
    have hlt : i < 524 := by omega
    rw [show (131 : Int32) = nI 131 from rfl, nI_add]
    refine ⟨fun h => absurd h (nI_ge (b := 524) hlt (by decide)), fun _ => ⟨vp_in_nI (by omega) (by decide), vp_in_nI (by omega) (by decide), ?_⟩⟩
    intro μ1 e1 v1 ev
    rw [nI_clamp (by omega), nI_clamp (by omega)] at e1
    rw [ev, nI_1]
    refine l_push1 hK d (i + 1) μ1 (by omega) ?_ ?_ ?_
    · rw [e1]; exact fr_tr hf (fr_xi rfl)
    · intro k hk
      rw [e1, y_xi]
      by_cases hki : k = i
      · rw [if_pos ⟨rfl, hki⟩, hki, hu _ (by omega)]
      · rw [if_neg (fun h => hki h.2)]
        exact hv k (by omega)
    · intro k hk
      rw [e1, y_xi, if_neg (fun h => by omega)]
      exact hu k (by omega)
theorem l_push2 {μ : xM} {h : Nat} (hh : h < 5) (hp : μ.1 104 3 = nI h) {K : xM → Prop} (hK : ∀ ν, fr (fun x => x = 107) μ ν → (∀ k, k < 131 → ν.1 107 (131 * h + k) = μ.1 106 k) → (∀ k, k < 131 * h → ν.1 107 k = μ.1 107 k) → K ν) : ∀ d i ν, i + d = 131 → fr (fun x => x = 107) μ ν → (∀ k, k < i → ν.1 107 (131 * h + k) = μ.1 106 k) → (∀ k, k < 131 * h → ν.1 107 k = μ.1 107 k) → L_X12_push_51 104 (d + 1) (nI i) ν K
  | 0, i, ν, hi, hf, hv, hu => by
    obtain rfl : i = 131 := by omega
    unfold L_X12_push_51 B_X12_push_51
    exact ⟨fun _ => hK ν hf hv hu, fun h => absurd (by decide) h⟩
  | d + 1, i, ν, hi, hf, hv, hu => by
    unfold L_X12_push_51 B_X12_push_51
    simp only [shm_x]
    have hlt : i < 131 := by omega
    have hp' : ν.1 104 3 = nI h := by rw [(hf 104 (by decide)).1, hp]
    rw [hp', show (131 : Int32) = nI 131 from rfl, pk_mul, nI_add]
    refine ⟨fun h => absurd h (nI_ge (b := 131) hlt (by decide)), fun _ => ⟨vp_in_nI hlt (by decide), vp_in_nI (by omega) (by decide), ?_⟩⟩
    intro μ1 e1 v1 ev
    rw [nI_clamp (by omega), nI_clamp (by omega)] at e1
    rw [ev, nI_1]
    refine l_push2 hh hp hK d (i + 1) μ1 (by omega) ?_ ?_ ?_
    · rw [e1]; exact fr_tr hf (fr_xi rfl)
    · intro k hk
      rw [e1, y_xi]
      by_cases hki : k = i
      · rw [if_pos ⟨rfl, by rw [hki]⟩, hki, (hf 106 (by decide)).1]
      · rw [if_neg (fun h => by omega)]
        exact hv k (by omega)
    · intro k hk
      rw [e1, y_xi, if_neg (fun h => by omega)]
      exact hu k hk
theorem MR_ext {r s : Nat → Int32} {ρ : Nat → Nat} {σ : Int32} (h : ∀ k, k < 131 → s k = r k) (hr : MR r ρ σ) : MR s ρ σ := ⟨by rw [h 94 (by decide)]; exact hr.1, fun i h1 h2 => by rw [h i h1]; exact hr.2 i h1 h2⟩
theorem e_pushJ {μ : xM} {h : Nat} {Hρ : Nat → Nat → Nat} {Hσ : Nat → Int32} {ρ : Nat → Nat} {σ : Int32} (hh : h < 5) (hp : μ.1 104 3 = nI h) (hM : ∀ i, i < h → MR (fun k => μ.1 107 (131 * i + k)) (Hρ i) (Hσ i)) (hR : MR (μ.1 106) ρ σ) {Q : xM → Prop} (hQ : ∀ ν, fr (fun x => x = 104 ∨ x = 107) μ ν → (∀ j, j ≠ 3 → ν.1 104 j = μ.1 104 j) → MH ν (h + 1) (fun i => if i = h then ρ else Hρ i) (fun i => if i = h then σ else Hσ i) → Q ν) : J_X12_push_49 104 μ Q := by
  unfold J_X12_push_49
  refine ⟨132, l_push2 hh hp ?_ 131 0 μ rfl fr_rf (fun k hk => absurd hk (Nat.not_lt_zero k)) (fun _ _ => rfl)⟩
  intro ν F v u μ1 e1
  have hp' : ν.1 104 3 = nI h := by rw [(F 104 (by decide)).1, hp]
  rw [hp', nI_1] at e1
  refine hQ μ1 ?_ ?_ ⟨by omega, ?_, ?_⟩
  · rw [e1]
    exact fr_tr (fr_mono F (fun q hq => Or.inr hq)) (fr_xi (Or.inl rfl))
  · intro j hj
    rw [e1, y_xi, if_neg (fun h => hj h.2), (F 104 (by decide)).1]
  · rw [e1, y_xi, if_pos ⟨rfl, rfl⟩]
  · intro i hi
    have e107 : μ1.1 107 = ν.1 107 := by rw [e1, y_xin (by decide)]
    by_cases ih : i = h
    · simp only [ih, if_true]
      refine MR_ext (fun k hk => ?_) hR
      rw [e107]
      exact v k hk
    · simp only [if_neg ih]
      refine MR_ext (fun k hk => ?_) (hM i (by omega))
      rw [e107]
      exact u _ (by omega)
theorem e_push {μ : xM} {h : Nat} {Hρ : Nat → Nat → Nat} {Hσ : Nat → Int32} {ρ : Nat → Nat} {σ : Int32} (hH : MH μ h Hρ Hσ) (hR : MR (μ.1 106) ρ σ) {Q : xM → Prop} (hQ : ∀ ν, fr (fun x => x = 104 ∨ x = 107) μ ν → (∀ j, j ≠ 3 → ν.1 104 j = μ.1 104 j) → MH ν (hct h) (hpu h Hρ ρ) (hpu h Hσ σ) → Q ν) : p_X12_push 104 μ Q := by
  obtain ⟨h1, h2, h3⟩ := hH
  unfold p_X12_push
  rw [h2, show (5 : Int32) = nI 5 from rfl, nI_eq (by omega) (by decide)]
  constructor
  · intro h5
    refine e_pushJ (by omega) h2 h3 hR (fun ν F u m => hQ ν F u ?_)
    unfold hct hpu
    simp only [if_neg h5]
    exact m
  · intro h5
    subst h5
    refine ⟨525, l_push1 ?_ 524 0 μ rfl fr_rf (fun k hk => absurd hk (Nat.not_lt_zero k)) (fun _ _ => rfl)⟩
    intro ν F v μ1 e1
    have hp' : ν.1 104 3 = nI 5 := by rw [(F 104 (by decide)).1, h2]
    rw [hp', nI_pred] at e1
    have e107 : μ1.1 107 = ν.1 107 := by rw [e1, y_xin (by decide)]
    have e106 : μ1.1 106 = μ.1 106 := by rw [e1, y_xin (by decide), (F 106 (by decide)).1]
    refine e_pushJ (h := 4) (Hρ := fun i => Hρ (i + 1)) (Hσ := fun i => Hσ (i + 1)) (ρ := ρ) (σ := σ) (by decide) (by rw [e1, y_xi, if_pos ⟨rfl, rfl⟩]) ?_ (by rw [e106]; exact hR) (fun κ F2 u m => hQ κ ?_ ?_ ?_)
    · intro i hi
      refine MR_ext (fun k hk => ?_) (h3 (i + 1) (by omega))
      rw [e107]
      show ν.1 107 (131 * i + k) = μ.1 107 (131 * (i + 1) + k)
      rw [v _ (by omega), show 131 * i + k + 131 = 131 * (i + 1) + k by omega]
    · refine fr_tr ?_ F2
      rw [e1]
      exact fr_tr (fr_mono F (fun q hq => Or.inr hq)) (fr_xi (Or.inl rfl))
    · intro j hj
      rw [u j hj, e1, y_xi, if_neg (fun h => hj h.2), (F 104 (by decide)).1]
    · unfold hct hpu
      simp only [if_true]
      exact m
theorem l_backM {μ : xM} {h : Nat} (hh : h < 5) (hp : μ.1 104 3 = nI h) {K : xM → Prop} (hK : ∀ ν, fr (fun x => x = 105) μ ν → (∀ k, k < 131 → ν.1 105 k = μ.1 107 (131 * h + k)) → K ν) : ∀ d i ν, i + d = 131 → fr (fun x => x = 105) μ ν → (∀ k, k < i → ν.1 105 k = μ.1 107 (131 * h + k)) → L_X12_back_26 104 (d + 1) (nI i) ν K
  | 0, i, ν, hi, hf, hv => by
    obtain rfl : i = 131 := by omega
    unfold L_X12_back_26 B_X12_back_26
    exact ⟨fun _ => hK ν hf hv, fun h => absurd (by decide) h⟩
  | d + 1, i, ν, hi, hf, hv => by
    unfold L_X12_back_26 B_X12_back_26
    simp only [shm_x]
    have hlt : i < 131 := by omega
    have hp' : ν.1 104 3 = nI h := by rw [(hf 104 (by decide)).1, hp]
    rw [hp', show (131 : Int32) = nI 131 from rfl, pk_mul, nI_add]
    refine ⟨fun h => absurd h (nI_ge (b := 131) hlt (by decide)), fun _ => ⟨vp_in_nI (by omega) (by decide), vp_in_nI hlt (by decide), ?_⟩⟩
    intro μ1 e1 v1 ev
    rw [nI_clamp (by omega), nI_clamp (by omega)] at e1
    rw [ev, nI_1]
    refine l_backM hh hp hK d (i + 1) μ1 (by omega) ?_ ?_
    · rw [e1]; exact fr_tr hf (fr_xi rfl)
    · intro k hk
      rw [e1, y_xi]
      by_cases hki : k = i
      · rw [if_pos ⟨rfl, hki⟩, hki, (hf 107 (by decide)).1]
      · rw [if_neg (fun h => by omega)]
        exact hv k (by omega)
theorem e_refM {μ : xM} {w : Int32} {j : Nat} (hw : (-2 : Int32) - w = nI j) (hj : j < 3) {Q : Int32 → xM → Prop} (hQ : Q w (xi μ 108 j (μ.1 108 j + 1))) : p_X12_refuses 104 w μ Q := by
  unfold p_X12_refuses
  intro v e
  rw [hw] at e
  simp only [shm_x]
  rw [e]
  refine ⟨vp_in_nI hj (by decide), vp_in_nI hj (by decide), ?_⟩
  intro μ2 e2
  rw [nI_clamp (by omega)] at e2
  rw [e2]
  exact hQ
theorem e_refX0 {μ : xM} {Q : Int32 → xM → Prop} (hQ : Q (-2) (xi μ 0 5 (μ.1 0 5 + 1))) : p_X11_refuse 0 (-2) μ Q := by
  unfold p_X11_refuse J_X11_refuse_16
  exact ⟨fun h => absurd rfl h, fun _ μ1 e => ⟨fun _ => ⟨fun _ => e ▸ hQ, fun h => absurd h (by decide)⟩, fun h => absurd h (by decide)⟩⟩
theorem e_refX1 {μ : xM} {Q : Int32 → xM → Prop} (hQ : Q (-3) (xi μ 0 6 (μ.1 0 6 + 1))) : p_X11_refuse 0 (-3) μ Q := by
  unfold p_X11_refuse J_X11_refuse_16
  exact ⟨fun _ => ⟨fun h => absurd rfl h, fun _ μ1 e => ⟨fun _ => e ▸ hQ, fun h => absurd h (by decide)⟩⟩, fun h => absurd h (by decide)⟩
theorem e_refX2 {μ : xM} {Q : Int32 → xM → Prop} (hQ : Q (-4) (xi μ 0 7 (μ.1 0 7 + 1))) : p_X11_refuse 0 (-4) μ Q := by
  unfold p_X11_refuse J_X11_refuse_16
  exact ⟨fun _ => ⟨fun _ => ⟨fun h => absurd rfl h, fun _ μ1 e => e ▸ hQ⟩, fun h => absurd h (by decide)⟩, fun h => absurd h (by decide)⟩
theorem e_refM0 {μ : xM} {Q : Int32 → xM → Prop} (hQ : Q (-2) (xi μ 108 0 (μ.1 108 0 + 1))) : p_X12_refuses 104 (-2) μ Q := e_refM (j := 0) (by decide) (by decide) hQ
theorem e_refM1 {μ : xM} {Q : Int32 → xM → Prop} (hQ : Q (-3) (xi μ 108 1 (μ.1 108 1 + 1))) : p_X12_refuses 104 (-3) μ Q := e_refM (j := 1) (by decide) (by decide) hQ
theorem e_refM2 {μ : xM} {Q : Int32 → xM → Prop} (hQ : Q (-4) (xi μ 108 2 (μ.1 108 2 + 1))) : p_X12_refuses 104 (-4) μ Q := e_refM (j := 2) (by decide) (by decide) hQ
