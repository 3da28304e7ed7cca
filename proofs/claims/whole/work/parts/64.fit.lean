/-! fit -/
def alS (P : Nat → Nat) (v : Nat) : Nat → Nat
  | 0 => 0
  | c + 1 => if P c = v then alS P v c ||| 2 ^ c else alS P v c
theorem alS_bit (P : Nat → Nat) (v : Nat) : ∀ k j, (alS P v k).testBit j = (decide (j < k) && decide (P j = v))
  | 0, j => by simp [alS]
  | k + 1, j => by
    have ih := alS_bit P v k j
    simp only [alS]
    by_cases h : P k = v
    · rw [if_pos h, Nat.testBit_or, ih, Nat.testBit_two_pow]
      by_cases e : k = j
      · subst e; simp [h]
      · have : (j < k + 1) = (j < k) := by simp only [eq_iff_iff]; omega
        simp [e, this]
    · rw [if_neg h, ih]
      by_cases e : k = j
      · subst e; simp [h]
      · have : (j < k + 1) = (j < k) := by simp only [eq_iff_iff]; omega
        simp [this]
theorem alS_lt (P : Nat → Nat) (v : Nat) : ∀ k, k ≤ 16 → alS P v k < 2 ^ 16
  | 0, _ => by simp [alS]
  | k + 1, h => by
    have ih := alS_lt P v k (by omega)
    simp only [alS]
    split
    · exact Nat.or_lt_two_pow ih (Nat.pow_lt_pow_right (by decide) (by omega))
    · exact ih
theorem l_alX {P : Nat → Nat} {v : Nat} (hP : ∀ i, i < 16 → P i < 16) (hv : v < 16) {μ : xM} {K : Int32 → xM → Prop} (hK : K (nI (alS P v 16)) μ) : ∀ d c, c + d = 16 → L_X1_alike_5 (lN (nb P 16)) (nI v) (d + 1) (nI c) (nI (alS P v c)) μ K
  | 0, c, h => by
    obtain rfl : c = 16 := by omega
    unfold L_X1_alike_5 B_X1_alike_5
    exact ⟨fun _ => hK, fun h => absurd (by decide) h⟩
  | d + 1, c, h => by
    have ih := l_alX hP hv hK d (c + 1) (by omega)
    unfold L_X1_alike_5 B_X1_alike_5
    refine ⟨fun h2 => absurd h2 (nI_ge (b := 16) (by omega) (by decide)), fun _ => ?_⟩
    have hp := hP c (by omega)
    rw [e_nibd hP (by omega)]
    simp only [forall_eq, nI_1, nI_eq (show P c < 2 ^ 31 by omega) (show v < 2 ^ 31 by omega)]
    simp only [alS] at ih
    refine ⟨fun e => ?_, fun e => ?_⟩
    · rw [if_neg e] at ih; exact ih
    · rw [if_pos e] at ih
      rw [show (1 : Int32) = nI 1 from rfl, y_shl (by omega), y_or, Nat.one_mul]
      exact ih
theorem e_alX {P : Nat → Nat} {v : Nat} (hP : ∀ i, i < 16 → P i < 16) (hv : v < 16) {μ : xM} {Q : Int32 → xM → Prop} (hQ : Q (nI (alS P v 16)) μ) : p_X1_alike (lN (nb P 16)) (nI v) μ Q := by
  unfold p_X1_alike
  exact ⟨17, l_alX hP hv hQ 16 0 rfl⟩
def gnS (P : Nat → Nat) (v p : Nat) (c : Nat) : Int32 := nI (pcS (p &&& alS P v 16) c) - nI (pcS (ndf p (alS P v 16)) c)
theorem gnS_s (P : Nat → Nat) (v p c : Nat) (hc : c < 16) : gnS P v p (c + 1) = if p.testBit c = true then (if P c = v then gnS P v p c + 1 else gnS P v p c + -1) else gnS P v p c + 0 := by
  unfold gnS
  simp only [pcS, Nat.testBit_and, ndf_bit, alS_bit, hc, decide_true, Bool.true_and]
  rw [← nI_add, ← nI_add]
  by_cases h1 : p.testBit c = true
  · rw [if_pos h1, h1]
    by_cases h2 : P c = v
    · rw [if_pos h2]; simp only [h2, decide_true, Bool.true_and, Bool.and_self, Bool.not_true, Bool.and_false]
      rw [show nI (bN true) = 1 from rfl, show nI (bN false) = 0 from rfl]
      grind
    · rw [if_neg h2]; simp only [h2, decide_false, Bool.true_and, Bool.not_false]
      rw [show nI (bN true) = 1 from rfl, show nI (bN false) = 0 from rfl]
      grind
  · have h1' : p.testBit c = false := by simpa using h1
    rw [if_neg h1, h1']
    simp only [Bool.false_and]
    rw [show nI (bN false) = 0 from rfl]
    grind
theorem e_gain {P : Nat → Nat} {v p : Nat} (hp : p < 65536) {μ : xM} {Q : Int32 → xM → Prop} (hQ : Q (gnS P v p 16) μ) : p_X11_gainOf (nI p) (nI (alS P v 16)) μ Q := by
  unfold p_X11_gainOf
  rw [y_and, y_andn, e_bc (Nat.lt_of_le_of_lt Nat.and_le_left hp), e_bc (ndf_lt (n := 16) hp)]
  exact hQ
theorem l_moM {μ : xM} {ρ : Nat → Nat} {σ : Int32} {v p : Nat} (hM : MR (μ.1 105) ρ σ) (hW : WF ρ) (hv : v < 8) (hp : p < 65536) {K : Int32 → xM → Prop} (hK : K (gnS (fun c => ρ (43 + c)) v p 16) μ) : ∀ d c, c + d = 16 → L_X12_more_5 104 (nI p) (nI v) (d + 1) (nI c) (gnS (fun c => ρ (43 + c)) v p c) μ K
  | 0, c, h => by
    obtain rfl : c = 16 := by omega
    unfold L_X12_more_5 B_X12_more_5
    exact ⟨fun _ => hK, fun h => absurd (by decide) h⟩
  | d + 1, c, h => by
    have ih := l_moM hM hW hv hp hK d (c + 1) (by omega)
    unfold L_X12_more_5 B_X12_more_5
    refine ⟨fun h2 => absurd h2 (nI_ge (b := 16) (by omega) (by decide)), fun _ => ?_⟩
    rw [gnS_s _ _ _ _ (by omega)] at ih
    rw [e_has (by omega) (by omega)]
    simp only [y_b0, forall_eq, nI_1]
    have h8 := (hW.2.2.1 c (by omega)).1
    by_cases h1 : p.testBit c = true
    · rw [pr1' h1]
      rw [if_pos h1] at ih
      simp only [shm]
      rw [show (43 : Int32) = nI 43 from rfl, nI_add, nI_clamp (by omega), MR_p hM (by omega) (by omega) (by omega)]
      refine ⟨v131 (by omega), ?_⟩
      rw [nI_eq (by omega) (by omega)]
      refine ⟨fun e => ?_, fun e => ?_⟩
      · rw [if_neg e] at ih; exact ih
      · rw [if_pos e] at ih; exact ih
    · rw [pr0' h1]
      rw [if_neg h1] at ih
      exact ih
theorem gnS_0 (P : Nat → Nat) (v p : Nat) : gnS P v p 0 = 0 := by unfold gnS; simp only [pcS]; decide
theorem e_moM {μ : xM} {ρ : Nat → Nat} {σ : Int32} {v p : Nat} (hM : MR (μ.1 105) ρ σ) (hW : WF ρ) (hv : v < 8) (hp : p < 65536) {Q : Int32 → xM → Prop} (hQ : Q (gnS (fun c => ρ (43 + c)) v p 16) μ) : p_X12_more 104 (nI p) (nI v) μ Q := by
  unfold p_X12_more
  have := l_moM hM hW hv hp hQ 16 0 rfl
  rw [gnS_0] at this
  exact ⟨17, this⟩
/-- the gain of shift s of block k -/
def gnK (ρ : Nat → Nat) (k s : Nat) : Int32 := gnS (fun c => ρ (43 + c)) (ρ (2 + 7 * k)) (mvN (ρ (4 + 7 * k)) (s % 7) (s / 7)) 16
def ftB (ρ : Nat → Nat) (k : Nat) : Nat → Nat × Int32
  | 0 => (0, -17)
  | s + 1 => if gnK ρ k s ≤ (ftB ρ k s).2 then ftB ρ k s else (s, gnK ρ k s)
theorem ftB_le (ρ : Nat → Nat) (k : Nat) : ∀ s, (ftB ρ k s).1 ≤ s
  | 0 => Nat.le_refl _
  | s + 1 => by
    have := ftB_le ρ k s
    simp only [ftB]
    split
    · omega
    · exact Nat.le_succ s
theorem l_ft97 {ρ : Nat → Nat} {k y : Nat} (w : Int32) (hA : ρ (4 + 7 * k) < 65536) (hy : y < 7) {μ : xM} {K : Int32 → Int32 → Int32 → xM → Prop} (hK : K (nI ((ftB ρ k (7 * y + 7)).1 % 7) - 3) (nI ((ftB ρ k (7 * y + 7)).1 / 7) - 3) (ftB ρ k (7 * y + 7)).2 μ) : ∀ d x, x + d = 7 → L_X11_fit_97 (nI (ρ (4 + 7 * k))) (nI (alS (fun c => ρ (43 + c)) (ρ (2 + 7 * k)) 16)) w (nI y - 3) (d + 1) (nI x - 3) (ftB ρ k (7 * y + x)).2 (nI ((ftB ρ k (7 * y + x)).1 / 7) - 3) (nI ((ftB ρ k (7 * y + x)).1 % 7) - 3) μ K
  | 0, x, h => by
    obtain rfl : x = 7 := by omega
    unfold L_X11_fit_97 B_X11_fit_97
    exact ⟨fun _ => hK, fun h => absurd (by decide) h⟩
  | d + 1, x, h => by
    have ih := l_ft97 w hA hy hK d (x + 1) (by omega)
    unfold L_X11_fit_97 B_X11_fit_97
    have hx7 : x < 7 := by omega
    have hgt : ∀ x, x < 7 → ¬ (3 : Int32) < nI x - 3 := by decide +kernel
    refine ⟨fun h2 => absurd h2 (hgt x hx7), fun _ => ?_⟩
    refine e_mvX hA hx7 hy ?_
    refine e_gain (mvN_lt _ _ _) ?_
    have hg : gnS (fun c => ρ (43 + c)) (ρ (2 + 7 * k)) (mvN (ρ (4 + 7 * k)) x y) 16 = gnK ρ k (7 * y + x) := by
      unfold gnK
      rw [show (7 * y + x) % 7 = x by omega, show (7 * y + x) / 7 = y by omega]
    rw [hg]
    have hn : nI x - 3 + 1 = nI (x + 1) - 3 := by rw [← nI_1]; grind
    simp only [forall_eq, hn]
    rw [← Nat.add_assoc] at ih
    simp only [ftB] at ih
    refine ⟨fun e => ?_, fun e => ?_⟩
    · simp only [if_pos e] at ih; exact ih
    · simp only [if_neg e] at ih
      rw [show (7 * y + x) % 7 = x by omega, show (7 * y + x) / 7 = y by omega] at ih
      exact ih
theorem l_ft87 {ρ : Nat → Nat} {k : Nat} (w : Int32) (hA : ρ (4 + 7 * k) < 65536) {μ : xM} {K : Int32 → Int32 → Int32 → xM → Prop} (hK : K (nI ((ftB ρ k 49).1 % 7) - 3) (nI ((ftB ρ k 49).1 / 7) - 3) (ftB ρ k 49).2 μ) : ∀ d y, y + d = 7 → L_X11_fit_87 (nI (ρ (4 + 7 * k))) (nI (alS (fun c => ρ (43 + c)) (ρ (2 + 7 * k)) 16)) w (d + 1) (nI y - 3) (ftB ρ k (7 * y)).2 (nI ((ftB ρ k (7 * y)).1 / 7) - 3) (nI ((ftB ρ k (7 * y)).1 % 7) - 3) μ K
  | 0, y, h => by
    obtain rfl : y = 7 := by omega
    unfold L_X11_fit_87 B_X11_fit_87
    exact ⟨fun _ => hK, fun h => absurd (by decide) h⟩
  | d + 1, y, h => by
    have ih := l_ft87 w hA hK d (y + 1) (by omega)
    unfold L_X11_fit_87 B_X11_fit_87
    have hy7 : y < 7 := by omega
    have hgt : ∀ x, x < 7 → ¬ (3 : Int32) < nI x - 3 := by decide +kernel
    refine ⟨fun h2 => absurd h2 (hgt y hy7), fun _ => ⟨8, ?_⟩⟩
    refine l_ft97 w hA hy7 ?_ 7 0 rfl
    have hn : nI y - 3 + 1 = nI (y + 1) - 3 := by rw [← nI_1]; grind
    simp only [forall_eq, hn]
    exact ih
theorem e_ft87 {ρ : Nat → Nat} {k : Nat} (w : Int32) (hA : ρ (4 + 7 * k) < 65536) {μ : xM} {K : Int32 → Int32 → Int32 → xM → Prop} (hK : K (nI ((ftB ρ k 49).1 % 7) - 3) (nI ((ftB ρ k 49).1 / 7) - 3) (ftB ρ k 49).2 μ) : L_X11_fit_87 (nI (ρ (4 + 7 * k))) (nI (alS (fun c => ρ (43 + c)) (ρ (2 + 7 * k)) 16)) w 8 (-3) (-17) (-3) (-3) μ K := by
  have z := l_ft87 w hA hK 7 0 rfl
  simp only [Nat.mul_zero, ftB, Nat.zero_div, Nat.zero_mod, show nI 0 - 3 = (-3 : Int32) by decide] at z
  exact z
theorem l_ftM {μ : xM} {ρ : Nat → Nat} {σ : Int32} {k : Nat} (w : Int32) (hM : MR (μ.1 105) ρ σ) (hW : WF ρ) (hk : k < ρ 0) {K : Int32 → Int32 → xM → Prop} (hK : K (nI (ftB ρ k 49).1) (ftB ρ k 49).2 μ) : ∀ d s, s + d = 49 → L_X12_fit_33 104 (nI k) w (d + 1) (nI s) (ftB ρ k s).2 (nI (ftB ρ k s).1) μ K
  | 0, s, h => by
    obtain rfl : s = 49 := by omega
    unfold L_X12_fit_33 B_X12_fit_33
    exact ⟨fun _ => hK, fun h => absurd (by decide) h⟩
  | d + 1, s, h => by
    have ih := l_ftM w hM hW hk hK d (s + 1) (by omega)
    unfold L_X12_fit_33 B_X12_fit_33
    have h6 := hW.1
    have hk6 : k < 6 := by omega
    obtain ⟨m1, m2, m3, m4, m5, m6, m7⟩ := MR_k hM hk6
    obtain ⟨b1, b2, b3, b4, b5⟩ := hW.2.1 k hk
    refine ⟨fun h2 => absurd h2 (nI_ge (b := 49) (by omega) (by decide)), fun _ => ?_⟩
    have o : ∀ {Q : Int32 → xM → Prop} (j : Nat), j < 7 → (p_X12_ofBlock 104 (nI k) (nI j) μ Q ↔ Q (μ.1 105 (1 + j + 7 * k)) μ) := fun j hj => e_ofB hk6 hj
    rw [show (3 : Int32) = nI 3 from rfl, o 3 (by decide), ← show (3 : Int32) = nI 3 from rfl, show 1 + 3 + 7 * k = 4 + 7 * k by omega, m4, show (7 : Int32) = nI 7 from rfl, pk_rem (by omega) (by decide) (by decide), pk_div (by omega) (by decide) (by decide)]
    refine e_mvM b4.2 (Nat.mod_lt _ (by decide)) (by omega) ?_
    rw [show (1 : Int32) = nI 1 from rfl, o 1 (by decide), show 1 + 1 + 7 * k = 2 + 7 * k by omega, m2]
    refine e_moM hM hW b2.2 (mvN_lt _ _ _) ?_
    show _ ∧ _
    have hg : gnS (fun c => ρ (43 + c)) (ρ (2 + 7 * k)) (mvN (ρ (4 + 7 * k)) (s % 7) (s / 7)) 16 = gnK ρ k s := rfl
    rw [hg]
    simp only [forall_eq, nI_add]
    simp only [ftB] at ih
    refine ⟨fun e => ⟨fun _ => ?_, fun h => absurd e h⟩, fun e => ⟨fun h => absurd h e, fun _ => ?_⟩⟩
    · simp only [if_pos e] at ih; exact ih
    · simp only [if_neg e] at ih; exact ih
theorem op_fit {μ : xM} {t : Nat} (hI : Inv t μ) (a b : Int32) : p_X11_fit 0 a b μ (fun r1 μ1 => p_X12_fit 104 a b μ1 (fun r2 μ2 => r1 = r2 ∧ Inv (t + 1) μ2)) := by
  obtain ⟨ρ, σ, h, Hρ, Hσ, cc, L, T, hw, hx, hm⟩ := hI
  have h6 := hw.1.1
  have hid := inv_id hw hx hm
  have h0 : μ.1 2 0 = nI (ρ 0) := hx.1.1.1
  have z := e_refM0 (μ := xi μ 0 5 (μ.1 0 5 + 1)) (Q := fun r2 μ2 => -2 = r2 ∧ Inv (t + 1) μ2) ⟨rfl, inv_ref (j := 0) (by decide) hw hx hm fr_rf⟩
  have k0 : (xi μ 0 5 (μ.1 0 5 + 1)).1 105 0 = nI (ρ 0) := by rw [y_xin (by decide)]; exact MR_0 hm.1
  unfold p_X11_fit p_X12_fit
  simp only [shp, e_hasX, e_within, y_b0, h0]
  by_cases g1 : isB a (nI (ρ 0))
  case neg =>
    rw [pr0 g1]
    refine e_refX0 ?_
    rw [e_isBlk k0 h6]
    simp only [y_b0]
    rw [pr0 g1]
    exact z
  rw [pr1 g1]
  by_cases g2 : inR b 0 2
  case neg =>
    rw [pr0' g2]
    refine e_refX0 ?_
    rw [e_isBlk k0 h6]
    simp only [y_b0, e_in]
    rw [pr1 g1, pr0' g2]
    exact z
  rw [pr1' g2]
  obtain ⟨k, hk, rfl⟩ := isB_of h6 g1
  have hk6 : k < 6 := by omega
  obtain ⟨q1, q2, q3, q4, q5⟩ := hx.1.1.2 k hk
  obtain ⟨b1, b2, b3, b4, b5⟩ := hw.1.2.1 k hk
  rw [e_at (by simp only [shl]; exact hk6) (by decide +kernel), show (4 : Nat) = 1 + 3 from rfl, q2, hx.1.2.2]
  refine e_alX (fun i hi => Nat.lt_trans (hw.1.2.2.1 i hi).1 (by decide)) (by omega) ?_
  rw [e_at (by simp only [shl]; exact hk6) (by decide +kernel), show (6 : Nat) = 1 + 5 from rfl, q4]
  have hl : (ftB ρ k 49).1 < 2 ^ 31 := Nat.lt_of_le_of_lt (ftB_le ρ k 49) (by decide)
  have hMM : ∀ {Q : Int32 → xM → Prop}, ((¬ b = (0 : Int32) → ((¬ b = (1 : Int32) → Q ((ftB ρ k 49).2 + 16) μ) ∧ (b = (1 : Int32) → Q (nI ((ftB ρ k 49).1 / 7)) μ))) ∧ (b = (0 : Int32) → Q (nI ((ftB ρ k 49).1 % 7)) μ)) → p_X12_isBlock 104 (nI k) μ (fun r2 μ1 => ((r2 = (0 : Int32) → (p_X12_refuses 104 (-2 : Int32) μ1 (fun r5 μ4 => Q r5 μ4))) ∧ (¬ r2 = (0 : Int32) → (p_X12_in b (0 : Int32) (2 : Int32) μ1 (fun r7 μ6 => ((¬ r7 = (0 : Int32) → (∃ n15 : Nat, L_X12_fit_33 104 (nI k) b n15 (0 : Int32) (-17 : Int32) (0 : Int32) μ6 (fun a40 a41 μ42 => ((¬ b = (0 : Int32) → ((¬ b = (1 : Int32) → Q (a41 + (16 : Int32)) μ42) ∧ (b = (1 : Int32) → Q (a40 / (7 : Int32)) μ42))) ∧ (b = (0 : Int32) → Q (a40 - a40 / (7 : Int32) * (7 : Int32)) μ42))))) ∧ (r7 = (0 : Int32) → (p_X12_refuses 104 (-2 : Int32) μ6 (fun r46 μ45 => Q r46 μ45))))))))) := by
    intro Q hQ
    rw [e_isBlk (MR_0 hm.1) h6]
    simp only [y_b0, e_in]
    rw [pr1 g1, pr1' g2]
    refine ⟨50, l_ftM b hm.1 hw.1 hk ?_ 49 0 rfl⟩
    rw [show (7 : Int32) = nI 7 from rfl, pk_rem hl (by decide) (by decide), pk_div hl (by decide) (by decide)]
    exact hQ
  refine ⟨8, e_ft87 b b4.2 ?_⟩
  simp only [m33]
  refine ⟨fun e2 => ⟨fun e0 => ?_, fun e0 => ?_⟩, fun e2 => ?_⟩
  · refine hMM ⟨fun _ => ⟨fun e1 => ?_, fun _ => ⟨rfl, hid⟩⟩, fun e => absurd e e0⟩
    exfalso
    obtain ⟨w, hw2, rfl⟩ := i_of (m := 2) (by decide) g2.1 g2.2
    rcases (show w = 0 ∨ w = 1 ∨ w = 2 by omega) with rfl | rfl | rfl
    · exact e0 rfl
    · exact e1 rfl
    · exact e2 rfl
  · exact hMM ⟨fun e => absurd e0 e, fun _ => ⟨rfl, hid⟩⟩
  · refine hMM ⟨fun _ => ⟨fun _ => ⟨rfl, hid⟩, fun e => ?_⟩, fun e => ?_⟩
    · rw [e2] at e; exact absurd e (by decide)
    · rw [e2] at e; exact absurd e (by decide)
