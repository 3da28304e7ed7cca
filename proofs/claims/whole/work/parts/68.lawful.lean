/-! lawful -/
def wyT (ρ : Nat → Nat) (n : Nat) : Nat → Nat → Nat
  | 0 => v0w
  | i + 1 => up1 (wyT ρ n i) (i + 1) (wsm ρ n (wyT ρ n i) (i + 1))
theorem wyT_st (ρ : Nat → Nat) (n s : Nat) : ∀ d, wyT ρ n (s + d) s = wyT ρ n s s
  | 0 => rfl
  | d + 1 => by
    rw [show s + (d + 1) = s + d + 1 by omega]
    simp only [wyT]
    rw [up1_n (by omega), wyT_st ρ n s d]
theorem wyT_st' (ρ : Nat → Nat) (n : Nat) {s i : Nat} (h : s ≤ i) : wyT ρ n i s = wyT ρ n s s := by
  obtain ⟨d, rfl⟩ := Nat.exists_eq_add_of_le h
  exact wyT_st ρ n s d
theorem ndf_2 {s k : Nat} : ndf s (2 ^ k) = s ↔ s.testBit k = false := by
  constructor
  · intro h
    have := ndf_bit s (2 ^ k) k
    rw [h, Nat.testBit_two_pow_self] at this
    cases hb : s.testBit k
    · rfl
    · rw [hb] at this; simp at this
  · intro h
    apply Nat.eq_of_testBit_eq
    intro i
    rw [ndf_bit, Nat.testBit_two_pow]
    by_cases e : k = i
    · subst e; simp [h]
    · simp [e]
theorem ndf_l2 {s k : Nat} (h : s.testBit k = true) : ndf s (2 ^ k) < s := by
  have h1 := ndf_le s (2 ^ k)
  have h2 : ndf s (2 ^ k) ≠ s := fun e => by rw [ndf_2.mp e] at h; exact absurd h (by decide)
  omega
theorem wsm_ext {ρ : Nat → Nat} {n s : Nat} {w v : Nat → Nat} (h : ∀ x, x < s → w x = v x) : wsm ρ n w s = wsm ρ n v s := by
  unfold wsm
  apply sm_ext
  intro k _
  by_cases h1 : s.testBit k = true
  · rw [h _ (ndf_l2 h1)]
  · have h1' : s.testBit k = false := by simpa using h1
    simp [h1']
theorem wyT_eq (ρ : Nat → Nat) (n m : Nat) {s : Nat} (h0 : 0 < s) (h : s ≤ m) : wyT ρ n m s = wsm ρ n (wyT ρ n m) s := by
  rw [wyT_st' ρ n h]
  obtain ⟨j, rfl⟩ : ∃ j, s = j + 1 := ⟨s - 1, by omega⟩
  simp only [wyT]
  rw [up1_s]
  exact wsm_ext (fun x hx => by rw [wyT_st' ρ n (show x ≤ j by omega), wyT_st' ρ n (show x ≤ m by omega)])
theorem l_wyX {μ : xM} {ρ : Nat → Nat} {σ : Int32} {s : Nat} {w : Nat → Nat} (hR : Rep μ 1 ρ σ) (hW : WF ρ) (hs : s < 64) (hw : ∀ x, x < s → μ.1 99 x = nI (w x)) {K : Int32 → xM → Prop} (hK : K (nI (wsm ρ (ρ 0) w s)) μ) : ∀ d k, k + d = ρ 0 → L_X6_waysTo_4 93 (nI s) (d + 1) (nI k) (nI (wsm ρ k w s)) μ K
  | 0, k, h => by
    obtain rfl : k = ρ 0 := by omega
    unfold L_X6_waysTo_4 B_X6_waysTo_4
    have h6 := hW.1
    have h0 : μ.1 2 0 = nI (ρ 0) := hR.1.1
    simp only [shp, h0]
    exact ⟨fun _ => hK, fun h => absurd (nI_le (Nat.le_refl _) (by omega)) h⟩
  | d + 1, k, h => by
    have ih := l_wyX hR hW hs hw hK d (k + 1) (by omega)
    unfold L_X6_waysTo_4 B_X6_waysTo_4
    have h6 := hW.1
    have hk : k < ρ 0 := by omega
    have h0 : μ.1 2 0 = nI (ρ 0) := hR.1.1
    have b7 : ρ (7 + 7 * k) < 64 := (hW.2.1 _ hk).2.2.2.2.2.2
    simp only [shp, h0]
    refine ⟨fun h => absurd h (nI_ge hk (by omega)), fun _ => ?_⟩
    have e1 : nI s &&& ((1 : Int32) <<< (nI k &&& 31) ^^^ -1) = nI (ndf s (2 ^ k)) := by
      rw [show (1 : Int32) <<< (nI k &&& 31) = nI (2 ^ k) by rw [show (1 : Int32) = nI 1 from rfl, y_shl (by omega), Nat.one_mul], y_andn]
    rw [e1]
    simp only [forall_eq, nI_1]
    have hl := ndf_le s (2 ^ k)
    rw [nI_eq (by omega) (by omega), ndf_2, e_mayF hR h6 hk b7, y_b0]
    have ih' : L_X6_waysTo_4 93 (nI s) (d + 1) (nI (k + 1)) (nI (wsm ρ k w s + (if (s.testBit k && okS ρ k (ndf s (2 ^ k))) = true then w (ndf s (2 ^ k)) else 0))) μ K := ih
    refine ⟨fun hb => ?_, fun hb => ?_⟩
    · rw [hb] at ih'; simpa using ih'
    · have hb' : s.testBit k = true := by simpa using hb
      rw [hb', Bool.true_and] at ih'
      by_cases ho : ndf (ρ (7 + 7 * k)) (ndf s (2 ^ k)) = 0
      · rw [pr1 ho]
        have hlt := ndf_l2 hb'
        rw [e_at (by simp only [shl]; omega) (by decide +kernel), hw _ hlt, nI_add]
        rw [if_pos (by unfold okS; simpa using ho)] at ih'
        exact ih'
      · rw [pr0 ho]
        rw [if_neg (by unfold okS; simpa using ho), Nat.add_zero] at ih'
        exact ih'
theorem wsm_0 (ρ : Nat → Nat) (w : Nat → Nat) (s : Nat) : wsm ρ 0 w s = 0 := rfl
theorem Rep_99 {μ ν : xM} {ρ : Nat → Nat} {σ : Int32} (hf : fr (fun q => q = 99) μ ν) (hR : Rep μ 1 ρ σ) : Rep ν 1 ρ σ := Rep_fr (fun q q1 q2 => hf q (by omega)) hR
theorem l_cntX {μ : xM} {ρ : Nat → Nat} {σ : Int32} (hR : Rep μ 1 ρ σ) (hW : WF ρ) {K : xM → Prop} (hK : ∀ ν, fr (fun q => q = 99) μ ν → (∀ x, x < 2 ^ ρ 0 → ν.1 99 x = nI (wyT ρ (ρ 0) (2 ^ ρ 0 - 1) x)) → K ν) : ∀ d s ν, s + d = 2 ^ ρ 0 → 0 < s → fr (fun q => q = 99) μ ν → (∀ x, x < s → ν.1 99 x = nI (wyT ρ (ρ 0) (s - 1) x)) → L_X6_countLawful_21 (nI (2 ^ ρ 0)) 93 (d + 1) (nI s) ν K
  | 0, s, ν, h, hs, hf, hv => by
    obtain rfl : s = 2 ^ ρ 0 := by omega
    unfold L_X6_countLawful_21 B_X6_countLawful_21
    have h6 := hW.1
    have hp : 2 ^ ρ 0 ≤ 2 ^ 6 := Nat.pow_le_pow_right (by decide) h6
    exact ⟨fun _ => hK ν hf hv, fun h => absurd (nI_le (Nat.le_refl _) (by omega)) h⟩
  | d + 1, s, ν, h, hs, hf, hv => by
    have h6 := hW.1
    have hp : 2 ^ ρ 0 ≤ 2 ^ 6 := Nat.pow_le_pow_right (by decide) h6
    unfold L_X6_countLawful_21 B_X6_countLawful_21
    refine ⟨fun h => absurd h (nI_ge (by omega) (by omega)), fun _ => ?_⟩
    unfold p_X6_waysTo
    refine ⟨ρ 0 + 1, l_wyX (w := wyT ρ (ρ 0) (s - 1)) (Rep_99 hf hR) hW (by omega) hv ?_ (ρ 0) 0 (by omega)⟩
    simp only [shp]
    rw [e_put (by simp only [shl]; omega) (by decide +kernel)]
    simp only [forall_eq, nI_1]
    refine l_cntX hR hW hK d (s + 1) _ (by omega) (by omega) (fr_tr hf (fr_xi rfl)) ?_
    intro x hx
    obtain ⟨j, rfl⟩ : ∃ j, s = j + 1 := ⟨s - 1, by omega⟩
    rw [y_xi, show j + 1 + 1 - 1 = j + 1 by omega, show j + 1 - 1 = j by omega]
    rw [wyT]
    by_cases e : x = j + 1
    · rw [if_pos ⟨rfl, e⟩, e, up1_s]
    · rw [if_neg (fun h => e h.2), up1_n e, hv x (by omega), show j + 1 - 1 = j by omega]
theorem e_cntX {μ : xM} {ρ : Nat → Nat} {σ : Int32} (hR : Rep μ 1 ρ σ) (hW : WF ρ) {Q : Int32 → xM → Prop} (hQ : ∀ ν, fr (fun q => q = 99) μ ν → Q (nI (LV ρ (ρ 0)).length) ν) : p_X6_countLawful 93 μ Q := by
  unfold p_X6_countLawful
  have h6 := hW.1
  have h0 : μ.1 2 0 = nI (ρ 0) := hR.1.1
  have hp : 2 ^ ρ 0 ≤ 2 ^ 6 := Nat.pow_le_pow_right (by decide) h6
  have hp0 : 0 < 2 ^ ρ 0 := Nat.two_pow_pos _
  simp only [shp, h0, forall_eq]
  rw [show (1 : Int32) = nI 1 from rfl, y_shl (by omega), Nat.one_mul, show (0 : Int32) = nI 0 from rfl, e_put (by simp only [shl]; omega) (by decide +kernel)]
  refine ⟨2 ^ ρ 0 - 1 + 1, l_cntX (μ := μ) hR hW ?_ (2 ^ ρ 0 - 1) 1 _ (by omega) (by decide) (fr_xi rfl) ?_⟩
  · intro ν F hv
    rw [pk_sub (by omega), e_at (by simp only [shl]; omega) (by decide +kernel), hv _ (by omega)]
    rw [ways_LV h6 (w := wyT ρ (ρ 0) (2 ^ ρ 0 - 1)) (by rw [wyT_st' ρ _ (Nat.zero_le _)]; rfl) (fun s s0 s1 => wyT_eq ρ _ _ s0 (by omega))]
    exact hQ ν F
  · intro x hx
    obtain rfl : x = 0 := by omega
    rw [y_xi, if_pos ⟨rfl, rfl⟩]
    rfl
/-! the reference's count -/
theorem l_lawM {μ : xM} {ρ : Nat → Nat} {σ : Int32} (hM : MR (μ.1 105) ρ σ) (hW : WF ρ) {K : Int32 → xM → Prop} : ∀ l a c ν, fr (fun q => q = 111) μ ν → OR ν (ρ 0) a → (∀ i, i < ρ 0 → a i < ρ 0) → ckh (ρ 0) l a = true → (∀ κ, fr (fun q => q = 111) μ κ → K (nI (c + ((a :: l).filter (fun p => lwf ρ p (ρ 0))).length)) κ) → L_X12_lawful_8 104 (l.length + 2) 1 (nI c) ν K := by
  intro l
  induction l with
  | nil =>
    intro a c ν F ho hb hc hK
    unfold L_X12_lawful_8 B_X12_lawful_8
    have hM2 : MR (ν.1 105) ρ σ := by rw [(F 105 (by decide)).1]; exact hM
    have hc' : nxB (ρ 0) a = false := by simpa [ckh] using hc
    refine ⟨fun h => absurd h (by decide), fun _ => e_isL hM2 hW ho hb ?_⟩
    rw [y_b0]
    simp only [forall_eq, add0, nI_1]
    have fin : ∀ x, K (nI x) ν → L_X12_lawful_8 104 1 0 (nI x) ν K := by
      intro x hx
      unfold L_X12_lawful_8 B_X12_lawful_8
      exact ⟨fun _ => hx, fun h => absurd rfl h⟩
    have hk := hK ν F
    by_cases g : lwf ρ a (ρ 0) = true
    · rw [pr1 g]
      rw [List.filter_cons, if_pos g] at hk
      exact e_goes hW.1 (MR_0 hM2) ho hb (fun _ => fin _ hk) (fun h => absurd h (by rw [hc']; decide))
    · rw [pr0 g]
      rw [List.filter_cons, if_neg g] at hk
      exact e_goes hW.1 (MR_0 hM2) ho hb (fun _ => fin _ hk) (fun h => absurd h (by rw [hc']; decide))
  | cons b l ih =>
    intro a c ν F ho hb hc hK
    have hM2 : MR (ν.1 105) ρ σ := by rw [(F 105 (by decide)).1]; exact hM
    simp only [ckh, Bool.and_eq_true] at hc
    have hag := agr_ok _ hc.1.2
    rw [show (b :: l).length + 2 = (l.length + 2) + 1 from rfl]
    unfold L_X12_lawful_8 B_X12_lawful_8
    refine ⟨fun h => absurd h (by decide), fun _ => e_isL hM2 hW ho hb ?_⟩
    rw [y_b0]
    simp only [forall_eq, add0, nI_1]
    by_cases g : lwf ρ a (ρ 0) = true
    · rw [pr1 g]
      refine e_goes hW.1 (MR_0 hM2) ho hb (fun h => absurd hc.1.1 (by rw [h]; decide)) (fun _ κ F2 o2 => ?_)
      refine ih b (c + 1) κ (fr_tr F F2) (fun i hi => by rw [o2 i hi, (hag i hi).1]) (fun i hi => (hag i hi).2) hc.2 (fun κ2 F3 => ?_)
      have := hK κ2 F3
      rw [List.filter_cons, if_pos g, List.length_cons, show ∀ x, c + (x + 1) = c + 1 + x by omega] at this
      exact this
    · rw [pr0 g]
      refine e_goes hW.1 (MR_0 hM2) ho hb (fun h => absurd hc.1.1 (by rw [h]; decide)) (fun _ κ F2 o2 => ?_)
      refine ih b c κ (fr_tr F F2) (fun i hi => by rw [o2 i hi, (hag i hi).1]) (fun i hi => (hag i hi).2) hc.2 (fun κ2 F3 => ?_)
      have := hK κ2 F3
      rw [List.filter_cons, if_neg g] at this
      exact this
theorem e_lawM {μ : xM} {ρ : Nat → Nat} {σ : Int32} (hM : MR (μ.1 105) ρ σ) (hW : WF ρ) {Q : Int32 → xM → Prop} (hQ : ∀ ν, fr (fun q => q = 111 ∨ q = 113) μ ν → Q (nI (LV ρ (ρ 0)).length) ν) : p_X12_lawful 104 μ Q := by
  unfold p_X12_lawful
  refine e_begin hM hW (fun ν F o P => ?_)
  obtain ⟨a, l, e1, e2, e3, e4⟩ := ck_n hW.1
  refine ⟨l.length + 2, ?_⟩
  have hM2 : MR (ν.1 105) ρ σ := by rw [(F 105 (by decide)).1]; exact hM
  refine l_lawM hM2 hW l a 0 ν fr_rf (fun i hi => by rw [o i (by have := hW.1; omega), e2 i hi]) (fun i hi => by rw [e2 i hi]; exact hi) e3 (fun κ F2 => ?_)
  rw [Nat.zero_add, ← e1, ← LV_fil]
  exact hQ κ (fr_tr F (fr_mono F2 (fun q h => Or.inl h)))
theorem scr_of {μ ν : xM} {P : Nat → Prop} (h : ∀ q, P q → 109 ≤ q ∧ q ≠ 117) (hf : fr P μ ν) : scr μ ν := ⟨fr_mono hf (fun q hq => Or.inr (Or.inr (h q hq))), by rw [(hf 104 (fun hp => by have := h 104 hp; omega)).1], by rw [(hf 104 (fun hp => by have := h 104 hp; omega)).1]⟩
theorem CX_99 {μ ν : xM} {t : Nat} {ρ : Nat → Nat} {σ : Int32} {h : Nat} {Hρ : Nat → Nat → Nat} {Hσ : Nat → Int32} {c : Nat → Int32} {L : Nat} {T : Nat → Nat} (hf : fr (fun q => q = 93 ∨ q = 94 ∨ q = 96 ∨ q = 97 ∨ q = 99) μ ν) (hx : CX μ t ρ σ h Hρ Hσ c L T) : CX ν t ρ σ h Hρ Hσ c L T := by
  obtain ⟨h1, h2, h3, h4, h5⟩ := hx
  refine ⟨Rep_fr (fun q q1 q2 => hf q (by omega)) h1, CH_fr (fun q q1 q2 => hf q (by omega)) h2, ?_, ?_, iSet_fr (hf 95 (by decide)).1 (hf 98 (by decide)).1 h5⟩
  · rw [(hf 0 (by decide)).1]; exact h3
  · rw [(hf 100 (by decide)).1, (hf 101 (by decide)).1]; exact h4
theorem op_lawful {μ : xM} {t : Nat} (hI : Inv t μ) : p_X11_lawful 0 μ (fun r1 μ1 => p_X12_lawful 104 μ1 (fun r2 μ2 => r1 = r2 ∧ Inv (t + 1) μ2)) := by
  obtain ⟨ρ, σ, h, Hρ, Hσ, cc, L, T, hw, hx, hm⟩ := hI
  unfold p_X11_lawful
  simp only [shp]
  refine e_cntX hx.1 hw.1 (fun ν F => ?_)
  have hm2 := CM_fr (fr_lo (fun q h => by omega) F) hm
  have hx2 := CX_99 (fr_mono F (fun q h => by omega)) hx
  refine e_lawM hm2.1 hw.1 (fun κ F2 => ⟨rfl, ?_⟩)
  have hs : scr ν κ := scr_of (fun q h => by omega) F2
  exact inv_id hw (CX_scr hs hx2) (CM_scr hs hm2)
