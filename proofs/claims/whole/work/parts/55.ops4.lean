/-! behind -/
theorem WF_beh {ρ : Nat → Nat} {k v : Nat} (hw : WF ρ) (hk : k < ρ 0) (hv : v < 64) : WF (up1 ρ (7 + 7 * k) v) := by
  obtain ⟨h1, h2, h3, h4, h5, h6, h7⟩ := hw
  have g : ∀ i, 43 ≤ i → up1 ρ (7 + 7 * k) v i = ρ i := fun i hi => up1_n (by omega)
  have g0 : up1 ρ (7 + 7 * k) v 0 = ρ 0 := up1_n (by omega)
  refine ⟨by rw [g0]; exact h1, fun j hj => ?_, fun c hc => ?_, ?_, ?_, ?_, fun i hi => ?_⟩
  · rw [g0] at hj
    have := h2 j hj
    unfold WB at this ⊢
    rw [up1_n (i := 1 + 7 * j) (by omega), up1_n (i := 2 + 7 * j) (by omega), up1_n (i := 3 + 7 * j) (by omega), up1_n (i := 4 + 7 * j) (by omega), up1_n (i := 5 + 7 * j) (by omega), up1_n (i := 6 + 7 * j) (by omega)]
    refine ⟨this.1, this.2.1, this.2.2.1, this.2.2.2.1, this.2.2.2.2.1, this.2.2.2.2.2.1, ?_⟩
    by_cases e : j = k
    · subst e; rw [up1_s]; exact hv
    · rw [up1_n (by omega)]; exact this.2.2.2.2.2.2
  · rw [g _ (by omega), g _ (by omega), g _ (by omega)]; exact h3 c hc
  · rw [g _ (by omega)]; exact h4
  · rw [g _ (by omega)]; exact h5
  · rw [g 92 (by omega), g 93 (by omega)]; exact h6
  · rw [g 93 (by omega)] at hi
    rw [g (95 + 3 * i) (by omega), g (96 + 3 * i) (by omega), g (97 + 3 * i) (by omega), g 92 (by omega), g0]
    exact h7 i hi
def bhv (o b s : Nat) : Nat := ndf o (2 ^ b) ||| s * 2 ^ b
theorem bhv_lt {o b s : Nat} (ho : o < 64) (hb : b < 6) (hs : s < 2) : bhv o b s < 64 := by
  unfold bhv
  apply Nat.or_lt_two_pow (n := 6) (ndf_lt (n := 6) ho)
  have : 2 ^ b ≤ 2 ^ 5 := Nat.pow_le_pow_right (by decide) (by omega)
  rcases (show s = 0 ∨ s = 1 by omega) with rfl | rfl <;> omega
theorem bhv_i {o b s : Nat} (hb : b < 6) : (nI o &&& ((1 : Int32) <<< (nI b &&& 31) ^^^ -1)) ||| (nI s <<< (nI b &&& 31)) = nI (bhv o b s) := by
  rw [show (1 : Int32) = nI 1 from rfl, y_shl (by omega), y_shl (by omega), Nat.one_mul, show (-nI 1 : Int32) = -1 from rfl, y_andn, y_or]
  rfl
theorem e_behX {μ : xM} {ρ : Nat → Nat} {σ : Int32} {a b s : Nat} (hR : Rep μ 1 ρ σ) (hw : WF ρ) (ha : a < ρ 0) (hb : b < 6) {Q : Int32 → xM → Prop} (hQ : ∀ ν, fr (fun q => 2 ≤ q ∧ q ≤ 10) μ ν → Rep ν 1 (up1 ρ (7 + 7 * a) (bhv (ρ (7 + 7 * a)) b s)) σ → Q (nI (bN ((ρ (7 + 7 * a)).testBit b))) ν) : p_X0_tellBehind 2 (nI a) (nI b) (nI s) μ Q := by
  obtain ⟨⟨h1, h2⟩, h3, h4⟩ := hR
  have h6 := hw.1
  have hkk : μ.1 10 a = nI (ρ (7 + 7 * a)) := (h2 a ha).2.2.2.2.2.2.2
  have hB := (hw.2.1 a ha).2.2.2.2.2.2
  unfold p_X0_tellBehind
  simp only [shp]
  rw [e_at (by simp only [shl]; omega) (by decide +kernel), hkk, e_put (by simp only [shl]; omega) (by decide +kernel), bhv_i hb, y_ubit (by omega) (by omega)]
  have F : fr (fun q => 2 ≤ q ∧ q ≤ 10) μ (xi μ 10 a (nI (bhv (ρ (7 + 7 * a)) b s))) := fr_xi (by omega)
  refine hQ _ F ⟨⟨?_, fun j hj => ?_⟩, RH_ext (fun q q1 q2 => F q (by omega)) (fun i hi => up1_n (by omega)) h3, ?_⟩
  · rw [up1_n (by omega), y_xi, if_neg (by omega)]; exact h1
  · rw [up1_n (by omega)] at hj
    have hjj := h2 j hj
    unfold RBk plc at hjj ⊢
    rw [up1_n (i := 1 + 7 * j) (by omega), up1_n (i := 2 + 7 * j) (by omega), up1_n (i := 3 + 7 * j) (by omega), up1_n (i := 4 + 7 * j) (by omega), up1_n (i := 5 + 7 * j) (by omega), up1_n (i := 6 + 7 * j) (by omega)]
    obtain ⟨q1, q2, q3, q4, q5, q6, q7, q8⟩ := hjj
    refine ⟨?_, ?_, ?_, ?_, ?_, ?_, ?_, ?_⟩
    · rw [y_xi, if_neg (by omega)]; exact q1
    · rw [y_xi, if_neg (by omega)]; exact q2
    · rw [y_xi, if_neg (by omega)]; exact q3
    · rw [y_xi, if_neg (by omega)]; exact q4
    · rw [y_xi, if_neg (by omega)]; exact q5
    · rw [y_xi, if_neg (by omega)]; exact q6
    · rw [y_xi, if_neg (by omega)]; exact q7
    · by_cases e : j = a
      · subst e
        rw [up1_s, y_xi, if_pos ⟨rfl, rfl⟩]
      · rw [up1_n (by omega), y_xi, if_neg (by omega)]; exact q8
  · have e1 : (fun i => up1 ρ (7 + 7 * a) (bhv (ρ (7 + 7 * a)) b s) (43 + i)) = fun i => ρ (43 + i) := by funext i; exact up1_n (by omega)
    rw [e1, (F 1 (by omega)).2]
    exact h4
abbrev vBeh (a b s : Int32) (n : Nat) : Prop := (isB a (nI n) ∧ isB b (nI n) ∧ ¬ a = b) ∧ inR s 0 1
theorem e_doBeh {μ : xM} {ρ : Nat → Nat} {σ : Int32} {a b s : Int32} (hM : MR (μ.1 105) ρ σ) (hw : WF ρ) {Q : Int32 → xM → Prop} (h1 : ¬ vBeh a b s (ρ 0) → Q (-2) μ) (h2 : vBeh a b s (ρ 0) → ∀ a2 b2 s2, a = nI a2 → b = nI b2 → s = nI s2 → a2 < ρ 0 → b2 < ρ 0 → s2 < 2 → ∀ ν, fr (fun q => q = 105) μ ν → MR (ν.1 105) (up1 ρ (7 + 7 * a2) (bhv (ρ (7 + 7 * a2)) b2 s2)) σ → Q (nI (bN ((ρ (7 + 7 * a2)).testBit b2))) ν) : p_X12_doBehind 104 a b s μ Q := by
  unfold p_X12_doBehind
  have h6 := hw.1
  rw [e_isBlk (MR_0 hM) h6]
  simp only [y_b0]
  by_cases g1 : isB a (nI (ρ 0))
  case neg => rw [pr0 g1]; exact h1 (fun h => g1 h.1.1)
  rw [pr1 g1, e_isBlk (MR_0 hM) h6]
  simp only [y_b0]
  by_cases g2 : isB b (nI (ρ 0))
  case neg => rw [pr0 g2]; exact h1 (fun h => g2 h.1.2.1)
  rw [pr1 g2]
  refine ⟨fun e => h1 (fun h => h.1.2.2 e), fun g3 => ?_⟩
  simp only [e_in, y_b0, shm]
  by_cases g4 : inR s 0 1
  case neg => rw [pr0' g4]; exact h1 (fun h => g4 h.2)
  rw [pr1' g4]
  obtain ⟨a2, ha, rfl⟩ := isB_of h6 g1
  obtain ⟨b2, hb, rfl⟩ := isB_of h6 g2
  obtain ⟨s2, hs, rfl⟩ := i_of (m := 1) (by decide) g4.1 g4.2
  intro v11 e11
  rw [show (1 : Int32) = nI 1 from rfl, show (7 : Int32) = nI 7 from rfl, show (6 : Int32) = nI 6 from rfl, pk_mul, nI_add, nI_add, show 1 + 7 * a2 + 6 = 7 + 7 * a2 by omega] at e11
  rw [e11, nI_clamp (by omega)]
  have hk : μ.1 105 (7 + 7 * a2) = nI (ρ (7 + 7 * a2)) := (MR_k hM (show a2 < 6 by omega)).2.2.2.2.2.2
  have hB := (hw.2.1 a2 ha).2.2.2.2.2.2
  rw [hk, y_sbit (by omega) (by omega), bhv_i (by omega)]
  refine ⟨v131 (by omega), fun v12 e12 => ⟨v131 (by omega), v131 (by omega), fun μ2 e2 => ?_⟩⟩
  rw [e12]
  refine h2 ⟨⟨g1, g2, g3⟩, g4⟩ a2 b2 s2 rfl rfl rfl ha hb (by omega) μ2 (by rw [e2]; exact fr_xi rfl) ⟨?_, fun i i1 i2 => ?_⟩
  · rw [e2, y_xi, if_neg (by omega)]; exact hM.1
  · rw [e2, y_xi]
    by_cases e : i = 7 + 7 * a2
    · rw [if_pos ⟨rfl, e⟩, enc_n (by omega), e, up1_s]
    · rw [if_neg (by omega), hM.2 i i1 i2]
      unfold enc
      rw [up1_n e]
theorem op_behind {μ : xM} {t : Nat} (hI : Inv t μ) (a b s : Int32) : p_X11_behind 0 a b s μ (fun r1 μ1 => p_X12_behind 104 a b s μ1 (fun r2 μ2 => r1 = r2 ∧ Inv (t + 1) μ2)) := by
  obtain ⟨ρ, σ, h, Hρ, Hσ, cc, L, T, hw, hx, hm⟩ := hI
  have hn6 : ρ 0 ≤ 6 := hw.1.1
  have h0 : μ.1 2 0 = nI (ρ 0) := hx.1.1.1
  unfold p_X11_behind
  rw [e_whyBeh, h0]
  simp only [shp]
  by_cases hv : vBeh a b s (ρ 0)
  · rw [if_pos hv]
    refine ⟨fun _ => ?_, fun h => absurd rfl h⟩
    obtain ⟨a2, ha, ea⟩ := isB_of hn6 hv.1.1
    obtain ⟨b2, hb, eb⟩ := isB_of hn6 hv.1.2.1
    obtain ⟨s2, hs, es⟩ := i_of (m := 1) (by decide) hv.2.1 hv.2.2
    refine keepR hw.1 hx (fun μ4 f4 hc4 hr4 => ?_)
    rw [ea, eb, es]
    refine e_behX hr4 hw.1 ha (by omega) (fun ν F hr => ?_)
    have hW2 := WF_beh hw.1 ha (bhv_lt (hw.1.2.1 a2 ha).2.2.2.2.2.2 (show b2 < 6 by omega) (show s2 < 2 by omega))
    have fX : fr (fun q => q < 104 ∨ q = 106) μ ν := fr_tr (fr_mono f4 (fun q e => by omega)) (fr_mono F (fun q e => by omega))
    have hm1 := CM_fr fX hm
    unfold p_X12_behind
    refine e_hold (fun ν1 F1 hv1 => ?_)
    have m1 : MR (ν1.1 105) ρ σ := by rw [(F1 105 (by decide)).1]; exact hm1.1
    rw [← ea, ← eb, ← es]
    refine e_doBeh m1 hw.1 (fun h => absurd hv h) (fun _ a3 b3 s3 e1 e2 e3 ha3 hb3 hs3 ν2 F2 hR2 => ?_)
    have q1 : a3 = a2 := by rw [ea] at e1; exact ((nI_eq (by omega) (by omega)).mp e1).symm
    have q2 : b3 = b2 := by rw [eb] at e2; exact ((nI_eq (by omega) (by omega)).mp e2).symm
    have q3 : s3 = s2 := by rw [es] at e3; exact ((nI_eq (by omega) (by omega)).mp e3).symm
    subst q1; subst q2; subst q3
    have g : ∀ q, q ≠ 105 → ν2.1 q = ν1.1 q := fun q hq => (F2 q hq).1
    have g1 : ∀ q, q ≠ 106 → ν1.1 q = ν.1 q := fun q hq => (F1 q hq).1
    refine e_endS (μ := ν) (by have := bN_le ((ρ (7 + 7 * a3)).testBit b3); omega) hm1 (by rw [g 106 (by decide)]; exact held hm1.1 hv1) (by rw [g _ (by decide), g1 _ (by decide)]) (by rw [g _ (by decide), g1 _ (by decide)]) (by rw [g _ (by decide), g1 _ (by decide)]) (by rw [g _ (by decide), g1 _ (by decide)]) (by rw [g _ (by decide), g1 _ (by decide)]) hR2 (fun κ F3 hm3 => ⟨rfl, _, _, _, _, _, _, _, _, hpu_WF hw hm.2.1.1 hW2, ?_, hm3⟩)
    refine CX_t (Nat.le_succ t) (CX_fr (fr_tr (fr_mono F1 (fun q e => by omega)) (fr_tr (fr_mono F2 (fun q e => by omega)) F3)) ?_)
    exact CX_S hx f4 hc4 (fr_mono F (fun q e => by omega)) hr
  · rw [if_neg hv]
    refine ⟨fun h => absurd h (by decide), fun _ => e_refX0 ?_⟩
    unfold p_X12_behind
    refine e_hold (fun ν1 F1 hv1 => ?_)
    have m1 : MR (ν1.1 105) ρ σ := by rw [(F1 105 (by decide)).1, y_xin (by decide)]; exact hm.1
    refine e_doBeh m1 hw.1 (fun _ => ?_) (fun h => absurd h hv)
    exact e_endR (j := 0) (by decide) (by decide) (by decide) ⟨rfl, inv_ref (j := 0) (by decide) hw hx hm F1⟩
/-! plans -/
theorem WF_pln {ρ : Nat → Nat} {k v : Nat} (hw : WF ρ) (hk : k < 16) (hv : v < 8) : WF (up1 ρ (43 + k) v) := by
  obtain ⟨h1, h2, h3, h4, h5, h6, h7⟩ := hw
  have g : ∀ i, 59 ≤ i → up1 ρ (43 + k) v i = ρ i := fun i hi => up1_n (by omega)
  have g0 : ∀ i, i < 43 → up1 ρ (43 + k) v i = ρ i := fun i hi => up1_n (by omega)
  refine ⟨by rw [g0 0 (by omega)]; exact h1, fun j hj => ?_, fun c hc => ⟨?_, ?_, ?_⟩, ?_, ?_, ?_, fun i hi => ?_⟩
  · rw [g0 0 (by omega)] at hj
    have := h2 j hj
    unfold WB at this ⊢
    rw [g0 (1 + 7 * j) (by omega), g0 (2 + 7 * j) (by omega), g0 (3 + 7 * j) (by omega), g0 (4 + 7 * j) (by omega), g0 (5 + 7 * j) (by omega), g0 (6 + 7 * j) (by omega), g0 (7 + 7 * j) (by omega)]
    exact this
  · by_cases e : c = k
    · subst e; rw [up1_s]; exact hv
    · rw [up1_n (by omega)]; exact (h3 c hc).1
  · rw [g _ (by omega)]; exact (h3 c hc).2.1
  · rw [g _ (by omega)]; exact (h3 c hc).2.2
  · rw [g _ (by omega)]; exact h4
  · rw [g _ (by omega)]; exact h5
  · rw [g 92 (by omega), g 93 (by omega)]; exact h6
  · rw [g 93 (by omega)] at hi
    rw [g (95 + 3 * i) (by omega), g (96 + 3 * i) (by omega), g (97 + 3 * i) (by omega), g 92 (by omega), g0 0 (by omega)]
    exact h7 i hi
theorem RB_ext {μ ν : xM} {ρ ρ2 : Nat → Nat} (hf : ∀ q, 2 ≤ q → q ≤ 10 → ν.1 q = μ.1 q) (hρ : ∀ i, i < 43 → ρ2 i = ρ i) (h6 : ρ 0 ≤ 6) (h : RB μ 1 ρ) : RB ν 1 ρ2 := by
  obtain ⟨h1, h2⟩ := h
  refine ⟨by rw [hρ 0 (by omega), hf _ (by omega) (by omega)]; exact h1, fun k hk => ?_⟩
  rw [hρ 0 (by omega)] at hk
  have := h2 k hk
  unfold RBk plc at this ⊢
  rw [hρ (1 + 7 * k) (by omega), hρ (2 + 7 * k) (by omega), hρ (3 + 7 * k) (by omega), hρ (4 + 7 * k) (by omega), hρ (5 + 7 * k) (by omega), hρ (6 + 7 * k) (by omega), hρ (7 + 7 * k) (by omega), hf _ (by omega) (by omega), hf _ (by omega) (by omega), hf _ (by omega) (by omega), hf _ (by omega) (by omega), hf _ (by omega) (by omega), hf _ (by omega) (by omega), hf _ (by omega) (by omega), hf _ (by omega) (by omega)]
  exact this
theorem op_plans {μ : xM} {t : Nat} (hI : Inv t μ) (a b : Int32) : p_X11_plans 0 a b μ (fun r1 μ1 => p_X12_plans 104 a b μ1 (fun r2 μ2 => r1 = r2 ∧ Inv (t + 1) μ2)) := by
  obtain ⟨ρ, σ, h, Hρ, Hσ, cc, L, T, hw, hx, hm⟩ := hI
  unfold p_X11_plans p_X12_plans
  simp only [shp, shm, e_within, e_in, y_b0]
  by_cases g1 : inR a 0 15
  case neg => rw [pr0 g1]; refine e_refX0 ?_; rw [pr0 g1]; exact e_refM0 ⟨rfl, inv_ref (j := 0) (by decide) hw hx hm fr_rf⟩
  rw [pr1 g1]
  by_cases g2 : inR b 0 7
  case neg => rw [pr0' g2]; refine e_refX0 ?_; rw [pr1 g1, pr0' g2]; exact e_refM0 ⟨rfl, inv_ref (j := 0) (by decide) hw hx hm fr_rf⟩
  rw [pr1' g2]
  obtain ⟨a2, ha, rfl⟩ := i_of (m := 15) (by decide) g1.1 g1.2
  obtain ⟨b2, hb, rfl⟩ := i_of (m := 7) (by decide) g2.1 g2.2
  have hpl : ∀ i, i < 16 → ρ (43 + i) < 16 := fun i hi => Nat.lt_trans (hw.1.2.2.1 i hi).1 (by decide)
  refine keepR hw.1 hx (fun μ4 f4 hc4 hr4 => ?_)
  rw [hr4.2.2, e_nibd hpl (by omega), hr4.2.2, e_wnib hpl (by omega) (by omega)]
  intro μ14 e14
  have F : fr (fun q => q = 1) μ4 μ14 := by rw [e14]; exact fr_xl rfl
  have hr : Rep μ14 1 (up1 ρ (43 + a2) b2) σ := by
    refine ⟨RB_ext (fun q q1 q2 => (F q (by omega)).1) (fun i hi => up1_n (by omega)) hw.1.1 hr4.1, RH_ext (fun q q1 q2 => F q (by omega)) (fun i hi => up1_n (by omega)) hr4.2.1, ?_⟩
    rw [e14, y_xl, if_pos ⟨rfl, rfl⟩]
    congr 1
    apply nb_ext
    intro i hi
    unfold up1
    by_cases e : i = a2
    · rw [if_pos e, if_pos (by omega)]
    · rw [if_neg e, if_neg (by omega)]
  have fX : fr (fun q => q < 104 ∨ q = 106) μ μ14 := fr_tr (fr_mono f4 (fun q e => by omega)) (fr_mono F (fun q e => by omega))
  have hm1 := CM_fr fX hm
  rw [pr1 g1, pr1' g2]
  refine e_hold (fun ν1 F1 hv1 => ?_)
  have m1 : MR (ν1.1 105) ρ σ := by rw [(F1 105 (by decide)).1]; exact hm1.1
  rw [show (43 : Int32) = nI 43 from rfl, nI_add, nI_clamp (by omega), MR_p m1 (by omega) (by omega) (by omega)]
  refine ⟨v131 (by omega), fun v10 e10 => ⟨v131 (by omega), fun ν2 e2 => ?_⟩⟩
  have F2 : fr (fun q => q = 105) ν1 ν2 := by rw [e2]; exact fr_xi rfl
  have g : ∀ q, q ≠ 105 → ν2.1 q = ν1.1 q := fun q hq => (F2 q hq).1
  have gg : ∀ q, q ≠ 106 → ν1.1 q = μ14.1 q := fun q hq => (F1 q hq).1
  obtain ⟨k1, k2, k3, k4⟩ := hm1
  refine e_push (MH_fr (by rw [g _ (by decide), gg _ (by decide)]) (by rw [g _ (by decide), gg _ (by decide)]) k2) (by rw [g 106 (by decide)]; exact held k1 hv1) (fun κ F3 u m => ?_)
  refine ⟨e10.symm, up1 ρ (43 + a2) b2, σ, hct h, hpu h Hρ ρ, hpu h Hσ σ, cc, L, T, hpu_WF hw hm.2.1.1 (WF_pln hw.1 (by omega) (by omega)), ?_, ?_, m, ?_, ?_, ?_⟩
  · refine CX_t (Nat.le_succ t) (CX_fr (fr_tr (fr_mono F1 (fun q e => by omega)) (fr_tr (fr_mono F2 (fun q e => by omega)) (fr_mono F3 (fun q e => by omega)))) ?_)
    exact CX_S hx f4 hc4 (fr_mono F (fun q e => by omega)) hr
  · refine ⟨?_, fun i i1 i2 => ?_⟩
    · rw [(F3 105 (by decide)).1, e2, y_xi, if_neg (by omega)]; exact m1.1
    · rw [(F3 105 (by decide)).1, e2, y_xi]
      by_cases e : i = 43 + a2
      · rw [if_pos ⟨rfl, e⟩, enc_n (by omega), e, up1_s]
      · rw [if_neg (by omega), m1.2 i i1 i2]
        unfold enc
        rw [up1_n e]
  · rw [(F3 108 (by decide)).1, g _ (by decide), gg _ (by decide)]; exact k3
  · rw [u 17 (by decide), g _ (by decide), gg _ (by decide)]; exact k4.1
  · rw [(F3 117 (by decide)).1, g _ (by decide), gg _ (by decide)]; exact k4.2
