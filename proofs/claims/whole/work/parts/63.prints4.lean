theorem e_doPrt {μ : xM} {ρ : Nat → Nat} {σ : Int32} {k n : Int32} (hM : MR (μ.1 105) ρ σ) (hW : WF ρ) {Q : Int32 → xM → Prop} (h1 : ¬ vPrt k n (ρ 0) → Q (-2) μ) (h2 : ∀ j m, k = nI j → n = nI m → j < ρ 0 → m ≤ 9 → ¬ ndf (ρ (7 + 7 * j)) (ptS ρ (ρ 93)) = 0 → Q (-3) μ) (h4 : ∀ j m, k = nI j → n = nI m → j < ρ 0 → m ≤ 9 → ndf (ρ (7 + 7 * j)) (ptS ρ (ρ 93)) = 0 → ρ 93 = 12 → Q (-4) μ) (h3 : ∀ j m, k = nI j → n = nI m → j < ρ 0 → m ≤ 9 → ndf (ρ (7 + 7 * j)) (ptS ρ (ρ 93)) = 0 → ρ 93 < 12 → ∀ ν, fr (fun q => prP q ∨ q = 105) μ ν → (∀ i, i ≠ 7 → ν.1 104 i = μ.1 104 i) → MR (ν.1 105) (rPrt ρ j m) (σ + smS ρ (ρ 92 + m) (plc ρ j) (ρ 93)) → Q (smS ρ (ρ 92 + m) (plc ρ j) (ρ 93)) ν) : p_X12_doPrints 104 k n μ Q := by
  have h6 := hW.1
  have h12 := hW.2.2.2.2.1
  unfold p_X12_doPrints
  rw [e_isBlk (MR_0 hM) h6]
  have c92 : (92 : Int32).toNatClampNeg = 92 := by decide
  have c93 : (93 : Int32).toNatClampNeg = 93 := by decide
  have c94 : (94 : Int32).toNatClampNeg = 94 := by decide
  simp only [e_in, y_b0, shm, c92, c93, c94]
  by_cases g1 : isB k (nI (ρ 0))
  case neg => rw [pr0 g1]; exact h1 (fun h => g1 h.1)
  rw [pr1 g1]
  by_cases g2 : inR n 0 9
  case neg => rw [pr0' g2]; exact h1 (fun h => g2 h.2)
  rw [pr1' g2]
  obtain ⟨j, hj, rfl⟩ := isB_of h6 g1
  obtain ⟨m, hm, rfl⟩ := i_of (m := 9) (by decide) g2.1 g2.2
  refine ⟨ρ 93 + 1, l_ptM hM hW ?_ (ρ 93) 0 (by omega)⟩
  try dsimp only
  have hb := hW.2.1 j hj
  have hB64 := hb.2.2.2.2.2.2
  have hl : ndf (ρ (7 + 7 * j)) (ptS ρ (ρ 93)) < 64 := ndf_lt (n := 6) hB64
  rw [show (6 : Int32) = nI 6 from rfl, e_ofB (by omega) (by decide), show 1 + 6 + 7 * j = 7 + 7 * j by omega, (MR_k hM (show j < 6 by omega)).2.2.2.2.2.2, y_andn, show (nI (ndf (ρ (7 + 7 * j)) (ptS ρ (ρ 93))) = (0 : Int32)) = (ndf (ρ (7 + 7 * j)) (ptS ρ (ρ 93)) = 0) from propext (nI_eq (by omega) (by decide))]
  refine ⟨fun e0 => ⟨v131 (k := 93) (by decide), ?_⟩, fun e0 => h2 j m rfl rfl hj hm e0⟩
  have hcnt : μ.1 105 93 = nI (ρ 93) := MR_p hM (by decide) (by decide) (by decide)
  have hhr : μ.1 105 92 = nI (ρ 92) := MR_p hM (by decide) (by decide) (by decide)
  rw [hcnt, hhr, show (nI (ρ 93) = (12 : Int32)) = (ρ 93 = 12) from propext (nI_eq (b := 12) (by omega) (by decide))]
  refine ⟨fun hne => ⟨v131 (k := 92) (by decide), v131 (k := 92) (by decide), ?_⟩, fun he => h4 j m rfl rfl hj hm e0 he⟩
  have hn12 : ρ 93 < 12 := by omega
  intro μ28 e28
  rw [nI_add] at e28
  have D28 : ∀ i, i < 131 → i ≠ 92 → i ≠ 94 → μ28.1 105 i = enc ρ i := by
    intro i a b c
    rw [e28, y_xi, if_neg (fun h => b h.2), hM.2 i a c]
  have hr28 : μ28.1 105 92 = nI (ρ 92 + m) := by rw [e28, y_xi, if_pos ⟨rfl, rfl⟩]
  have s28 : μ28.1 105 94 = σ := by rw [e28, y_xi, if_neg (by decide)]; exact hM.1
  have M28 : MR (μ28.1 105) (up1 ρ 92 (ρ 92 + m)) σ := by
    refine ⟨s28, fun i a b => ?_⟩
    by_cases e : i = 92
    · subst e; rw [hr28, enc_n (by omega), up1_s]
    · rw [D28 i a e b]; unfold enc; rw [up1_n e]
  have pl28 : plc (up1 ρ 92 (ρ 92 + m)) j = plc ρ j := by
    unfold plc
    rw [up1_n (by omega), up1_n (by omega), up1_n (by omega)]
  have wb28 : WB (up1 ρ 92 (ρ 92 + m)) j := by
    unfold WB at hb ⊢
    rw [up1_n (by omega), up1_n (by omega), up1_n (by omega), up1_n (by omega), up1_n (by omega), up1_n (by omega), up1_n (by omega)]
    exact hb
  refine e_plcM M28 (by omega) wb28 ?_
  rw [pl28]
  refine ⟨ρ 93 + 1, l_smM (ρ0 := ρ) (σ := σ) D28 hr28 hW (plc_lt ρ j) ?_ (ρ 93) 0 (by omega)⟩
  try dsimp only
  have c28 : μ28.1 105 93 = nI (ρ 93) := by rw [D28 93 (by decide) (by decide) (by decide)]; exact enc_n (by omega)
  refine ⟨v131 (k := 93) (by decide), fun v56 e56 => ?_⟩
  rw [c28, show (95 : Int32) = nI 95 from rfl, show (3 : Int32) = nI 3 from rfl, pk_mul, nI_add] at e56
  rw [e56, show (1 : Int32) = nI 1 from rfl, show (2 : Int32) = nI 2 from rfl, nI_add, nI_add, nI_clamp (by omega), nI_clamp (by omega), nI_clamp (by omega)]
  refine ⟨v131 (by omega), fun μ57 e57 => ⟨v131 (k := 92) (by decide), v131 (by omega), fun μ58 e58 => ⟨v131 (by omega), fun μ59 e59 => ⟨v131 (k := 93) (by decide), v131 (k := 93) (by decide), fun μ60 e60 => ⟨v131 (k := 94) (by decide), v131 (k := 94) (by decide), fun μ61 e61 => ?_⟩⟩⟩⟩⟩
  have k57 : μ57.1 105 92 = nI (ρ 92 + m) := by rw [e57, y_xi, if_neg (by omega), hr28]
  rw [k57] at e58
  have k59 : μ59.1 105 93 = nI (ρ 93) := by rw [e59, y_xi, if_neg (by omega), e58, y_xi, if_neg (by omega), e57, y_xi, if_neg (by omega), c28]
  rw [k59, nI_add] at e60
  have k60 : μ60.1 105 94 = σ := by rw [e60, y_xi, if_neg (by omega), e59, y_xi, if_neg (by omega), e58, y_xi, if_neg (by omega), e57, y_xi, if_neg (by omega), s28]
  rw [k60] at e61
  obtain ⟨ρ3, hρ3⟩ : ∃ f : Nat → Nat, f = fun i => if i = 93 then ρ 93 + 1 else if i = 97 + 3 * ρ 93 then plc ρ j else if i = 96 + 3 * ρ 93 then ρ 92 + m else if i = 95 + 3 * ρ 93 then j else if i = 92 then ρ 92 + m else ρ i := ⟨_, rfl⟩
  have M61 : MR (μ61.1 105) ρ3 (σ + smS ρ (ρ 92 + m) (plc ρ j) (ρ 93)) := by
    refine ⟨by rw [e61, y_xi, if_pos ⟨rfl, rfl⟩], fun i a b => ?_⟩
    rw [e61, y_xi, if_neg (fun h => b h.2), e60, y_xi]
    unfold enc
    rw [hρ3]
    dsimp only
    by_cases c1 : i = 93
    · subst c1; simp
    rw [if_neg (fun h => c1 h.2), if_neg c1, e59, y_xi]
    by_cases c2 : i = 97 + 3 * ρ 93
    · rw [if_pos ⟨rfl, by omega⟩, if_pos c2, if_neg (by omega)]
    rw [if_neg (by omega), if_neg c2, e58, y_xi]
    by_cases c3 : i = 96 + 3 * ρ 93
    · rw [if_pos ⟨rfl, by omega⟩, if_pos c3, if_neg (by omega)]
    rw [if_neg (by omega), if_neg c3, e57, y_xi]
    by_cases c4 : i = 95 + 3 * ρ 93
    · rw [if_pos ⟨rfl, by omega⟩, if_pos c4, if_neg (by omega)]
    rw [if_neg (by omega), if_neg c4]
    by_cases c5 : i = 92
    · subst c5; rw [hr28, if_pos rfl, if_neg (by omega)]
    rw [if_neg c5, D28 i a c5 b]
    rfl
  have lo3 : ∀ i, i < 92 → ρ3 i = ρ i := by
    intro i hi
    rw [hρ3]
    dsimp only
    rw [if_neg (by omega), if_neg (by omega), if_neg (by omega), if_neg (by omega), if_neg (by omega)]
  have F61 : fr (fun q => q = 105) μ μ61 := by
    rw [e61, e60, e59, e58, e57, e28]
    exact fr_tr (fr_tr (fr_tr (fr_tr (fr_tr (fr_xi rfl) (fr_xi rfl)) (fr_xi rfl)) (fr_xi rfl)) (fr_xi rfl)) (fr_xi rfl)
  refine e_takeM M61 (fun μ62 F62 u62 ms62 _ => ?_)
  have M62 : MR (μ62.1 105) ρ3 (σ + smS ρ (ρ 92 + m) (plc ρ j) (ρ 93)) := by rw [(F62 105 (by decide)).1]; exact M61
  have wb3 : WB ρ3 j := by
    unfold WB at hb ⊢
    rw [lo3 _ (by omega), lo3 _ (by omega), lo3 _ (by omega), lo3 _ (by omega), lo3 _ (by omega), lo3 _ (by omega), lo3 _ (by omega)]
    exact hb
  have ms' : MS μ62 (fun c => ρ (59 + c)) (fun c => ρ (75 + c)) (ρ 91) := by
    refine ⟨fun c hc => ?_, ?_⟩
    · have := ms62.1 c hc
      dsimp only at this ⊢
      rw [lo3 (59 + c) (by omega), lo3 (75 + c) (by omega)] at this
      exact this
    · have := ms62.2
      rw [lo3 91 (by omega)] at this
      exact this
  refine e_prM M62 (by omega) wb3 ms' (fun i hi => (hW.2.2.1 i hi).2.1) (fun i hi => (hW.2.2.1 i hi).2.2) (plc_lt ρ j) hW.2.2.2.1 (fun μ63 F63 u63 ms63 => ?_)
  have M63 : MR (μ63.1 105) ρ3 (σ + smS ρ (ρ 92 + m) (plc ρ j) (ρ 93)) := by rw [(F63 105 (by unfold prP; decide)).1]; exact M62
  refine e_giveM M63 ms63 (fun μ64 F64 M64 => ?_)
  refine h3 j m rfl rfl hj hm e0 hn12 μ64 ?_ ?_ ?_
  · refine fr_tr (fr_mono F61 (fun q h => Or.inr h)) (fr_tr (fr_mono F62 (fun q h => Or.inl (by unfold prP; omega))) (fr_tr (fr_mono F63 (fun q h => Or.inl h)) (fr_mono F64 (fun q h => Or.inr h))))
  · intro i hi
    rw [(F64 104 (by decide)).1, u63 i hi, u62 i hi, (F61 104 (by decide)).1]
  · refine ⟨M64.1, fun i a b => ?_⟩
    rw [M64.2 i a b]
    unfold enc
    have e1 : rSht ρ3 (prC (ρ3 (1 + 7 * j)) (ρ3 (2 + 7 * j)) (plc ρ j) (ρ 91) fun c => ρ (59 + c)) (prS (ρ3 (1 + 7 * j)) (plc ρ j) (ρ 91) fun c => ρ (75 + c)) (prL (ρ3 (1 + 7 * j)) (plc ρ j) (ρ 91)) i = rPrt ρ j m i := by
      rw [lo3 (1 + 7 * j) (by omega), lo3 (2 + 7 * j) (by omega)]
      unfold rPrt rSht
      by_cases c1 : 59 ≤ i ∧ i < 75
      · rw [if_pos c1, if_neg (by omega), if_neg (by omega), if_neg (by omega), if_neg (by omega), if_neg (by omega), if_pos c1]
      rw [if_neg c1]
      by_cases c2 : 75 ≤ i ∧ i < 91
      · rw [if_pos c2, if_neg (by omega), if_neg (by omega), if_neg (by omega), if_neg (by omega), if_neg (by omega), if_neg c1, if_pos c2]
      rw [if_neg c2]
      by_cases c3 : i = 91
      · rw [if_pos c3, if_neg (by omega), if_neg (by omega), if_neg (by omega), if_neg (by omega), if_neg (by omega), if_neg c1, if_neg c2, if_pos c3]
      rw [if_neg c3, if_neg c1, if_neg c2, if_neg c3, hρ3]
      dsimp only
      by_cases d2 : i = 92
      · subst d2
        rw [if_neg (by omega), if_neg (by omega), if_neg (by omega), if_neg (by omega), if_pos rfl, if_pos rfl]
      by_cases d1 : i = 93
      · simp only [if_neg d2, if_pos d1]
      by_cases d3 : i = 95 + 3 * ρ 93
      · simp only [if_neg d2, if_neg d1, if_pos d3, if_neg (show ¬ i = 97 + 3 * ρ 93 by omega), if_neg (show ¬ i = 96 + 3 * ρ 93 by omega)]
      by_cases d4 : i = 96 + 3 * ρ 93
      · simp only [if_neg d2, if_neg d1, if_neg d3, if_pos d4, if_neg (show ¬ i = 97 + 3 * ρ 93 by omega)]
      by_cases d5 : i = 97 + 3 * ρ 93
      · simp only [if_neg d2, if_neg d1, if_neg d3, if_neg d4, if_pos d5]
      simp only [if_neg d2, if_neg d1, if_neg d3, if_neg d4, if_neg d5]
    rw [e1]
theorem smS_nn {ρ : Nat → Nat} {hr pl : Nat} (hW : WF ρ) (hh : hr ≤ 200) : ∀ i, i ≤ ρ 93 → ∃ v, v ≤ 256 * 16 * i ∧ smS ρ hr pl i = nI v
  | 0, _ => ⟨0, by omega, rfl⟩
  | i + 1, hi => by
    obtain ⟨v, hv, e⟩ := smS_nn hW hh i (by omega)
    obtain ⟨w1, w2, w3⟩ := hW.2.2.2.2.2.2 i (by omega)
    have h12 := hW.2.2.2.2.1
    have hd := (hW.2.1 _ w1).2.2.1
    have h92 := hW.2.2.2.2.2.1
    simp only [smS]
    rw [e]
    by_cases g : sI ρ hr i ≤ 0
    · rw [if_pos g, add0]; exact ⟨v, by omega, rfl⟩
    · rw [if_neg g]
      unfold sI at g ⊢
      rw [nI_add] at g ⊢
      by_cases c : ρ (96 + 3 * i) + ρ (3 + 7 * ρ (95 + 3 * i)) ≤ hr
      · exfalso
        apply g
        have := pk_sub_toInt (a := ρ (96 + 3 * i) + ρ (3 + 7 * ρ (95 + 3 * i))) (b := hr) (by omega) (by omega)
        rw [Int32.le_iff_toInt_le, this]
        show _ ≤ (0 : Int)
        omega
      · rw [pk_sub (by omega), pk_mul, nI_add]
        have hp := pcN_le (pl &&& ρ (97 + 3 * i))
        refine ⟨_, ?_, rfl⟩
        have : (ρ (96 + 3 * i) + ρ (3 + 7 * ρ (95 + 3 * i)) - hr) * pcN (pl &&& ρ (97 + 3 * i)) ≤ 256 * 16 := Nat.mul_le_mul (by omega) hp
        omega
theorem op_prints {μ : xM} {t : Nat} (hI : Inv t μ) (a b : Int32) : p_X11_prints 0 a b μ (fun r1 μ1 => p_X12_prints 104 a b μ1 (fun r2 μ2 => r1 = r2 ∧ Inv (t + 1) μ2)) := by
  obtain ⟨ρ, σ, h, Hρ, Hσ, cc, L, T, hw, hx, hm⟩ := hI
  have h6 := hw.1.1
  have inj : ∀ {x y : Nat}, x < 100 → y < 100 → nI x = nI y → x = y := fun hx hy e => (nI_eq (by omega) (by omega)).mp e
  unfold p_X11_prints
  refine e_whyPrt hx.1 hw.1 ?_ ?_ ?_ ?_
  · intro hv
    refine ⟨fun h => absurd h (by decide), fun _ => e_refX0 ?_⟩
    unfold p_X12_prints
    refine e_hold (fun ν1 F1 hv1 => ?_)
    have m1 : MR (ν1.1 105) ρ σ := by rw [(F1 105 (by decide)).1, y_xin (by decide)]; exact hm.1
    refine e_doPrt m1 hw.1 (fun _ => ?_) (fun j m e1 e2 hj hm9 => absurd ?_ hv) (fun j m e1 e2 hj hm9 => absurd ?_ hv) (fun j m e1 e2 hj hm9 => absurd ?_ hv)
    · exact e_endR (j := 0) (by decide) (by decide) (by decide) ⟨rfl, inv_ref (j := 0) (by decide) hw hx hm F1⟩
    all_goals exact ⟨by rw [e1]; exact isB_nI hj h6, by rw [e2]; exact ⟨nI_pos' (by omega), nI_le (b := 9) hm9 (by decide)⟩⟩
  · intro j m ea eb hj hm9 hno
    refine ⟨fun h => absurd h (by decide), fun _ => e_refX1 ?_⟩
    unfold p_X12_prints
    refine e_hold (fun ν1 F1 hv1 => ?_)
    have m1 : MR (ν1.1 105) ρ σ := by rw [(F1 105 (by decide)).1, y_xin (by decide)]; exact hm.1
    refine e_doPrt m1 hw.1 (fun hv => absurd ⟨by rw [ea]; exact isB_nI hj h6, by rw [eb]; exact ⟨nI_pos' (by omega), nI_le (b := 9) hm9 (by decide)⟩⟩ hv) (fun j2 m2 e1 e2 hj2 hm2 hn2 => ?_) (fun j2 m2 e1 e2 hj2 hm2 hn2 => ?_) (fun j2 m2 e1 e2 hj2 hm2 hn2 => ?_)
    · exact e_endR (j := 1) (by decide) (by decide) (by decide) ⟨rfl, inv_ref (j := 1) (by decide) hw hx hm F1⟩
    · have : j2 = j := inj (by omega) (by omega) (e1.symm.trans ea)
      subst this; exact absurd hn2 hno
    · have : j2 = j := inj (by omega) (by omega) (e1.symm.trans ea)
      subst this; exact absurd hn2 hno
  · intro j m ea eb hj hm9 hyes h12
    refine ⟨fun _ => ?_, fun h => absurd rfl h⟩
    simp only [shp]
    refine keepR hw.1 hx (fun μ4 f4 hc4 hr4 => ?_)
    rw [ea, eb]
    refine e_prtX hr4 hw.1 hj hm9 h12 (fun ν F hr => ?_)
    have fX : fr (fun q => q < 104 ∨ q = 106) μ ν := fr_tr (fr_mono f4 (fun q e => by omega)) (fr_mono F (fun q e => by omega))
    have hm1 := CM_fr fX hm
    unfold p_X12_prints
    refine e_hold (fun ν1 F1 hv1 => ?_)
    have m1 : MR (ν1.1 105) ρ σ := by rw [(F1 105 (by decide)).1]; exact hm1.1
    refine e_doPrt m1 hw.1 (fun hv => absurd ⟨isB_nI hj h6, nI_pos' (by omega), nI_le (b := 9) hm9 (by decide)⟩ hv) (fun j2 m2 e1 e2 hj2 hm2 hn2 => ?_) (fun j2 m2 e1 e2 hj2 hm2 hn2 h122 => by omega) (fun j2 m2 e1 e2 hj2 hm2 hn2 h122 ν2 F2 u2 hR2 => ?_)
    · have : j2 = j := inj (by omega) (by omega) e1.symm
      subst this; exact absurd hyes hn2
    · have q1 : j2 = j := inj (by omega) (by omega) e1.symm
      have q2 : m2 = m := inj (by omega) (by omega) e2.symm
      subst q1; subst q2
      have g : ∀ q, ¬ (prP q ∨ q = 105) → ν2.1 q = ν1.1 q := fun q hq => (F2 q hq).1
      have g1 : ∀ q, q ≠ 106 → ν1.1 q = ν.1 q := fun q hq => (F1 q hq).1
      have np : ∀ q, (q = 106 ∨ q = 107 ∨ q = 108 ∨ q = 117) → ¬ (prP q ∨ q = 105) := by intro q hq h; unfold prP at h; omega
      have h92 := hw.1.2.2.2.2.2.1
      obtain ⟨v, hv, ev⟩ := smS_nn (hr := ρ 92 + m2) (pl := plc ρ j2) hw.1 (by omega) (ρ 93) (Nat.le_refl _)
      rw [ev] at hR2 hr ⊢
      refine e_endS (μ := ν) (by omega) hm1 (by rw [g 106 (np _ (by omega))]; exact held hm1.1 hv1) (by rw [g _ (np _ (by omega)), g1 _ (by decide)]) (by rw [g _ (np _ (by omega)), g1 _ (by decide)]) (by rw [g _ (np _ (by omega)), g1 _ (by decide)]) (by rw [u2 3 (by decide), g1 _ (by decide)]) (by rw [u2 17 (by decide), g1 _ (by decide)]) hR2 (fun κ F3 hm3 => ⟨rfl, _, _, _, _, _, _, _, _, hpu_WF hw hm.2.1.1 (WF_prt hw.1 hj hm9 h12), ?_, hm3⟩)
      refine CX_t (Nat.le_succ t) (CX_fr (fr_tr (fr_mono F1 (fun q e => by omega)) (fr_tr (fr_mono F2 (fun q e => by unfold prP at e; omega)) F3)) ?_)
      exact CX_S hx f4 hc4 (fr_mono F (fun q e => by omega)) hr
  · intro j m ea eb hj hm9 hyes h12
    refine ⟨fun h => absurd h (by decide), fun _ => e_refX2 ?_⟩
    unfold p_X12_prints
    refine e_hold (fun ν1 F1 hv1 => ?_)
    have m1 : MR (ν1.1 105) ρ σ := by rw [(F1 105 (by decide)).1, y_xin (by decide)]; exact hm.1
    refine e_doPrt m1 hw.1 (fun hv => absurd ⟨by rw [ea]; exact isB_nI hj h6, by rw [eb]; exact ⟨nI_pos' (by omega), nI_le (b := 9) hm9 (by decide)⟩⟩ hv) (fun j2 m2 e1 e2 hj2 hm2 hn2 => ?_) (fun j2 m2 e1 e2 hj2 hm2 hn2 _ => ?_) (fun j2 m2 e1 e2 hj2 hm2 hn2 h122 => by omega)
    · have : j2 = j := inj (by omega) (by omega) (e1.symm.trans ea)
      subst this; exact absurd hyes hn2
    · exact e_endR (j := 2) (by decide) (by decide) (by decide) ⟨rfl, inv_ref (j := 2) (by decide) hw hx hm F1⟩
