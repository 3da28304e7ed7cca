/-! a new SHEET BY HAND -/
def rNew (ρ : Nat → Nat) : Nat → Nat := fun i => if 59 ≤ i ∧ i ≤ 93 then 0 else ρ i
theorem rNew_z {ρ : Nat → Nat} {i : Nat} (h1 : 59 ≤ i) (h2 : i ≤ 93) : rNew ρ i = 0 := by unfold rNew; rw [if_pos ⟨h1, h2⟩]
theorem rNew_n {ρ : Nat → Nat} {i : Nat} (h : i < 59 ∨ 93 < i) : rNew ρ i = ρ i := by unfold rNew; rw [if_neg (by omega)]
theorem WF_new {ρ : Nat → Nat} (hw : WF ρ) : WF (rNew ρ) := by
  obtain ⟨h1, h2, h3, h4, h5, h6, h7⟩ := hw
  have g : ∀ i, i < 59 → rNew ρ i = ρ i := fun i hi => rNew_n (Or.inl hi)
  refine ⟨by rw [g 0 (by omega)]; exact h1, fun j hj => ?_, fun c hc => ?_, ?_, ?_, ?_, fun i hi => ?_⟩
  · rw [g 0 (by omega)] at hj
    have := h2 j hj
    unfold WB at this ⊢
    rw [g (1 + 7 * j) (by omega), g (2 + 7 * j) (by omega), g (3 + 7 * j) (by omega), g (4 + 7 * j) (by omega), g (5 + 7 * j) (by omega), g (6 + 7 * j) (by omega), g (7 + 7 * j) (by omega)]
    exact this
  · rw [g (43 + c) (by omega), rNew_z (by omega) (by omega), rNew_z (by omega) (by omega)]
    exact ⟨(h3 c hc).1, by decide, by decide⟩
  · rw [rNew_z (by omega) (by omega)]; decide
  · rw [rNew_z (by omega) (by omega)]; decide
  · rw [rNew_z (by omega) (by omega)]; omega
  · rw [rNew_z (by omega) (by omega)] at hi; omega
theorem nb_00 : ∀ k, nb (fun _ => 0) k = 0
  | 0 => rfl
  | k + 1 => by simp only [nb]; rw [nb_00 k]; omega
theorem e_newX {μ : xM} {ρ : Nat → Nat} {σ : Int32} (hR : Rep μ 1 ρ σ) (h6 : ρ 0 ≤ 6) {Q : Int32 → xM → Prop} (hQ : ∀ ν, fr (fun q => q = 11 ∨ q = 12) μ ν → Rep ν 1 (rNew ρ) 0 → Q (nI (ρ 93)) ν) : p_X2_renew 11 μ Q := by
  unfold p_X2_renew p_X7_wipe p_X7_lay
  simp only [shp]
  intro v1 e1 x1 ex1 x2 ex2 x3 ex3 x4 ex4 x5 ex5 x6 ex6
  have hc : μ.1 11 2 = nI (ρ 93) := hR.2.1.2.2.1
  rw [e1, hc]
  have F : fr (fun q => q = 11 ∨ q = 12) μ x6 := by
    rw [ex6, ex5, ex4, ex3, ex2, ex1]
    exact fr_tr (fr_tr (fr_tr (fr_tr (fr_tr (fr_xl (Or.inr rfl)) (fr_xl (Or.inr rfl))) (fr_xi (Or.inr rfl))) (fr_xi (Or.inl rfl))) (fr_xi (Or.inl rfl))) (fr_xi (Or.inl rfl))
  have z1 : (fun c => rNew ρ (59 + c)) = fun c => if c < 35 then 0 else ρ (59 + c) := by
    funext c
    unfold rNew
    by_cases e : c < 35
    · rw [if_pos (by omega), if_pos e]
    · rw [if_neg (by omega), if_neg e]
  have n1 : nb (fun c => rNew ρ (59 + c)) 16 = 0 := by
    rw [nb_ext (d2 := fun _ => 0) 16 (fun i hi => rNew_z (by omega) (by omega))]; exact nb_00 16
  have n2 : nb (fun c => rNew ρ (75 + c)) 16 = 0 := by
    rw [nb_ext (d2 := fun _ => 0) 16 (fun i hi => rNew_z (by omega) (by omega))]; exact nb_00 16
  refine hQ x6 F ⟨RB_ext (fun q q1 q2 => (F q (by omega)).1) (fun i hi => rNew_n (by omega)) h6 hR.1, ⟨⟨?_, ?_, ?_⟩, ?_, ?_, ?_, fun i hi => ?_⟩, ?_⟩
  · rw [n1, ex6, ex5, ex4, ex3, y_xi2, y_xi2, y_xi2, y_xi2, ex2, y_xl, if_neg (by decide), ex1, y_xl, if_pos ⟨rfl, rfl⟩]; rfl
  · rw [n2, ex6, ex5, ex4, ex3, y_xi2, y_xi2, y_xi2, y_xi2, ex2, y_xl, if_pos ⟨rfl, rfl⟩]; rfl
  · rw [rNew_z (by omega) (by omega), ex6, ex5, ex4, y_xi, if_neg (by decide), y_xi, if_neg (by decide), y_xi, if_neg (by decide), ex3, y_xi, if_pos ⟨rfl, rfl⟩]; rfl
  · rw [rNew_z (by omega) (by omega), ex6, ex5, y_xi, if_neg (by decide), y_xi, if_neg (by decide), ex4, y_xi, if_pos ⟨rfl, rfl⟩]; rfl
  · rw [rNew_z (by omega) (by omega), ex6, y_xi, if_neg (by decide), ex5, y_xi, if_pos ⟨rfl, rfl⟩]; rfl
  · rw [ex6, y_xi, if_pos ⟨rfl, rfl⟩]
  · rw [rNew_z (by omega) (by omega)] at hi; omega
  · have e1 : (fun i => rNew ρ (43 + i)) = fun i => if i < 16 then ρ (43 + i) else rNew ρ (43 + i) := by
      funext i
      by_cases e : i < 16
      · rw [if_pos e]; exact rNew_n (by omega)
      · rw [if_neg e]
    rw [nb_ext (d2 := fun i => ρ (43 + i)) 16 (fun i hi => rNew_n (by omega)), (F 1 (by omega)).2]
    exact hR.2.2
theorem e_newM {μ : xM} {ρ : Nat → Nat} {σ : Int32} (hM : MR (μ.1 105) ρ σ) {Q : Int32 → xM → Prop} (hQ : ∀ ν, fr (fun q => prP q ∨ q = 105) μ ν → (∀ j, j ≠ 7 → ν.1 104 j = μ.1 104 j) → MR (ν.1 105) (rNew ρ) 0 → Q (nI (ρ 93)) ν) : p_X12_doNews 104 μ Q := by
  unfold p_X12_doNews
  have c92 : (92 : Int32).toNatClampNeg = 92 := by decide
  have c93 : (93 : Int32).toNatClampNeg = 93 := by decide
  have c94 : (94 : Int32).toNatClampNeg = 94 := by decide
  simp only [shm, c92, c93, c94]
  refine ⟨v131 (k := 93) (by decide), fun v1 e1 => ?_⟩
  rw [MR_p hM (by omega) (by omega) (by omega)] at e1
  refine e_clrM (fun μ2 F2 u2 ms => ?_)
  have m2 : MR (μ2.1 105) ρ σ := by rw [(F2 105 (by unfold prP; decide)).1]; exact hM
  refine e_giveM m2 ms (fun μ3 F3 m3 => ?_)
  refine ⟨v131 (k := 92) (by decide), fun μ4 e4 => ⟨v131 (k := 93) (by decide), fun μ5 e5 => ⟨v131 (k := 94) (by decide), fun μ6 e6 => ?_⟩⟩⟩
  rw [e1]
  have F6 : fr (fun q => q = 105) μ3 μ6 := by rw [e6, e5, e4]; exact fr_tr (fr_tr (fr_xi rfl) (fr_xi rfl)) (fr_xi rfl)
  refine hQ μ6 ?_ ?_ ⟨?_, fun i i1 i2 => ?_⟩
  · exact fr_tr (fr_mono F2 (fun q h => Or.inl h)) (fr_tr (fr_mono F3 (fun q h => Or.inr h)) (fr_mono F6 (fun q h => Or.inr h)))
  · intro j hj
    rw [(F6 104 (by decide)).1, (F3 104 (by decide)).1, u2 j hj]
  · rw [e6, y_xi, if_pos ⟨rfl, rfl⟩]
  · rw [e6, y_xi, if_neg (by omega), e5, y_xi]
    by_cases a : i = 93
    · subst a
      rw [if_pos ⟨rfl, rfl⟩, enc_n (by omega), rNew_z (by omega) (by omega)]; rfl
    rw [if_neg (by omega), e4, y_xi]
    by_cases b : i = 92
    · subst b
      rw [if_pos ⟨rfl, rfl⟩, enc_n (by omega), rNew_z (by omega) (by omega)]; rfl
    rw [if_neg (by omega), m3.2 i i1 i2]
    unfold enc rSht rNew
    by_cases c1 : 59 ≤ i ∧ i < 75
    · rw [if_pos c1, if_pos (show 59 ≤ i ∧ i ≤ 93 by omega)]
    rw [if_neg c1]
    by_cases c2 : 75 ≤ i ∧ i < 91
    · rw [if_pos c2, if_pos (show 59 ≤ i ∧ i ≤ 93 by omega)]
    rw [if_neg c2]
    by_cases c3 : i = 91
    · rw [if_pos c3, if_pos (show 59 ≤ i ∧ i ≤ 93 by omega)]
    rw [if_neg c3, if_neg (show ¬ (59 ≤ i ∧ i ≤ 93) by omega)]
theorem op_news {μ : xM} {t : Nat} (hI : Inv t μ) : p_X11_news 0 μ (fun r1 μ1 => p_X12_news 104 μ1 (fun r2 μ2 => r1 = r2 ∧ Inv (t + 1) μ2)) := by
  obtain ⟨ρ, σ, h, Hρ, Hσ, cc, L, T, hw, hx, hm⟩ := hI
  unfold p_X11_news
  simp only [shp]
  refine keepR hw.1 hx (fun μ4 f4 hc4 hr4 => ?_)
  refine e_newX hr4 hw.1.1 (fun ν F hr => ?_)
  have fX : fr (fun q => q < 104 ∨ q = 106) μ ν := fr_tr (fr_mono f4 (fun q e => by omega)) (fr_mono F (fun q e => by omega))
  have hm1 := CM_fr fX hm
  unfold p_X12_news
  refine e_hold (fun ν1 F1 hv1 => ?_)
  have m1 : MR (ν1.1 105) ρ σ := by rw [(F1 105 (by decide)).1]; exact hm1.1
  refine e_newM m1 (fun ν2 F2 u2 hR2 => ?_)
  have g : ∀ q, ¬ (prP q ∨ q = 105) → ν2.1 q = ν1.1 q := fun q hq => (F2 q hq).1
  have g1 : ∀ q, q ≠ 106 → ν1.1 q = ν.1 q := fun q hq => (F1 q hq).1
  have hn12 := hw.1.2.2.2.2.1
  have np : ∀ q, (q = 106 ∨ q = 107 ∨ q = 108 ∨ q = 117) → ¬ (prP q ∨ q = 105) := by intro q hq h; unfold prP at h; omega
  refine e_endS (μ := ν) (by omega) hm1 (by rw [g 106 (np _ (by omega))]; exact held hm1.1 hv1) (by rw [g _ (np _ (by omega)), g1 _ (by decide)]) (by rw [g _ (np _ (by omega)), g1 _ (by decide)]) (by rw [g _ (np _ (by omega)), g1 _ (by decide)]) (by rw [u2 3 (by decide), g1 _ (by decide)]) (by rw [u2 17 (by decide), g1 _ (by decide)]) hR2 (fun κ F3 hm3 => ⟨rfl, _, _, _, _, _, _, _, _, hpu_WF hw hm.2.1.1 (WF_new hw.1), ?_, hm3⟩)
  refine CX_t (Nat.le_succ t) (CX_fr (fr_tr (fr_mono F1 (fun q e => by omega)) (fr_tr (fr_mono F2 (fun q e => by unfold prP at e; omega)) F3)) ?_)
  exact CX_S hx f4 hc4 (fr_mono F (fun q e => by omega)) hr
