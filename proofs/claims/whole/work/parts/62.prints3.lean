def rPrt (ρ : Nat → Nat) (k n : Nat) : Nat → Nat := fun i => if i = 92 then ρ 92 + n else if i = 93 then ρ 93 + 1 else if i = 95 + 3 * ρ 93 then k else if i = 96 + 3 * ρ 93 then ρ 92 + n else if i = 97 + 3 * ρ 93 then plc ρ k else rSht ρ (prC (ρ (1 + 7 * k)) (ρ (2 + 7 * k)) (plc ρ k) (ρ 91) (fun c => ρ (59 + c))) (prS (ρ (1 + 7 * k)) (plc ρ k) (ρ 91) (fun c => ρ (75 + c))) (prL (ρ (1 + 7 * k)) (plc ρ k) (ρ 91)) i
section RP
variable {ρ : Nat → Nat} {k n : Nat}
theorem rPrt_lo {i : Nat} (h : i < 59 ∨ (95 ≤ i ∧ i < 95 + 3 * ρ 93)) : rPrt ρ k n i = ρ i := by
  unfold rPrt rSht
  rw [if_neg (by omega), if_neg (by omega), if_neg (by omega), if_neg (by omega), if_neg (by omega), if_neg (by omega), if_neg (by omega), if_neg (by omega)]
theorem rPrt_C {c : Nat} (h : c < 16) : rPrt ρ k n (59 + c) = prC (ρ (1 + 7 * k)) (ρ (2 + 7 * k)) (plc ρ k) (ρ 91) (fun c => ρ (59 + c)) c := by
  unfold rPrt rSht
  rw [if_neg (by omega), if_neg (by omega), if_neg (by omega), if_neg (by omega), if_neg (by omega), if_pos (by omega), Nat.add_sub_cancel_left]
theorem rPrt_S {c : Nat} (h : c < 16) : rPrt ρ k n (75 + c) = prS (ρ (1 + 7 * k)) (plc ρ k) (ρ 91) (fun c => ρ (75 + c)) c := by
  unfold rPrt rSht
  rw [if_neg (by omega), if_neg (by omega), if_neg (by omega), if_neg (by omega), if_neg (by omega), if_neg (by omega), if_pos (by omega), Nat.add_sub_cancel_left]
theorem rPrt_91 : rPrt ρ k n 91 = prL (ρ (1 + 7 * k)) (plc ρ k) (ρ 91) := by
  unfold rPrt rSht
  rw [if_neg (by omega), if_neg (by omega), if_neg (by omega), if_neg (by omega), if_neg (by omega), if_neg (by omega), if_neg (by omega), if_pos rfl]
theorem rPrt_92 : rPrt ρ k n 92 = ρ 92 + n := by unfold rPrt; rw [if_pos rfl]
theorem rPrt_93 : rPrt ρ k n 93 = ρ 93 + 1 := by unfold rPrt; rw [if_neg (by omega), if_pos rfl]
theorem rPrt_a : rPrt ρ k n (95 + 3 * ρ 93) = k := by unfold rPrt; rw [if_neg (by omega), if_neg (by omega), if_pos rfl]
theorem rPrt_b : rPrt ρ k n (96 + 3 * ρ 93) = ρ 92 + n := by unfold rPrt; rw [if_neg (by omega), if_neg (by omega), if_neg (by omega), if_pos rfl]
theorem rPrt_c : rPrt ρ k n (97 + 3 * ρ 93) = plc ρ k := by unfold rPrt; rw [if_neg (by omega), if_neg (by omega), if_neg (by omega), if_neg (by omega), if_pos rfl]
theorem prC_lt {kind col place cl : Nat} {C : Nat → Nat} {i : Nat} (hc : col < 8) (hC : C i < 8) : prC kind col place cl C i < 8 := by
  unfold prC mixN
  have : (C i + col) % 8 < 8 := Nat.mod_lt _ (by decide)
  split
  · split
    · exact hc
    · split
      · split <;> omega
      · exact hC
  · exact hC
theorem prS_lt {kind place cl : Nat} {S : Nat → Nat} {i : Nat} (hS : S i < 10) : prS kind place cl S i < 10 := by
  unfold prS
  split
  · split
    · omega
    · split
      · split <;> omega
      · exact hS
  · exact hS
theorem prL_lt {kind place cl : Nat} (hp : place < 65536) (hc : cl < 65536) : prL kind place cl < 65536 := by
  unfold prL
  split
  · exact Nat.or_lt_two_pow (n := 16) hc hp
  · exact hc
theorem WF_prt (hw : WF ρ) (hk : k < ρ 0) (hn : n ≤ 9) (h12 : ρ 93 < 12) : WF (rPrt ρ k n) := by
  obtain ⟨h1, h2, h3, h4, h5, h6, h7⟩ := hw
  have hb := h2 k hk
  have g : ∀ i, i < 59 → rPrt ρ k n i = ρ i := fun i hi => rPrt_lo (Or.inl hi)
  refine ⟨by rw [g 0 (by omega)]; exact h1, fun j hj => ?_, fun c hc => ⟨?_, ?_, ?_⟩, ?_, ?_, ?_, fun i hi => ?_⟩
  · rw [g 0 (by omega)] at hj
    have := h2 j hj
    unfold WB at this ⊢
    rw [g (1 + 7 * j) (by omega), g (2 + 7 * j) (by omega), g (3 + 7 * j) (by omega), g (4 + 7 * j) (by omega), g (5 + 7 * j) (by omega), g (6 + 7 * j) (by omega), g (7 + 7 * j) (by omega)]
    exact this
  · rw [g (43 + c) (by omega)]; exact (h3 c hc).1
  · rw [rPrt_C hc]; exact prC_lt hb.2.1.2 (h3 c hc).2.1
  · rw [rPrt_S hc]; exact prS_lt (h3 c hc).2.2
  · rw [rPrt_91]; exact prL_lt (plc_lt ρ k) h4
  · rw [rPrt_93]; omega
  · rw [rPrt_92, rPrt_93]; omega
  · rw [rPrt_93] at hi
    rw [g 0 (by omega), rPrt_92]
    by_cases e : i = ρ 93
    · subst e
      rw [rPrt_a, rPrt_b, rPrt_c]
      exact ⟨hk, Nat.le_refl _, plc_lt ρ k⟩
    · have := h7 i (by omega)
      rw [rPrt_lo (Or.inr (by omega)), rPrt_lo (Or.inr (by omega)), rPrt_lo (Or.inr (by omega))]
      exact ⟨this.1, by omega, this.2.2⟩
end RP
theorem e_plB {μ : xM} {ρ : Nat → Nat} {k : Nat} (hB : RB μ 1 ρ) (h6 : ρ 0 ≤ 6) (hk : k < ρ 0) {Q : Int32 → xM → Prop} : p_X0_placeOf 2 (nI k) μ Q ↔ Q (nI (plc ρ k)) μ := by
  unfold p_X0_placeOf
  simp only [shp]
  rw [e_at (by simp only [shl]; omega) (by decide +kernel)]
  have := (hB.2 k hk).2.2.2.2.2.2.1
  rw [show (9 : Nat) = 1 + 8 from rfl, this]
/-- a BLOCK printed on a sheet q -/
theorem e_prOn {μ : xM} {ρ C S : Nat → Nat} {k q cl : Nat} (hB : RB μ 1 ρ) (hW : WF ρ) (hk : k < ρ 0) (hs : SH μ q C S cl) (hC : ∀ i, i < 16 → C i < 8) (hS : ∀ i, i < 16 → S i < 10) {Q : xM → Prop} (hQ : ∀ ν, fr (fun x => x = q) μ ν → SH ν q (prC (ρ (1 + 7 * k)) (ρ (2 + 7 * k)) (plc ρ k) cl C) (prS (ρ (1 + 7 * k)) (plc ρ k) cl S) (prL (ρ (1 + 7 * k)) (plc ρ k) cl) → Q ν) : p_X0_printOn 2 q (nI k) μ Q := by
  have h6 := hW.1
  have hb := hW.2.1 k hk
  unfold p_X0_printOn
  simp only [shp]
  have q1 : μ.1 3 k = nI (ρ (1 + 7 * k)) := (hB.2 k hk).1
  have q2 : μ.1 4 k = nI (ρ (2 + 7 * k)) := (hB.2 k hk).2.1
  rw [e_at (by simp only [shl]; omega) (by decide +kernel), q1, e_at (by simp only [shl]; omega) (by decide +kernel), q2, e_plB hB h6 hk]
  exact e_take hs hC hS hb.2.1.2 hb.1 (plc_lt ρ k) hQ
theorem e_prtX {μ : xM} {ρ : Nat → Nat} {σ : Int32} {k n : Nat} (hR : Rep μ 1 ρ σ) (hW : WF ρ) (hk : k < ρ 0) (hn : n ≤ 9) (h12 : ρ 93 < 12) {Q : Int32 → xM → Prop} (hQ : ∀ ν, fr (fun q => 11 ≤ q ∧ q ≤ 15) μ ν → Rep ν 1 (rPrt ρ k n) (σ + smS ρ (ρ 92 + n) (plc ρ k) (ρ 93)) → Q (smS ρ (ρ 92 + n) (plc ρ k) (ρ 93)) ν) : p_X2_printNext 11 2 (nI k) (nI n) μ Q := by
  have h6 := hW.1
  obtain ⟨hB, ⟨hs, hh, hc, hsm, hP⟩, hpl⟩ := hR
  unfold p_X2_printNext
  simp only [shp]
  intro μ1 e1
  have hh' : μ.1 11 1 = nI (ρ 92) := hh
  rw [hh', nI_add] at e1
  have F1 : fr (fun q => q = 11) μ μ1 := by rw [e1]; exact fr_xi rfl
  have B1 : RB μ1 1 ρ := RB_ext (fun q a b => (F1 q (by omega)).1) (fun _ _ => rfl) h6 hB
  rw [e_plB B1 h6 hk]
  unfold p_X2_smearOn
  have c1 : μ1.1 11 2 = nI (ρ 93) := by rw [e1, y_xi, if_neg (by decide)]; exact hc
  have hr1 : μ1.1 11 1 = nI (ρ 92 + n) := by rw [e1, y_xi, if_pos ⟨rfl, rfl⟩]
  have P1 : ∀ i, i < ρ 93 → RPi μ1 1 ρ i := by
    intro i hi
    have := hP i hi
    unfold RPi at this ⊢
    rw [(F1 (1 + 12) (by decide)).1, (F1 (1 + 13) (by decide)).1, (F1 (1 + 14) (by decide)).1]
    exact this
  refine ⟨ρ 93 + 1, l_smX B1 c1 hr1 P1 hW (plc_lt ρ k) ?_ (ρ 93) 0 (by omega)⟩
  have s1 : SH μ1 12 (fun c => ρ (59 + c)) (fun c => ρ (75 + c)) (ρ 91) := by
    have hs' : SH μ 12 (fun c => ρ (59 + c)) (fun c => ρ (75 + c)) (ρ 91) := hs
    unfold SH at hs' ⊢
    rw [(F1 12 (by decide)).1, (F1 12 (by decide)).2]
    exact hs'
  refine e_prOn B1 hW hk s1 (fun i hi => (hW.2.2.1 i hi).2.1) (fun i hi => (hW.2.2.1 i hi).2.2) (fun μ6 F6 s6 => ?_)
  have k11 : μ6.1 11 = μ1.1 11 := (F6 11 (by decide)).1
  rw [k11, c1, e_put (by simp only [shl]; omega) (by decide +kernel)]
  have j1 : ∀ v, (xi μ6 13 (ρ 93) v).1 11 = μ1.1 11 := fun v => by rw [y_xin (by decide), k11]
  rw [j1, c1, hr1, e_put (by simp only [shl]; omega) (by decide +kernel)]
  have j2 : ∀ v w, (xi (xi μ6 13 (ρ 93) v) 14 (ρ 93) w).1 11 = μ1.1 11 := fun v w => by rw [y_xin (by decide), j1]
  rw [j2, c1, e_put (by simp only [shl]; omega) (by decide +kernel)]
  intro μ10 e10 μ11 e11
  have j3 : ∀ v w z, (xi (xi (xi μ6 13 (ρ 93) v) 14 (ρ 93) w) 15 (ρ 93) z).1 11 = μ1.1 11 := fun v w z => by rw [y_xin (by decide), j2]
  rw [j3, c1, nI_1] at e10
  have j4 : μ10.1 11 3 = σ := by rw [e10, y_xi, if_neg (by decide), j3, e1, y_xi, if_neg (by decide)]; exact hsm
  rw [j4] at e11
  have F : fr (fun q => 11 ≤ q ∧ q ≤ 15) μ μ11 := by
    refine fr_tr (fr_mono F1 (fun q e => by omega)) (fr_tr (fr_mono F6 (fun q e => by omega)) ?_)
    rw [e11, e10]
    exact fr_tr (fr_tr (fr_tr (fr_tr (fr_xi (by omega)) (fr_xi (by omega))) (fr_xi (by omega))) (fr_xi (by omega))) (fr_xi (by omega))
  have G : ∀ q, q ≠ 11 → q ≠ 13 → q ≠ 14 → q ≠ 15 → μ11.1 q = μ6.1 q := by
    intro q a b c d
    rw [e11, y_xin a, e10, y_xin a, y_xin d, y_xin c, y_xin b]
  have G2 : μ11.2 = μ6.2 := by rw [e11, y_xi2, e10, y_xi2, y_xi2, y_xi2, y_xi2]
  refine hQ μ11 F ⟨RB_ext (fun q a b => (F q (by omega)).1) (fun i hi => rPrt_lo (by omega)) h6 hB, ⟨⟨?_, ?_, ?_⟩, ?_, ?_, ?_, fun i hi => ?_⟩, ?_⟩
  · rw [G2, nb_ext (d2 := prC (ρ (1 + 7 * k)) (ρ (2 + 7 * k)) (plc ρ k) (ρ 91) (fun c => ρ (59 + c))) 16 (fun i hi => rPrt_C hi)]; exact s6.1
  · rw [G2, nb_ext (d2 := prS (ρ (1 + 7 * k)) (plc ρ k) (ρ 91) (fun c => ρ (75 + c))) 16 (fun i hi => rPrt_S hi)]; exact s6.2.1
  · rw [rPrt_91, G _ (by decide) (by decide) (by decide) (by decide)]; exact s6.2.2
  · rw [rPrt_92, e11, y_xi, if_neg (by decide), e10, y_xi, if_neg (by decide), j3, hr1]
  · rw [rPrt_93, e11, y_xi, if_neg (by decide), e10, y_xi, if_pos ⟨rfl, rfl⟩]
  · rw [e11, y_xi, if_pos ⟨rfl, rfl⟩]
  · rw [rPrt_93] at hi
    have R13 : ∀ j, μ11.1 13 j = if j = ρ 93 then nI k else μ.1 13 j := by
      intro j
      rw [e11, y_xin (by decide), e10, y_xin (by decide), y_xin (by decide), y_xin (by decide), y_xi, (F6 13 (by decide)).1, (F1 13 (by decide)).1]
      simp
    have R14 : ∀ j, μ11.1 14 j = if j = ρ 93 then nI (ρ 92 + n) else μ.1 14 j := by
      intro j
      rw [e11, y_xin (by decide), e10, y_xin (by decide), y_xin (by decide), y_xi, y_xin (by decide), (F6 14 (by decide)).1, (F1 14 (by decide)).1]
      simp
    have R15 : ∀ j, μ11.1 15 j = if j = ρ 93 then nI (plc ρ k) else μ.1 15 j := by
      intro j
      rw [e11, y_xin (by decide), e10, y_xin (by decide), y_xi, y_xin (by decide), y_xin (by decide), (F6 15 (by decide)).1, (F1 15 (by decide)).1]
      simp
    unfold RPi
    rw [R13, R14, R15]
    by_cases e : i = ρ 93
    · subst e
      rw [if_pos rfl, if_pos rfl, if_pos rfl, rPrt_a, rPrt_b, rPrt_c]
      exact ⟨rfl, rfl, rfl⟩
    · have := hP i (by omega)
      rw [if_neg e, if_neg e, if_neg e, rPrt_lo (Or.inr (by omega)), rPrt_lo (Or.inr (by omega)), rPrt_lo (Or.inr (by omega))]
      exact this
  · rw [nb_ext (d2 := fun i => ρ (43 + i)) 16 (fun i hi => rPrt_lo (by omega)), (F 1 (by omega)).2]
    exact hpl
