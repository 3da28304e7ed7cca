section OPS
variable {μ ν κ : xM} {t h L : Nat} {ρ ρ2 : Nat → Nat} {σ σ2 : Int32} {Hρ : Nat → Nat → Nat} {Hσ : Nat → Int32} {c : Nat → Int32} {T : Nat → Nat}
theorem CX_S (hx : CX μ t ρ σ h Hρ Hσ c L T) (f1 : fr (fun x => 16 ≤ x ∧ x < 93) μ ν) (hc : CH ν (hct h) (hpu h Hρ ρ) (hpu h Hσ σ)) (f2 : fr (fun q => 1 ≤ q ∧ q < 16) ν κ) (hr : Rep κ 1 ρ2 σ2) : CX κ t ρ2 σ2 (hct h) (hpu h Hρ ρ) (hpu h Hσ σ) c L T := by
  obtain ⟨h1, h2, h3, h4, h5⟩ := hx
  have g : ∀ q, ¬ (1 ≤ q ∧ q < 93) → κ.1 q = μ.1 q := fun q hq => (f2 q (by omega)).1.trans (f1 q (by omega)).1
  refine ⟨hr, CH_fr (fun q q1 q2 => f2 q (by omega)) hc, ?_, ?_, iSet_fr (g 95 (by decide)) (g 98 (by decide)) h5⟩
  · rw [g 0 (by decide)]; exact h3
  · rw [g 100 (by decide), g 101 (by decide)]; exact h4
theorem keepR (hw : WF ρ) (hx : CX μ t ρ σ h Hρ Hσ c L T) {Q : xM → Prop} (hQ : ∀ ν, fr (fun x => 16 ≤ x ∧ x < 93) μ ν → CH ν (hct h) (hpu h Hρ ρ) (hpu h Hσ σ) → Rep ν 1 ρ σ → Q ν) : p_X3_keep 16 1 μ Q :=
  e_keep hw.1 hw.2.2.2.2.1 hx.1 hx.2.1 (fun ν f hc => hQ ν f hc (Rep_fr (fun q q1 q2 => f q (by omega)) hx.1))
theorem hpu_WF (hw : CW ρ h Hρ L T) (hh : h ≤ 5) (h2 : WF ρ2) : CW ρ2 (hct h) (hpu h Hρ ρ) L T := by
  refine ⟨h2, fun i hi => ?_, hw.2.2⟩
  unfold hct at hi
  unfold hpu
  by_cases e : h = 5
  · simp only [e, if_true] at hi ⊢
    by_cases e4 : i = 4
    · simp only [e4, if_true]; exact hw.1
    · simp only [if_neg e4]; exact hw.2.1 (i + 1) (by omega)
  · simp only [if_neg e] at hi ⊢
    by_cases eh : i = h
    · simp only [eh, if_true]; exact hw.1
    · simp only [if_neg eh]; exact hw.2.1 i (by omega)
/-- the reference's end of a call that leaves a state -/
theorem e_endS {j : Nat} (hj : j < 2 ^ 31) (hm : CM μ ρ σ h Hρ Hσ c L T) (hh : MR (ν.1 106) ρ σ) (g107 : ν.1 107 = μ.1 107) (g108 : ν.1 108 = μ.1 108) (g117 : ν.1 117 = μ.1 117) (g3 : ν.1 104 3 = μ.1 104 3) (g17 : ν.1 104 17 = μ.1 104 17) (hr : MR (ν.1 105) ρ2 σ2) {Q : Int32 → xM → Prop} (hQ : ∀ κ, fr (fun q => 104 ≤ q) ν κ → CM κ ρ2 σ2 (hct h) (hpu h Hρ ρ) (hpu h Hσ σ) c L T → Q (nI j) κ) : p_X12_ends 104 (nI j) ν Q := by
  unfold p_X12_ends
  refine ⟨fun _ => ?_, fun hn => absurd (nI_pos' hj) hn⟩
  obtain ⟨h1, h2, h3, h4⟩ := hm
  refine e_push (MH_fr g3 g107 h2) hh (fun κ F u m => hQ κ (fr_mono F (fun q e => by omega)) ⟨?_, m, ?_, ?_, ?_⟩)
  · rw [(F 105 (by decide)).1]; exact hr
  · rw [(F 108 (by decide)).1, g108]; exact h3
  · rw [u 17 (by decide), g17]; exact h4.1
  · rw [(F 117 (by decide)).1, g117]; exact h4.2
/-- the reference's end of a call that is refused -/
theorem e_endR {w : Int32} {j : Nat} (hw : (-2 : Int32) - w = nI j) (hj : j < 3) (hneg : ¬ 0 ≤ w) {Q : Int32 → xM → Prop} (hQ : Q w (xi ν 108 j (ν.1 108 j + 1))) : p_X12_ends 104 w ν Q := by
  unfold p_X12_ends
  exact ⟨fun h => absurd h hneg, fun _ => e_refM hw hj hQ⟩
theorem held {ρ : Nat → Nat} {σ : Int32} (hm : MR (μ.1 105) ρ σ) (hv : ∀ k, k < 131 → ν.1 106 k = μ.1 105 k) : MR (ν.1 106) ρ σ := MR_ext hv hm
end OPS
theorem op_block {μ : xM} {t : Nat} (hI : Inv t μ) (a b c d : Int32) : p_X11_block 0 a b c d μ (fun r1 μ1 => p_X12_block 104 a b c d μ1 (fun r2 μ2 => r1 = r2 ∧ Inv (t + 1) μ2)) := by
  obtain ⟨ρ, σ, h, Hρ, Hσ, cc, L, T, hw, hx, hm⟩ := hI
  have hn6 : ρ 0 ≤ 6 := hw.1.1
  have h0 : μ.1 2 0 = nI (ρ 0) := hx.1.1.1
  unfold p_X11_block
  rw [e_whyBlk, h0]
  simp only [shp]
  by_cases hv : vBlk a b c d
  · rw [if_pos hv]
    by_cases hn : ρ 0 < 6
    · rw [if_pos (show nI (ρ 0) < 6 from nI_lt hn (by decide))]
      refine ⟨fun _ => ?_, fun h => absurd rfl h⟩
      obtain ⟨a2, ha, rfl⟩ := i_of (m := 3) (by decide) hv.1.1 hv.1.2
      obtain ⟨b2, hb1, hb, rfl⟩ := i_of1 (m := 7) (by decide) hv.2.1.1 hv.2.1.2
      obtain ⟨c2, hc, rfl⟩ := i_of (m := 9) (by decide) hv.2.2.1.1 hv.2.2.1.2
      obtain ⟨d2, hd1, hd, rfl⟩ := i_of1 (m := 65535) (by decide) hv.2.2.2.1 hv.2.2.2.2
      refine keepR hw.1 hx (fun μ4 f4 hc4 hr4 => ?_)
      refine e_addX hr4 hn (by omega) (fun ν F hr => ?_)
      have fX : fr (fun q => q < 104 ∨ q = 106) μ ν := fr_tr (fr_mono f4 (fun q e => by omega)) (fr_mono F (fun q e => by omega))
      have hm1 := CM_fr fX hm
      unfold p_X12_block
      refine e_hold (fun ν1 F1 hv1 => ?_)
      have m1 : MR (ν1.1 105) ρ σ := by rw [(F1 105 (by decide)).1]; exact hm1.1
      refine e_doBlk m1 hn6 (fun h => absurd hv h) (fun _ e => by omega) (fun _ _ ν2 F2 hR2 => ?_)
      have g : ∀ q, q ≠ 105 → ν2.1 q = ν1.1 q := fun q hq => (F2 q hq).1
      have g1 : ∀ q, q ≠ 106 → ν1.1 q = ν.1 q := fun q hq => (F1 q hq).1
      refine e_endS (μ := ν) (by omega) hm1 (by rw [g 106 (by decide)]; exact held hm1.1 hv1) (by rw [g _ (by decide), g1 _ (by decide)]) (by rw [g _ (by decide), g1 _ (by decide)]) (by rw [g _ (by decide), g1 _ (by decide)]) (by rw [g _ (by decide), g1 _ (by decide)]) (by rw [g _ (by decide), g1 _ (by decide)]) (hR2 a2 b2 c2 d2 rfl rfl rfl rfl) (fun κ F3 hm3 => ⟨rfl, _, _, _, _, _, _, _, _, hpu_WF hw hm.2.1.1 (WF_add hw.1 hn (by omega) ⟨hb1, by omega⟩ hc ⟨hd1, by omega⟩), ?_, hm3⟩)
      refine CX_t (Nat.le_succ t) (CX_fr (fr_tr (fr_mono F1 (fun q e => by omega)) (fr_tr (fr_mono F2 (fun q e => by omega)) F3)) ?_)
      exact CX_S hx f4 hc4 (fr_mono F (fun q e => by omega)) hr
    · rw [if_neg (show ¬ nI (ρ 0) < 6 from nI_nlt (b := 6) (by omega) (by omega))]
      refine ⟨fun h => absurd h (by decide), fun _ => e_refX2 ?_⟩
      unfold p_X12_block
      refine e_hold (fun ν1 F1 hv1 => ?_)
      have m1 : MR (ν1.1 105) ρ σ := by rw [(F1 105 (by decide)).1, y_xin (by decide)]; exact hm.1
      refine e_doBlk m1 hn6 (fun h => absurd hv h) (fun _ e => ?_) (fun _ e => absurd e hn)
      exact e_endR (j := 2) (by decide) (by decide) (by decide) ⟨rfl, inv_ref (j := 2) (by decide) hw hx hm F1⟩
  · rw [if_neg hv]
    refine ⟨fun h => absurd h (by decide), fun _ => e_refX0 ?_⟩
    unfold p_X12_block
    refine e_hold (fun ν1 F1 hv1 => ?_)
    have m1 : MR (ν1.1 105) ρ σ := by rw [(F1 105 (by decide)).1, y_xin (by decide)]; exact hm.1
    refine e_doBlk m1 hn6 (fun _ => ?_) (fun h => absurd h hv) (fun h => absurd h hv)
    exact e_endR (j := 0) (by decide) (by decide) (by decide) ⟨rfl, inv_ref (j := 0) (by decide) hw hx hm F1⟩
