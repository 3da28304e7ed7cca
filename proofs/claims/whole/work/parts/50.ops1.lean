theorem up1_s {d : Nat → Nat} {c v : Nat} : up1 d c v c = v := by simp [up1]
theorem up1_n {d : Nat → Nat} {c v i : Nat} (h : ¬ i = c) : up1 d c v i = d i := by simp [up1, h]
theorem i_of {x : Int32} {m : Nat} (hm : m < 2 ^ 31) (h0 : 0 ≤ x) (h1 : x ≤ nI m) : ∃ k, k ≤ m ∧ x = nI k := nI_of2 (nI_toInt hm) (by grind) h1
theorem i_of1 {x : Int32} {m : Nat} (hm : m < 2 ^ 31) (h0 : 1 ≤ x) (h1 : x ≤ nI m) : ∃ k, 1 ≤ k ∧ k ≤ m ∧ x = nI k := by
  obtain ⟨k, h2, h3⟩ := i_of hm (by grind) h1
  refine ⟨k, ?_, h2, h3⟩
  rcases Nat.eq_zero_or_pos k with e | e
  · subst e
    rw [h3] at h0
    exact absurd h0 (by decide)
  · exact e
theorem op_type {μ : xM} {t : Nat} (hI : Inv t μ) (a : Int32) : p_X11_type 0 a μ (fun r1 μ1 => p_X12_type 104 a μ1 (fun r2 μ2 => r1 = r2 ∧ Inv (t + 1) μ2)) := by
  obtain ⟨ρ, σ, h, Hρ, Hσ, c, L, T, hw, hx, hm⟩ := hI
  unfold p_X11_type p_X12_type p_X10_add
  simp only [shp, shm, e_in, e_within, y_b0]
  have hL := hx.2.2.2.1.1
  have hL2 := hm.2.2.2.1
  have hl150 := hw.2.2.1
  refine ⟨fun hv => ⟨fun hlt => ?_, fun hn => ?_⟩, fun hn => ?_⟩
  · have hv' := Decidable.not_not.mp hv
    obtain ⟨b, hb, rfl⟩ := i_of (m := 127) (by decide) hv'.1 hv'.2
    rw [hL, show (150 : Int32) = nI 150 from rfl, nI_ltI (by omega) (by decide)] at hlt
    rw [hL, e_put (by simp only [shl]; exact hlt) (by decide +kernel)]
    intro μ1 e1
    have f1 : fr (fun q => q = 100 ∨ q = 101) μ μ1 := by rw [e1]; exact fr_tr (fr_xi (Or.inr rfl)) (fr_xi (Or.inl rfl))
    have k1 : (xi μ 101 L (nI b)).1 100 1 = nI L := by rw [y_xi, if_neg (by omega), hL]
    rw [k1, nI_1] at e1
    have g104 : μ1.1 104 = μ.1 104 := (f1 104 (by decide)).1
    rw [g104, hL2]
    refine ⟨fun _ => ⟨fun hne => ⟨vp_in_nI hlt (by decide), ?_⟩, fun he => ?_⟩, fun hn => absurd hv' hn⟩
    · intro μ2 e2 μ3 e3
      rw [nI_clamp (by omega)] at e2
      have k2 : μ2.1 104 17 = nI L := by rw [e2, y_xi, if_neg (by omega), g104, hL2]
      rw [k2, nI_1] at e3
      have f2 : fr (fun q => q = 104 ∨ q = 117) μ1 μ3 := by rw [e3, e2]; exact fr_tr (fr_xi (Or.inr rfl)) (fr_xi (Or.inl rfl))
      refine ⟨?_, ρ, σ, h, Hρ, Hσ, c, L + 1, (up1 T L b), ⟨hw.1, hw.2.1, by omega, fun i hi => ?_⟩, ?_, ?_⟩
      · rw [e1, y_xi, if_pos ⟨rfl, rfl⟩, e3, y_xi, if_pos ⟨rfl, rfl⟩]
      · by_cases e : i = L
        · rw [e, up1_s]; omega
        · rw [up1_n e]; exact hw.2.2.2 i (by omega)
      · refine CX_t (Nat.le_succ t) (CX_fr (fr_mono f2 (fun q e => by omega)) ?_)
        obtain ⟨h1, h2, h3, h4, h5⟩ := hx
        refine ⟨Rep_fr (fun q q1 q2 => f1 q (by omega)) h1, CH_fr (fun q q1 q2 => f1 q (by omega)) h2, by rw [(f1 0 (by decide)).1]; exact h3, ⟨?_, fun i hi => ?_⟩, iSet_fr (f1 95 (by decide)).1 (f1 98 (by decide)).1 h5⟩
        · rw [e1, y_xi, if_pos ⟨rfl, rfl⟩]
        · rw [e1, y_xi, if_neg (by omega), y_xi]
          by_cases e : i = L
          · rw [if_pos ⟨rfl, e⟩, e, up1_s]
          · rw [if_neg (by omega), up1_n e]; exact h4.2 i (by omega)
      · have hm1 := CM_fr (fr_lo (fun q e => by omega) f1) hm
        obtain ⟨h1, h2, h3, h4⟩ := hm1
        refine ⟨by rw [(f2 105 (by decide)).1]; exact h1, MH_fr ?_ (f2 107 (by decide)).1 h2, by rw [(f2 108 (by decide)).1]; exact h3, ?_, fun i hi => ?_⟩
        · rw [e3, y_xi, if_neg (by decide), e2, y_xi, if_neg (by omega)]
        · rw [e3, y_xi, if_pos ⟨rfl, rfl⟩]
        · rw [e3, y_xi, if_neg (by omega), e2, y_xi]
          by_cases e : i = L
          · rw [if_pos ⟨rfl, e⟩, e, up1_s]
          · rw [if_neg (by omega), up1_n e]; exact h4.2 i (by omega)
    · rw [show (150 : Int32) = nI 150 from rfl, nI_eq (by omega) (by decide)] at he
      omega
  · have hv' := Decidable.not_not.mp hv
    rw [hL, show (150 : Int32) = nI 150 from rfl, nI_ltI (by omega) (by decide)] at hn
    obtain rfl : L = 150 := by omega
    refine e_refX2 ?_
    have k1 : (xi μ 0 7 (μ.1 0 7 + 1)).1 104 17 = 150 := by rw [y_xi, if_neg (by decide), hL2]; rfl
    refine ⟨fun _ => ⟨fun hne => absurd k1 hne, fun _ => e_refM2 ⟨rfl, inv_ref (j := 2) (by decide) hw hx hm fr_rf⟩⟩, fun hn => absurd hv' hn⟩
  · refine e_refX0 ?_
    exact ⟨fun hv => absurd hn hv, fun _ => e_refM0 ⟨rfl, inv_ref (j := 0) (by decide) hw hx hm fr_rf⟩⟩
theorem op_back {μ : xM} {t : Nat} (hI : Inv t μ) : p_X11_back 0 μ (fun r1 μ1 => p_X12_back 104 μ1 (fun r2 μ2 => r1 = r2 ∧ Inv (t + 1) μ2)) := by
  obtain ⟨ρ, σ, h, Hρ, Hσ, c, L, T, hw, hx, hm⟩ := hI
  unfold p_X11_back p_X12_back
  simp only [shp]
  have hX : μ.1 16 2 = nI h := by
    obtain ⟨nx, q⟩ := hx.2.1
    exact q.2.2.2.1
  have hM := hm.2.1.2.1
  have hh5 := hm.2.1.1
  rw [hX]
  refine ⟨fun hne => ?_, fun he => ?_⟩
  · have hpos : 0 < h := by
      rcases Nat.eq_zero_or_pos h with e | e
      · subst e; exact absurd rfl hne
      · exact e
    obtain ⟨g, rfl⟩ : ∃ g, h = g + 1 := ⟨h - 1, by omega⟩
    refine e_restore hx.2.1 (fun ν F hC hR => ?_)
    have e104 : ν.1 104 = μ.1 104 := (F 104 (by decide)).1
    rw [e104, hM]
    refine ⟨fun _ => ?_, fun he => absurd he (nI_ne0 (by omega) (by omega))⟩
    intro μ2 e2
    rw [nI_pred] at e2
    have f2 : fr (fun q => q = 104) ν μ2 := by rw [e2]; exact fr_xi rfl
    refine ⟨132, l_backM (h := g) (by omega) (by rw [e2, y_xi, if_pos ⟨rfl, rfl⟩]) ?_ 131 0 μ2 rfl fr_rf (fun k hk => absurd hk (Nat.not_lt_zero k))⟩
    intro κ F3 hv
    have hc16 : ν.1 16 2 = nI g := by
      obtain ⟨nx, q⟩ := hC
      exact q.2.2.2.1
    refine ⟨?_, Hρ g, Hσ g, g, Hρ, Hσ, c, L, T, ⟨hw.2.1 g (by omega), fun i hi => hw.2.1 i (by omega), hw.2.2⟩, ?_, ?_⟩
    · rw [hc16, (F3 104 (by decide)).1, e2, y_xi, if_pos ⟨rfl, rfl⟩]
    · have f23 : fr (fun q => 104 ≤ q) ν κ := fr_tr (fr_mono f2 (fun q e => by subst e; decide)) (fr_mono F3 (fun q e => by subst e; decide))
      refine CX_t (Nat.le_succ t) (CX_fr f23 ?_)
      obtain ⟨h1, h2, h3, h4, h5⟩ := hx
      exact ⟨hR, hC, by rw [(F 0 (by decide)).1]; exact h3, by rw [(F 100 (by decide)).1, (F 101 (by decide)).1]; exact h4, iSet_fr (F 95 (by decide)).1 (F 98 (by decide)).1 h5⟩
    · obtain ⟨h1, h2, h3, h4⟩ := hm
      have k107 : κ.1 107 = μ.1 107 := by rw [(F3 107 (by decide)).1, (f2 107 (by decide)).1, (F 107 (by decide)).1]
      have k104 : κ.1 104 = μ2.1 104 := (F3 104 (by decide)).1
      refine ⟨?_, ⟨by omega, ?_, fun i hi => ?_⟩, ?_, ?_, ?_⟩
      · refine MR_ext (fun k hk => ?_) (h2.2.2 g (by omega))
        rw [hv k hk, (f2 107 (by decide)).1, (F 107 (by decide)).1]
      · rw [k104, e2, y_xi, if_pos ⟨rfl, rfl⟩]
      · rw [k107]; exact h2.2.2 i (by omega)
      · rw [(F3 108 (by decide)).1, (f2 108 (by decide)).1, (F 108 (by decide)).1]; exact h3
      · rw [k104, e2, y_xi, if_neg (by decide), e104]; exact h4.1
      · rw [(F3 117 (by decide)).1, (f2 117 (by decide)).1, (F 117 (by decide)).1]; exact h4.2
  · have h0 : h = 0 := by
      rw [show (0 : Int32) = nI 0 from rfl, nI_eq (by omega) (by decide)] at he
      exact he
    subst h0
    refine e_refX1 ?_
    have k1 : (xi μ 0 6 (μ.1 0 6 + 1)).1 104 3 = 0 := by rw [y_xi, if_neg (by decide), hM]; rfl
    exact ⟨fun hne => absurd k1 hne, fun _ => e_refM1 ⟨rfl, inv_ref (j := 1) (by decide) hw hx hm fr_rf⟩⟩
