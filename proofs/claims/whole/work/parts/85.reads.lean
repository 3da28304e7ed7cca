/-! reads -/
theorem CM_FP {μ ν : xM} {ρ : Nat → Nat} {σ : Int32} {h L : Nat} {Hρ : Nat → Nat → Nat} {Hσ : Nat → Int32} {c : Nat → Int32} {T : Nat → Nat} (F : FP μ ν) (hm : CM μ ρ σ h Hρ Hσ c L T) : CM ν ρ σ h Hρ Hσ c L T := by
  obtain ⟨h1, h2, h3, h4⟩ := hm
  refine ⟨?_, MH_fr (F.2 3 (by decide) (by decide) (by decide)) (F.1 107 (by decide)).1 h2, ?_, ?_⟩
  · rw [(F.1 105 (by decide)).1]; exact h1
  · rw [(F.1 108 (by decide)).1]; exact h3
  · rw [F.2 17 (by decide) (by decide) (by decide), (F.1 117 (by decide)).1]; exact h4
theorem l_ex {μ : xM} {ρ : Nat → Nat} {σ : Int32} {acc : List oT} (hO : OD μ acc) (hlen : acc.length < 80) {K : Int32 → xM → Prop} (hK : ∀ κ, FO μ κ → MR (κ.1 105) (exF ρ σ acc).1 (exF ρ σ acc).2.1 → K (nI (exF ρ σ acc).2.2) κ) : ∀ rest pre ν, pre ++ rest = acc → FO μ ν → MR (ν.1 105) (exF ρ σ pre).1 (exF ρ σ pre).2.1 → WF (exF ρ σ pre).1 → L_X12_reads_79 104 (rest.length + 1) (nI pre.length) (nI (exF ρ σ pre).2.2) ν K
  | [], pre, ν, hp, F, hM, hW => by
    rw [List.append_nil] at hp
    subst hp
    have g20 : ν.1 104 20 = nI pre.length := by rw [F.2 20 (by decide)]; exact hO.1
    unfold L_X12_reads_79 B_X12_reads_79
    rw [g20]
    exact ⟨fun _ => hK ν F hM, fun h => absurd (nI_le (Nat.le_refl _) (by omega)) h⟩
  | o :: rest, pre, ν, hp, F, hM, hW => by
    have g20 : ν.1 104 20 = nI acc.length := by rw [F.2 20 (by decide)]; exact hO.1
    have hlp : pre.length < acc.length := by rw [← hp]; simp
    have ho : acc[pre.length]? = some o := by rw [← hp]; simp
    obtain ⟨o1, o2, o3⟩ := hO.2 _ o ho
    have np : ∀ q, (q = 118 ∨ q = 119) → ¬ (prP q ∨ q = 105) := by intro q hq h; unfold prP at h; omega
    show L_X12_reads_79 104 (rest.length + 1 + 1) (nI pre.length) (nI (exF ρ σ pre).2.2) ν K
    unfold L_X12_reads_79 B_X12_reads_79
    rw [g20]
    refine ⟨fun h => absurd h (nI_ge (by omega) (by omega)), fun _ => ?_⟩
    have hs3 : exF ρ σ (pre ++ [o]) = exS (exF ρ σ pre) o := exF_s
    refine e_doM (l := o.1) (nm := o.2) o1 (by omega) ⟨by rw [(F.1 118 (np _ (by omega))).1]; exact o2, fun i hi => by rw [(F.1 119 (np _ (by omega))).1]; exact o3 i hi⟩ hM hW (fun κ r F2 hM2 hr => ?_)
    have z := l_ex hO hlen hK rest (pre ++ [o]) κ (by rw [← hp]; simp) (FO_tr F F2) (by rw [hs3]; exact hM2) (by rw [hs3]; exact ex1_WF hW)
    rw [hs3, show (pre ++ [o]).length = pre.length + 1 by simp] at z
    unfold exS at z
    simp only [forall_eq, nI_1, add0]
    rw [hr]
    refine ⟨fun hb => ?_, fun hb => ?_⟩
    · rw [if_neg (by rw [hb]; decide)] at z
      exact z
    · have hb' : (ex1 o.1 o.2 (exF ρ σ pre).1 (exF ρ σ pre).2.1).2.2 = true := by simpa using hb
      rw [if_pos hb'] at z
      exact z
theorem e_rdM {μ : xM} {ρ : Nat → Nat} {σ : Int32} {h L : Nat} {Hρ : Nat → Nat → Nat} {Hσ : Nat → Int32} {c : Nat → Int32} {T : Nat → Nat} (hm : CM μ ρ σ h Hρ Hσ c L T) (hW : WF ρ) (ht : TM μ L T) {r : rT} (hr : goA T L L 0 none [] = r) {Q : Int32 → xM → Prop}
    (hF : ∀ j κ, r = .inl j → fr (fun q => 104 ≤ q) μ κ → CM κ ρ σ h Hρ Hσ c L T → Q (-10 - nI j) κ)
    (hS : ∀ fin κ, r = .inr fin → fr (fun q => 104 ≤ q) μ κ → CM κ (exF ρ σ fin).1 (exF ρ σ fin).2.1 (hct h) (hpu h Hρ ρ) (hpu h Hσ σ) c L T → Q (nI (exF ρ σ fin).2.2) κ) : p_X12_reads 104 μ Q := by
  have hL := ht.2.2.1
  have hr0 : r = Rg T L 0 none [] := by rw [← hr]; rfl
  have hFP : ∀ {κ : xM}, FP μ κ → fr (fun q => 104 ≤ q) μ κ := fun F => fr_mono F.1 (fun q e => by omega)
  /- behind the reading -/
  have bad : ∀ κ j, j ≤ L → r = .inl j → FP μ κ → κ.1 104 19 = nI j → J_X12_reads_55 104 κ Q := by
    intro κ j hj hrj F k9
    unfold J_X12_reads_55
    rw [k9]
    exact ⟨fun h => absurd h (nI_m1 (by omega)), fun _ => hF j κ hrj (hFP F) (CM_FP F hm)⟩
  have good : ∀ κ acc, r = .inr acc → FP μ κ → κ.1 104 19 = -1 → OD κ acc → 2 * acc.length ≤ L → J_X12_reads_55 104 κ Q := by
    intro κ acc hra F k9 hO hlen
    have hmk := CM_FP F hm
    unfold J_X12_reads_55
    refine ⟨fun _ => ?_, fun h => absurd k9 h⟩
    refine e_hold (fun ν1 F1 hv1 => ?_)
    have hO1 : OD ν1 acc := by
      unfold OD
      rw [(F1 104 (by decide)).1, (F1 118 (by decide)).1, (F1 119 (by decide)).1]
      exact hO
    have m1 : MR (ν1.1 105) ρ σ := by rw [(F1 105 (by decide)).1]; exact hmk.1
    have np : ∀ q, (q = 106 ∨ q = 107 ∨ q = 108 ∨ q = 117) → ¬ (prP q ∨ q = 105) := by intro q hq h; unfold prP at h; omega
    refine ⟨acc.length + 1, l_ex (ρ := ρ) (σ := σ) hO1 (by omega) (fun ν2 F2 m2 => ?_) acc [] ν1 rfl FO_rf m1 hW⟩
    have g : ∀ q, ¬ (prP q ∨ q = 105) → ν2.1 q = ν1.1 q := fun q hq => (F2.1 q hq).1
    have g1 : ∀ q, q ≠ 106 → ν1.1 q = κ.1 q := fun q hq => (F1 q hq).1
    obtain ⟨h1, h2, h3, h4⟩ := hmk
    have hH2 : MH ν2 h Hρ Hσ := MH_fr (by rw [F2.2 3 (by decide), g1 _ (by decide)]) (by rw [g _ (np _ (by omega)), g1 _ (by decide)]) h2
    have hh2 : MR (ν2.1 106) ρ σ := by rw [g 106 (np _ (by omega))]; exact held h1 hv1
    refine e_push hH2 hh2 (fun τ F3 u m => hS acc τ hra ?_ ⟨?_, m, ?_, ?_, ?_⟩)
    · exact fr_tr (hFP F) (fr_tr (fr_mono F1 (fun q e => by omega)) (fr_tr (fr_mono F2.1 (fun q e => by unfold prP at e; omega)) (fr_mono F3 (fun q e => by omega))))
    · rw [(F3 105 (by decide)).1]; exact m2
    · rw [(F3 108 (by decide)).1, g _ (np _ (by omega)), g1 _ (by decide)]; exact h3
    · rw [u 17 (by decide), F2.2 17 (by decide), g1 _ (by decide)]; exact h4.1
    · rw [(F3 117 (by decide)).1, g _ (np _ (by omega)), g1 _ (by decide)]; exact h4.2
  unfold p_X12_reads
  simp only [forall_eq]
  have F0 : FP μ (xi (xi (xi μ 104 18 0) 104 19 (-1)) 104 20 0) := ⟨fr_tr (fr_tr (fr_xi (Or.inl rfl)) (fr_xi (Or.inl rfl))) (fr_xi (Or.inl rfl)), fun j a1 a2 a3 => by rw [x_d a3, x_d a2, x_d a1]⟩
  generalize hμ : xi (xi (xi μ 104 18 0) 104 19 (-1)) 104 20 0 = μ3 at F0
  have u8 : μ3.1 104 18 = nI 0 := by rw [← hμ, x_d (by decide), x_d (by decide), x_s]; rfl
  have u9 : μ3.1 104 19 = -1 := by rw [← hμ, x_d (by decide), x_s]
  have u20 : μ3.1 104 20 = nI 0 := by rw [← hμ, x_s]; rfl
  refine e_here (FP_TM F0 ht) (by omega) u8 (fun k κ k1 k2 k3 k4 F2 ek => ?_)
  have Fk : FP μ κ := FP_tr F0 (F8_FP F2)
  have f9 : κ.1 104 19 = -1 := by rw [F2.2 19 (by decide)]; exact u9
  have hrk : r = Rg T L k none [] := hr0.trans (Rg_h0 k 0 k (by omega) k2 k4)
  by_cases hk : k < L
  · have hck := ht.2.2.2 k hk
    rw [if_pos hk]
    refine ⟨fun h => absurd h (nI_m1 (by omega)), fun _ => ?_⟩
    unfold J_X12_reads_29
    refine e_must1 (by decide) ⟨L + 1, ?_⟩
    exact l_rs ht bad good L k [] κ (by omega) k2 hrk (fun _ => ⟨hk, k3 hk⟩) Fk ek f9 ⟨by rw [F2.2 20 (by decide)]; exact u20, fun x o hx => by simp at hx⟩ (by simp)
  · obtain rfl : k = L := by omega
    rw [if_neg hk]
    refine ⟨fun _ => ?_, fun h => absurd rfl h⟩
    unfold J_X12_reads_29
    refine e_must0 f9 ⟨1, ?_⟩
    have w9 : (xi κ 104 19 (κ.1 104 18)).1 104 19 = nI k := by rw [x_s, ek]
    unfold L_X12_reads_32 B_X12_reads_32
    refine ⟨fun _ => bad _ k (Nat.le_refl _) (by rw [hrk, Rg_L]; rfl) (FP_tr Fk (F9_FP F9_xi)) w9, fun h => ?_⟩
    rw [w9] at h
    exact absurd h (nI_m1 (by omega))
theorem CX_rd {μ ν : xM} {t h L : Nat} {ρ : Nat → Nat} {σ : Int32} {Hρ : Nat → Nat → Nat} {Hσ : Nat → Int32} {c : Nat → Int32} {T : Nat → Nat} (hf : fr rdP μ ν) (hx : CX μ t ρ σ h Hρ Hσ c L T) : CX ν t ρ σ h Hρ Hσ c L T := by
  obtain ⟨h1, h2, h3, h4, h5⟩ := hx
  have np : ∀ q, q < 102 → ¬ rdP q := by intro q hq h; unfold rdP at h; omega
  refine ⟨Rep_fr (fun q q1 q2 => hf q (np q (by omega))) h1, CH_fr (fun q q1 q2 => hf q (np q (by omega))) h2, ?_, ?_, iSet_fr (hf 95 (np _ (by omega))).1 (hf 98 (np _ (by omega))).1 h5⟩
  · rw [(hf 0 (np _ (by omega))).1]; exact h3
  · rw [(hf 100 (np _ (by omega))).1, (hf 101 (np _ (by omega))).1]; exact h4
theorem CX_S2 {μ ν κ : xM} {t h L : Nat} {ρ ρ2 : Nat → Nat} {σ σ2 : Int32} {Hρ : Nat → Nat → Nat} {Hσ : Nat → Int32} {c : Nat → Int32} {T : Nat → Nat} (hx : CX μ t ρ σ h Hρ Hσ c L T) (f1 : fr (fun x => 16 ≤ x ∧ x < 93) μ ν) (hc : CH ν (hct h) (hpu h Hρ ρ) (hpu h Hσ σ)) (f2 : fr dtP ν κ) (hr : Rep κ 1 ρ2 σ2) : CX κ t ρ2 σ2 (hct h) (hpu h Hρ ρ) (hpu h Hσ σ) c L T := by
  obtain ⟨h1, h2, h3, h4, h5⟩ := hx
  have np : ∀ q, ¬ (2 ≤ q ∧ q < 16) → q < 102 → ¬ dtP q := by intro q hq hq2 h; unfold dtP at h; omega
  have g : ∀ q, ¬ (1 ≤ q ∧ q < 93) → q < 102 → κ.1 q = μ.1 q := fun q hq hq2 => (f2 q (np q (by omega) hq2)).1.trans (f1 q (by omega)).1
  refine ⟨hr, CH_fr (fun q q1 q2 => f2 q (np q (by omega) (by omega))) hc, ?_, ?_, iSet_fr (g 95 (by decide) (by decide)) (g 98 (by decide) (by decide)) h5⟩
  · rw [g 0 (by decide) (by decide)]; exact h3
  · rw [g 100 (by decide) (by decide), g 101 (by decide) (by decide)]; exact h4
theorem op_reads {μ : xM} {t : Nat} (hI : Inv t μ) : p_X11_reads 0 μ (fun r1 μ1 => p_X12_reads 104 μ1 (fun r2 μ2 => r1 = r2 ∧ Inv (t + 1) μ2)) := by
  obtain ⟨ρ, σ, h, Hρ, Hσ, cc, L, T, hw, hx, hm⟩ := hI
  have hL := hw.2.2.1
  have hT : TX μ L T := ⟨hx.2.2.2.1.1, hx.2.2.2.1.2, hw.2.2.1, hw.2.2.2⟩
  unfold p_X11_reads
  refine e_flt hT (fun κ fin F hg => ?_) (fun κ j F hg hj => ?_)
  · refine ⟨fun _ => ?_, fun h => absurd rfl h⟩
    have hxk := CX_rd F hx
    simp only [shp]
    refine keepR hw.1 hxk (fun μ4 f4 hc4 hr4 => ?_)
    have hT4 : TX μ4 L T := by
      have e0 := (f4 100 (by decide)).1
      have e1 := (f4 101 (by decide)).1
      unfold TX
      rw [e0, e1]
      exact ⟨hxk.2.2.2.1.1, hxk.2.2.2.1.2, hw.2.2.1, hw.2.2.2⟩
    refine e_dt hT4 hr4 hw.1 hg (fun ν F5 hR5 hW5 => ?_)
    have fX : fr (fun q => q < 104 ∨ q = 106) μ ν := fr_tr (fr_mono F (fun q e => by unfold rdP at e; omega)) (fr_tr (fr_mono f4 (fun q e => by omega)) (fr_mono F5 (fun q e => by unfold dtP at e; omega)))
    have hm1 := CM_fr fX hm
    have htm : TM ν L T := ⟨hm1.2.2.2.1, hm1.2.2.2.2, hw.2.2.1, hw.2.2.2⟩
    refine e_rdM hm1 hw.1 htm hg (fun j κ2 e _ _ => by simp at e) (fun fin2 κ2 e G hm2 => ?_)
    injection e with e
    subst e
    refine ⟨rfl, _, _, _, _, _, _, _, _, hpu_WF hw hm.2.1.1 hW5, ?_, hm2⟩
    exact CX_t (Nat.le_succ t) (CX_fr G (CX_S2 hxk f4 hc4 F5 hR5))
  · refine ⟨fun h => absurd h (nI_m1 (by omega)), fun _ => ?_⟩
    have hxk := CX_rd F hx
    have hm1 := CM_fr (fr_mono F (fun q e => by unfold rdP at e; omega)) hm
    have htm : TM κ L T := ⟨hm1.2.2.2.1, hm1.2.2.2.2, hw.2.2.1, hw.2.2.2⟩
    refine e_rdM hm1 hw.1 htm hg (fun j2 κ2 e G hm2 => ?_) (fun fin2 κ2 e _ _ => by simp at e)
    have e2 : j = j2 := Sum.inl.inj e
    rw [← e2]
    exact ⟨rfl, inv_id hw (CX_fr G hxk) hm2⟩
