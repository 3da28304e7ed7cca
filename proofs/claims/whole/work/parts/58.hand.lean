def hitF (C P : Nat → Nat) : Nat → Nat := sm (fun c => if C c = P c then 1 else 0)
theorem sm_le {o : Nat → Nat} (ho : ∀ i, o i ≤ 1) : ∀ k, sm o k ≤ k
  | 0 => Nat.le_refl _
  | k + 1 => by simp only [sm]; have := sm_le ho k; have := ho k; omega
theorem hit_neg (C P : Nat → Nat) : ∀ k, sm (fun c => if C c = P c then 0 else 1) k + hitF C P k = k
  | 0 => rfl
  | k + 1 => by
    have := hit_neg C P k
    unfold hitF at *
    simp only [sm]
    by_cases e : C k = P k <;> simp [e] <;> omega
theorem hitF_le (C P : Nat → Nat) (k : Nat) : hitF C P k ≤ k := sm_le (fun i => by split <;> decide) k
theorem xor0 : ∀ a, a < 16 → ∀ b, b < 16 → (a ^^^ b = 0 ↔ a = b) := by decide +kernel
theorem e_hitsX {μ : xM} {q cl : Nat} {C S P : Nat → Nat} (hs : SH μ q C S cl) (hC : ∀ i, i < 16 → C i < 16) (hP : ∀ i, i < 16 → P i < 16) {Q : Int32 → xM → Prop} (hQ : Q (nI (hitF C P 16)) μ) : p_X7_hits q (lN (nb P 16)) μ Q := by
  unfold p_X7_hits
  have hx : ∀ i, i < 16 → C i ^^^ P i < 16 := fun i hi => Nat.xor_lt_two_pow (n := 4) (hC i hi) (hP i hi)
  rw [hs.1, yl_xor, nb_xor hC hP, e_filled (nb64 hx), fil_nb hx]
  refine e_bcL (fun i hi => by split <;> decide) ?_
  have e : sm (fun i => if C i ^^^ P i = 0 then 0 else 1) 16 = sm (fun c => if C c = P c then 0 else 1) 16 := sm_ext 16 (fun i hi => by simp only [xor0 _ (hC i hi) _ (hP i hi)])
  have h2 := hit_neg C P 16
  rw [e, show (16 : Int32) = nI 16 from rfl, pk_sub (by omega), show 16 - sm (fun c => if C c = P c then 0 else 1) 16 = hitF C P 16 by omega]
  exact hQ
theorem l_hitsM {μ : xM} {ρ : Nat → Nat} {σ : Int32} {C : Nat → Nat} (hM : MR (μ.1 105) ρ σ) (hW : WF ρ) (h9 : ∀ c, c < 16 → μ.1 109 c = nI (C c)) (hC : ∀ i, i < 16 → C i < 16) {K : Int32 → xM → Prop} (hK : K (nI (hitF C (fun c => ρ (43 + c)) 16)) μ) : ∀ d c, c + d = 16 → L_X12_hits_4 104 (d + 1) (nI c) (nI (hitF C (fun c => ρ (43 + c)) c)) μ K
  | 0, c, h => by
    obtain rfl : c = 16 := by omega
    unfold L_X12_hits_4 B_X12_hits_4
    exact ⟨fun _ => hK, fun h => absurd (by decide) h⟩
  | d + 1, c, h => by
    have ih := l_hitsM hM hW h9 hC hK d (c + 1) (by omega)
    unfold L_X12_hits_4 B_X12_hits_4
    simp only [shm]
    refine ⟨fun h2 => absurd h2 (nI_ge (b := 16) (by omega) (by decide)), fun _ => ?_⟩
    rw [show (43 : Int32) = nI 43 from rfl, nI_add, nI_clamp (by omega), nI_clamp (by omega), h9 c (by omega), MR_p hM (by omega) (by omega) (by omega), nI_1]
    have hp := (hW.2.2.1 c (by omega)).1
    have hc := hC c (by omega)
    rw [nI_eq (by omega) (by omega), show nI (hitF C (fun c => ρ (43 + c)) c) + (0 : Int32) = nI (hitF C (fun c => ρ (43 + c)) c) by rw [show (0 : Int32) = nI 0 from rfl, nI_add, Nat.add_zero], nI_1]
    simp only [forall_eq]
    unfold hitF at ih ⊢
    simp only [sm] at ih
    refine ⟨vp_in_nI (by omega) (by decide), v131 (by omega), fun hn => ?_, fun he => ?_⟩
    · rw [if_neg hn] at ih; exact ih
    · rw [if_pos he] at ih; exact ih
theorem e_hitsM {μ : xM} {ρ : Nat → Nat} {σ : Int32} {C : Nat → Nat} (hM : MR (μ.1 105) ρ σ) (hW : WF ρ) (h9 : ∀ c, c < 16 → μ.1 109 c = nI (C c)) (hC : ∀ i, i < 16 → C i < 16) {Q : Int32 → xM → Prop} (hQ : Q (nI (hitF C (fun c => ρ (43 + c)) 16)) μ) : p_X12_hits 104 μ Q := by
  unfold p_X12_hits
  exact ⟨17, l_hitsM hM hW h9 hC hQ 16 0 rfl⟩
/-- the reference's scratch sheet -/
def MS (μ : xM) (C S : Nat → Nat) (cl : Nat) : Prop := (∀ c, c < 16 → μ.1 109 c = nI (C c) ∧ μ.1 110 c = nI (S c)) ∧ μ.1 104 7 = nI cl
def tkP : Nat → Prop := fun q => q = 109 ∨ q = 110
theorem l_take {μ : xM} {K : xM → Prop} (hK : ∀ ν, fr tkP μ ν → (∀ c, c < 16 → ν.1 109 c = μ.1 105 (59 + c) ∧ ν.1 110 c = μ.1 105 (75 + c)) → K ν) : ∀ d i ν, i + d = 16 → fr tkP μ ν → (∀ c, c < i → ν.1 109 c = μ.1 105 (59 + c) ∧ ν.1 110 c = μ.1 105 (75 + c)) → L_X12_takeSheet_2 104 (d + 1) (nI i) ν K
  | 0, i, ν, hi, hf, hv => by
    obtain rfl : i = 16 := by omega
    unfold L_X12_takeSheet_2 B_X12_takeSheet_2
    exact ⟨fun _ => hK ν hf hv, fun h => absurd (by decide) h⟩
  | d + 1, i, ν, hi, hf, hv => by
    unfold L_X12_takeSheet_2 B_X12_takeSheet_2
    simp only [shm]
    refine ⟨fun h2 => absurd h2 (nI_ge (b := 16) (by omega) (by decide)), fun _ => ?_⟩
    rw [show (59 : Int32) = nI 59 from rfl, show (75 : Int32) = nI 75 from rfl, nI_add, nI_add, nI_clamp (by omega), nI_clamp (by omega), nI_clamp (by omega), nI_1]
    refine ⟨v131 (by omega), vp_in_nI (by omega) (by decide), fun μ9 e9 => ⟨v131 (by omega), vp_in_nI (by omega) (by decide), fun μ10 e10 v11 e11 => ?_⟩⟩
    rw [e11]
    refine l_take hK d (i + 1) μ10 (by omega) ?_ ?_
    · rw [e10, e9]; exact fr_tr hf (fr_tr (fr_xi (Or.inl rfl)) (fr_xi (Or.inr rfl)))
    · intro c hc
      have e5 : ν.1 105 = μ.1 105 := (hf 105 (by unfold tkP; decide)).1
      have e9' : μ9.1 105 = μ.1 105 := by rw [e9, y_xin (by decide), e5]
      by_cases e : c = i
      · subst e
        refine ⟨?_, ?_⟩
        · rw [e10, y_xi, if_neg (by omega), e9, y_xi, if_pos ⟨rfl, rfl⟩, e5]
        · rw [e10, y_xi, if_pos ⟨rfl, rfl⟩, e9']
      · refine ⟨?_, ?_⟩
        · rw [e10, y_xi, if_neg (by omega), e9, y_xi, if_neg (by omega)]; exact (hv c (by omega)).1
        · rw [e10, y_xi, if_neg (by omega), e9, y_xi, if_neg (by omega)]; exact (hv c (by omega)).2
theorem e_takeM {μ : xM} {ρ : Nat → Nat} {σ : Int32} (hM : MR (μ.1 105) ρ σ) {Q : xM → Prop} (hQ : ∀ ν, fr (fun q => q = 104 ∨ q = 109 ∨ q = 110) μ ν → (∀ j, j ≠ 7 → ν.1 104 j = μ.1 104 j) → MS ν (fun c => ρ (59 + c)) (fun c => ρ (75 + c)) (ρ 91) → ν.2 104 = μ.2 104 → Q ν) : p_X12_takeSheet 104 μ Q := by
  unfold p_X12_takeSheet
  refine ⟨17, l_take ?_ 16 0 μ rfl fr_rf (fun c hc => absurd hc (Nat.not_lt_zero c))⟩
  intro ν F hv
  have c91 : (91 : Int32).toNatClampNeg = 91 := by decide
  simp only [shm, c91]
  refine ⟨v131 (k := 91) (by decide), fun μ13 e13 => ?_⟩
  have e5 : ν.1 105 = μ.1 105 := (F 105 (by unfold tkP; decide)).1
  refine hQ μ13 ?_ ?_ ⟨fun c hc => ⟨?_, ?_⟩, ?_⟩ (by rw [e13, y_xi2, (F 104 (by unfold tkP; decide)).2])
  · rw [e13]; exact fr_tr (fr_mono F (fun q h => by unfold tkP at h; omega)) (fr_xi (Or.inl rfl))
  · intro j hj
    rw [e13, y_xi, if_neg (fun h => hj h.2), (F 104 (by unfold tkP; decide)).1]
  · rw [e13, y_xi, if_neg (by omega), (hv c hc).1, MR_p hM (by omega) (by omega) (by omega)]
  · rw [e13, y_xi, if_neg (by omega), (hv c hc).2, MR_p hM (by omega) (by omega) (by omega)]
  · rw [e13, y_xi, if_pos ⟨rfl, rfl⟩, e5, MR_p hM (by omega) (by omega) (by omega)]
def wetN (ρ : Nat → Nat) : Nat → Nat := sm (fun c => if 0 < wetS ρ c (ρ 93) then 1 else 0)
def shnN (ρ : Nat → Nat) : Nat → Nat := sm (fun c => if ρ (75 + c) = 0 then 0 else 1)
theorem add0 (n : Nat) : nI n + (0 : Int32) = nI n := by rw [show (0 : Int32) = nI 0 from rfl, nI_add, Nat.add_zero]
theorem l_wcX {μ : xM} {ρ : Nat → Nat} {σ : Int32} (hR : Rep μ 1 ρ σ) (hW : WF ρ) {K : Int32 → xM → Prop} (hK : K (nI (wetN ρ 16)) μ) : ∀ d c, c + d = 16 → L_X2_wetCells_4 11 2 (d + 1) (nI c) (nI (wetN ρ c)) μ K
  | 0, c, h => by
    obtain rfl : c = 16 := by omega
    unfold L_X2_wetCells_4 B_X2_wetCells_4
    exact ⟨fun _ => hK, fun h => absurd (by decide) h⟩
  | d + 1, c, h => by
    have ih := l_wcX hR hW hK d (c + 1) (by omega)
    unfold L_X2_wetCells_4 B_X2_wetCells_4
    refine ⟨fun h2 => absurd h2 (nI_ge (b := 16) (by omega) (by decide)), fun _ => ?_⟩
    refine e_wetX hR hW (by omega) ?_
    rw [nI_1, nI_1]
    simp only [forall_eq]
    unfold wetN at ih ⊢
    simp only [sm] at ih
    refine ⟨fun hn => ?_, fun hn => ?_⟩
    · rw [if_neg (by grind)] at ih; exact ih
    · rw [if_pos (by grind)] at ih; exact ih
theorem l_ohM {μ : xM} {ρ : Nat → Nat} {σ : Int32} (hM : MR (μ.1 105) ρ σ) (hW : WF ρ) {w : Nat} (hw : w = 4 ∨ w = 5 ∨ w = 6) (f : Nat → Nat) (hf : ∀ c, c < 16 → f c = if 0 < vCell ρ c (if w = 4 then 3 else if w = 5 then 1 else 2) then 1 else 0) {K : Int32 → xM → Prop} (hK : K (nI (sm f 16)) μ) : ∀ d c, c + d = 16 → L_X12_ofHand_33 104 (nI w) (d + 1) (nI c) (nI (sm f c)) μ K
  | 0, c, h => by
    obtain rfl : c = 16 := by omega
    unfold L_X12_ofHand_33 B_X12_ofHand_33
    exact ⟨fun _ => hK, fun h => absurd (by decide) h⟩
  | d + 1, c, h => by
    have ih := l_ohM hM hW hw f hf hK d (c + 1) (by omega)
    unfold L_X12_ofHand_33 B_X12_ofHand_33
    refine ⟨fun h2 => absurd h2 (nI_ge (b := 16) (by omega) (by decide)), fun _ => ?_⟩
    simp only [forall_eq, add0, nI_1]
    simp only [sm] at ih
    rw [hf c (by omega)] at ih
    rcases hw with rfl | rfl | rfl
    · refine ⟨fun h => absurd rfl h, fun _ => e_cellM hM hW (w := 3) (by omega) (by decide) ⟨fun hn => ?_, fun hn => ?_⟩⟩
      · rw [if_neg (by simp only [if_true]; grind)] at ih; exact ih
      · rw [if_pos (by simp only [if_true]; grind)] at ih; exact ih
    · refine ⟨fun _ => ⟨fun h => absurd rfl h, fun _ => e_cellM hM hW (w := 1) (by omega) (by decide) ⟨fun hn => ?_, fun hn => ?_⟩⟩, fun h => absurd h (by decide)⟩
      · rw [if_neg (by show ¬ 0 < vCell ρ c 1; grind)] at ih; exact ih
      · rw [if_pos (by show 0 < vCell ρ c 1; grind)] at ih; exact ih
    · refine ⟨fun _ => ⟨fun _ => e_cellM hM hW (w := 2) (by omega) (by decide) ⟨fun hn => ?_, fun hn => ?_⟩, fun h => absurd h (by decide)⟩, fun h => absurd h (by decide)⟩
      · rw [if_neg (by show ¬ 0 < vCell ρ c 2; grind)] at ih; exact ih
      · rw [if_pos (by show 0 < vCell ρ c 2; grind)] at ih; exact ih
def vHand (ρ : Nat → Nat) (σ : Int32) (w : Nat) : Int32 := if w = 0 then nI (ρ 92) else if w = 1 then nI (ρ 93) else if w = 2 then σ else if w = 3 then nI (hitF (fun c => ρ (59 + c)) (fun c => ρ (43 + c)) 16) else if w = 4 then nI (wetN ρ 16) else if w = 5 then nI (shnN ρ 16) else nI (pcN (ρ 91))
theorem e_handX {μ : xM} {ρ : Nat → Nat} {σ : Int32} {w : Nat} (hR : Rep μ 1 ρ σ) (hW : WF ρ) (hw : w < 7) {Q : Int32 → xM → Prop} (hQ : Q (vHand ρ σ w) μ) : p_X11_hand 0 (nI w) μ Q := by
  unfold p_X11_hand
  have h0 : μ.1 11 1 = nI (ρ 92) := hR.2.1.2.1
  have h1 : μ.1 11 2 = nI (ρ 93) := hR.2.1.2.2.1
  have h2 : μ.1 11 3 = σ := hR.2.1.2.2.2.1
  have h3 : μ.2 1 2 = lN (nb (fun c => ρ (43 + c)) 16) := hR.2.2
  have hs : SH μ 12 (fun c => ρ (59 + c)) (fun c => ρ (75 + c)) (ρ 91) := hR.2.1.1
  simp only [shp, h0, h1, h2, h3]
  unfold vHand at hQ
  rcases (show w = 0 ∨ w = 1 ∨ w = 2 ∨ w = 3 ∨ w = 4 ∨ w = 5 ∨ w = 6 by omega) with rfl | rfl | rfl | rfl | rfl | rfl | rfl
  · exact ⟨fun _ => hQ, fun h => absurd rfl h⟩
  · exact ⟨fun h => absurd h (by decide), fun _ => ⟨fun _ => hQ, fun h => absurd rfl h⟩⟩
  · exact ⟨fun h => absurd h (by decide), fun _ => ⟨fun h => absurd h (by decide), fun _ => ⟨fun _ => hQ, fun h => absurd rfl h⟩⟩⟩
  · refine ⟨fun h => absurd h (by decide), fun _ => ⟨fun h => absurd h (by decide), fun _ => ⟨fun h => absurd h (by decide), fun _ => ⟨fun _ => ?_, fun h => absurd rfl h⟩⟩⟩⟩
    exact e_hitsX hs (fun i hi => Nat.lt_trans (hW.2.2.1 i hi).2.1 (by decide)) (fun i hi => Nat.lt_trans (hW.2.2.1 i hi).1 (by decide)) hQ
  · refine ⟨fun h => absurd h (by decide), fun _ => ⟨fun h => absurd h (by decide), fun _ => ⟨fun h => absurd h (by decide), fun _ => ⟨fun h => absurd h (by decide), fun _ => ⟨fun _ => ?_, fun h => absurd rfl h⟩⟩⟩⟩⟩
    unfold p_X2_wetCells
    exact ⟨17, l_wcX hR hW hQ 16 0 rfl⟩
  · refine ⟨fun h => absurd h (by decide), fun _ => ⟨fun h => absurd h (by decide), fun _ => ⟨fun h => absurd h (by decide), fun _ => ⟨fun h => absurd h (by decide), fun _ => ⟨fun h => absurd h (by decide), fun _ => ⟨fun _ => ?_, fun h => absurd rfl h⟩⟩⟩⟩⟩⟩
    have h16 : ∀ i, i < 16 → ρ (75 + i) < 16 := fun i hi => Nat.lt_trans (hW.2.2.1 i hi).2.2 (by decide)
    rw [hs.2.1, e_filled (nb64 h16), fil_nb h16]
    exact e_bcL (fun i hi => by split <;> decide) hQ
  · refine ⟨fun h => absurd h (by decide), fun _ => ⟨fun h => absurd h (by decide), fun _ => ⟨fun h => absurd h (by decide), fun _ => ⟨fun h => absurd h (by decide), fun _ => ⟨fun h => absurd h (by decide), fun _ => ⟨fun h => absurd h (by decide), fun _ => ⟨fun _ => ?_, fun h => absurd rfl h⟩⟩⟩⟩⟩⟩⟩
    rw [hs.2.2, e_bc hW.2.2.2.1]
    exact hQ
theorem pos_nI {n : Nat} (h : n < 2 ^ 31) : 0 < nI n ↔ 0 < n := nI_ltI (a := 0) (by decide) h
theorem e_handM {μ : xM} {ρ : Nat → Nat} {σ : Int32} {w : Nat} (hM : MR (μ.1 105) ρ σ) (hW : WF ρ) (hw : w < 7) {Q : Int32 → xM → Prop} (hQ : ∀ ν, scr μ ν → ν.2 104 = μ.2 104 → Q (vHand ρ σ w) ν) : p_X12_ofHand 104 (nI w) μ Q := by
  unfold p_X12_ofHand
  have hQ0 := hQ μ scr_rf rfl
  unfold vHand at hQ0
  simp only [shm]
  rcases (show w = 0 ∨ w = 1 ∨ w = 2 ∨ w = 3 ∨ w = 4 ∨ w = 5 ∨ w = 6 by omega) with rfl | rfl | rfl | rfl | rfl | rfl | rfl
  · refine ⟨fun h => absurd h (by decide), fun _ => ⟨v131 (k := 92) (by decide), ?_⟩⟩
    have e : ((92 : Int32) + nI 0).toNatClampNeg = 92 := by decide
    rw [e, MR_p hM (by omega) (by omega) (by omega)]; exact hQ0
  · refine ⟨fun h => absurd h (by decide), fun _ => ⟨v131 (k := 93) (by decide), ?_⟩⟩
    have e : ((92 : Int32) + nI 1).toNatClampNeg = 93 := by decide
    rw [e, MR_p hM (by omega) (by omega) (by omega)]; exact hQ0
  · refine ⟨fun h => absurd h (by decide), fun _ => ⟨v131 (k := 94) (by decide), ?_⟩⟩
    have e : ((92 : Int32) + nI 2).toNatClampNeg = 94 := by decide
    rw [e, hM.1]; exact hQ0
  · refine ⟨fun _ => ⟨fun h => absurd rfl h, fun _ => ?_⟩, fun h => absurd (by decide) h⟩
    refine e_takeM hM (fun ν F u ms g2 => ?_)
    have m2 : MR (ν.1 105) ρ σ := by rw [(F 105 (by decide)).1]; exact hM
    refine e_hitsM m2 hW (fun c hc => (ms.1 c hc).1) (fun i hi => Nat.lt_trans (hW.2.2.1 i hi).2.1 (by decide)) ?_
    exact hQ ν ⟨fr_mono F (fun q e => by omega), u 3 (by decide), u 17 (by decide)⟩ g2
  · refine ⟨fun _ => ⟨fun _ => ?_, fun h => absurd h (by decide)⟩, fun h => absurd (by decide) h⟩
    refine ⟨17, l_ohM hM hW (Or.inl rfl) (fun c => if 0 < wetS ρ c (ρ 93) then 1 else 0) (fun c hc => rfl) hQ0 16 0 rfl⟩
  · refine ⟨fun _ => ⟨fun _ => ?_, fun h => absurd h (by decide)⟩, fun h => absurd (by decide) h⟩
    refine ⟨17, l_ohM hM hW (Or.inr (Or.inl rfl)) (fun c => if ρ (75 + c) = 0 then 0 else 1) (fun c hc => ?_) hQ0 16 0 rfl⟩
    show _ = if 0 < nI (ρ (75 + c)) then 1 else 0
    have hb := (hW.2.2.1 c hc).2.2
    have hp := pos_nI (n := ρ (75 + c)) (by omega)
    by_cases e : ρ (75 + c) = 0
    · rw [if_pos e, if_neg (fun h => by have := hp.mp h; omega)]
    · rw [if_neg e, if_pos (hp.mpr (by omega))]
  · refine ⟨fun _ => ⟨fun _ => ?_, fun h => absurd h (by decide)⟩, fun h => absurd (by decide) h⟩
    have e : pcN (ρ 91) = sm (fun c => bN ((ρ 91).testBit c)) 16 := pcS_sm _ _
    refine ⟨17, l_ohM hM hW (Or.inr (Or.inr rfl)) (fun c => bN ((ρ 91).testBit c)) (fun c hc => ?_) (by rw [← e]; exact hQ0) 16 0 rfl⟩
    show _ = if 0 < nI (bN ((ρ 91).testBit c)) then 1 else 0
    cases (ρ 91).testBit c <;> decide
theorem op_hand {μ : xM} {t : Nat} (hI : Inv t μ) (a : Int32) : p_X11_hand 0 a μ (fun r1 μ1 => p_X12_hand 104 a μ1 (fun r2 μ2 => r1 = r2 ∧ Inv (t + 1) μ2)) := by
  obtain ⟨ρ, σ, h, Hρ, Hσ, cc, L, T, hw, hx, hm⟩ := hI
  have z := e_refM0 (μ := xi μ 0 5 (μ.1 0 5 + 1)) (Q := fun r2 μ2 => -2 = r2 ∧ Inv (t + 1) μ2) ⟨rfl, inv_ref (j := 0) (by decide) hw hx hm fr_rf⟩
  by_cases g1 : inR a 0 6
  · obtain ⟨w, hw2, rfl⟩ := i_of (m := 6) (by decide) g1.1 g1.2
    refine e_handX hx.1 hw.1 (by omega) ?_
    unfold p_X12_hand
    simp only [e_in, y_b0]
    rw [pr1 g1]
    exact e_handM hm.1 hw.1 (by omega) (fun ν hs _ => ⟨rfl, inv_id hw (CX_scr hs hx) (CM_scr hs hm)⟩)
  · unfold p_X11_hand p_X12_hand
    simp only [e_in, y_b0]
    refine ⟨fun e => absurd (by subst e; decide) g1, fun _ => ⟨fun e => absurd (by subst e; decide) g1, fun _ => ⟨fun e => absurd (by subst e; decide) g1, fun _ => ⟨fun e => absurd (by subst e; decide) g1, fun _ => ⟨fun e => absurd (by subst e; decide) g1, fun _ => ⟨fun e => absurd (by subst e; decide) g1, fun _ => ⟨fun e => absurd (by subst e; decide) g1, fun _ => e_refX0 ?_⟩⟩⟩⟩⟩⟩⟩
    rw [pr0 g1]
    exact z
