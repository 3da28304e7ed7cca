/-! an order that was read is done -/
abbrev tn (x : Int32) : Nat := x.toNatClampNeg
abbrev oP (ρ : Nat → Nat) (k n : Int32) : Prop := vPrt k n (ρ 0) ∧ ndf (ρ (7 + 7 * tn k)) (ptS ρ (ρ 93)) = 0 ∧ ρ 93 < 12
abbrev oS (ρ : Nat → Nat) (k x y : Int32) : Prop := isB k (nI (ρ 0)) ∧ inR x (-3) 3 ∧ inR y (-3) 3
abbrev eR : Type := (Nat → Nat) × Int32 × Bool
def ex1 (l : Nat) (nm : Nat → Int32) (ρ : Nat → Nat) (σ : Int32) : eR :=
  if l = 97 then (if vBeh (nm 0) (nm 1) (nI 1) (ρ 0) then (up1 ρ (7 + 7 * tn (nm 0)) (bhv (ρ (7 + 7 * tn (nm 0))) (tn (nm 1)) 1), σ, true) else (ρ, σ, false))
  else if l = 98 then (if vBlk (nm 0) (nm 1) (nm 2) (nm 3) ∧ ρ 0 < 6 then (rAdd ρ (tn (nm 0)) (tn (nm 1)) (tn (nm 2)) (tn (nm 3)), σ, true) else (ρ, σ, false))
  else if l = 112 then (if oP ρ (nm 0) (nm 1) then (rPrt ρ (tn (nm 0)) (tn (nm 1)), σ + smS ρ (ρ 92 + tn (nm 1)) (plc ρ (tn (nm 0))) (ρ 93), true) else (ρ, σ, false))
  else if l = 115 then (if oS ρ (nm 0) (nm 1) (nm 2) then (rShf ρ (tn (nm 0)) (tn (nm 1 + 3)) (tn (nm 2 + 3)), σ, true) else (ρ, σ, false))
  else (rNew ρ, 0, true)
theorem tn_nI {j : Nat} (h : j < 2 ^ 31) : tn (nI j) = j := nI_clamp h
theorem blk_of {a b c d : Int32} (h : vBlk a b c d) : ∃ a2 b2 c2 d2, a = nI a2 ∧ b = nI b2 ∧ c = nI c2 ∧ d = nI d2 ∧ a2 < 4 ∧ (1 ≤ b2 ∧ b2 < 8) ∧ c2 ≤ 9 ∧ (1 ≤ d2 ∧ d2 < 65536) := by
  obtain ⟨h1, h2, h3, h4⟩ := h
  obtain ⟨a2, e1, rfl⟩ := i_of (m := 3) (by decide) h1.1 h1.2
  obtain ⟨b2, e2, e3, rfl⟩ := i_of1 (m := 7) (by decide) h2.1 h2.2
  obtain ⟨c2, e4, rfl⟩ := i_of (m := 9) (by decide) h3.1 h3.2
  obtain ⟨d2, e5, e6, rfl⟩ := i_of1 (m := 65535) (by decide) h4.1 h4.2
  exact ⟨a2, b2, c2, d2, rfl, rfl, rfl, rfl, by omega, by omega, by omega, by omega⟩
theorem ex1_WF {l : Nat} {nm : Nat → Int32} {ρ : Nat → Nat} {σ : Int32} (hW : WF ρ) : WF (ex1 l nm ρ σ).1 := by
  have h6 := hW.1
  unfold ex1
  split
  · split
    · rename_i h
      obtain ⟨i, hi, e1⟩ := isB_of h6 h.1.1
      obtain ⟨j, hj, e2⟩ := isB_of h6 h.1.2.1
      have b7 : ρ (7 + 7 * i) < 64 := (hW.2.1 _ hi).2.2.2.2.2.2
      rw [e1, e2, tn_nI (by omega), tn_nI (by omega)]
      exact WF_beh hW hi (bhv_lt b7 (by omega) (by decide))
    · exact hW
  · split
    · split
      · rename_i h
        obtain ⟨a2, b2, c2, d2, e1, e2, e3, e4, g1, g2, g3, g4⟩ := blk_of h.1
        rw [e1, e2, e3, e4, tn_nI (by omega), tn_nI (by omega), tn_nI (by omega), tn_nI (by omega)]
        exact WF_add hW h.2 g1 g2 g3 g4
      · exact hW
    · split
      · split
        · rename_i h
          obtain ⟨i, hi, e1⟩ := isB_of h6 h.1.1
          obtain ⟨n, hn, e2⟩ := i_of (m := 9) (by decide) h.1.2.1 h.1.2.2
          rw [e1, e2, tn_nI (by omega), tn_nI (by omega)]
          exact WF_prt hW hi hn h.2.2
        · exact hW
      · split
        · split
          · rename_i h
            obtain ⟨i, hi, e1⟩ := isB_of h6 h.1
            obtain ⟨x, hx, e2⟩ := sh_of h.2.1
            obtain ⟨y, hy, e3⟩ := sh_of h.2.2
            rw [e1, e2, e3, m33, m33, tn_nI (by omega), tn_nI (by omega), tn_nI (by omega)]
            exact WF_shf hW hi (by omega) (by omega)
          · exact hW
        · exact WF_new hW
theorem bI1 : bI true = 1 ∧ bI false = 0 := ⟨rfl, rfl⟩
theorem e_doX {ν : xM} {l : Nat} {nm : Nat → Int32} {ρ : Nat → Nat} {σ : Int32} (hl : isLt l) (hA : ν.1 102 0 = nI l ∧ ∀ k, k < nw l → ν.1 103 k = nm k) (hR : Rep ν 1 ρ σ) (hW : WF ρ) {Q : Int32 → xM → Prop} (hQ : ∀ κ, fr (fun q => 2 ≤ q ∧ q ≤ 15) ν κ → Rep κ 1 (ex1 l nm ρ σ).1 (ex1 l nm ρ σ).2.1 → Q (bI (ex1 l nm ρ σ).2.2) κ) : p_X11_doOrder 0 ν Q := by
  obtain ⟨hA0, hAn⟩ := hA
  have h6 := hW.1
  have h0 : ν.1 2 0 = nI (ρ 0) := hR.1.1
  have hl2 : l < 2 ^ 31 := by rcases hl with h | h | h | h | h <;> omega
  unfold p_X11_doOrder
  simp only [shp]
  have at' : ∀ (k : Nat) (Q2 : Int32 → xM → Prop), k < 4 → (p_X5_at 103 (nI k) ν Q2 ↔ Q2 (ν.1 103 k) ν) := fun k Q2 hk => e_at (by rw [ln103]; exact hk) (by rw [ln103]; decide)
  rw [show (0 : Int32) = nI 0 from rfl, at' 0 _ (by decide), show (1 : Int32) = nI 1 from rfl, at' 1 _ (by decide), show (2 : Int32) = nI 2 from rfl, at' 2 _ (by decide), show (3 : Int32) = nI 3 from rfl, at' 3 _ (by decide)]
  simp only [forall_eq]
  rw [hA0, show (97 : Int32) = nI 97 from rfl, show (98 : Int32) = nI 98 from rfl, show (112 : Int32) = nI 112 from rfl, show (115 : Int32) = nI 115 from rfl, nI_eq hl2 (by decide), nI_eq hl2 (by decide), nI_eq hl2 (by decide), nI_eq hl2 (by decide)]
  unfold ex1 at hQ
  refine ⟨fun e => ?_, fun e1 => ⟨fun e => ?_, fun e2 => ⟨fun e => ?_, fun e3 => ⟨fun e => ?_, fun e4 => ?_⟩⟩⟩⟩
  · subst e
    rw [if_pos rfl] at hQ
    have k0 := hAn 0 (by decide)
    have k1 := hAn 1 (by decide)
    rw [k0, k1, e_whyBeh, h0]
    by_cases hv : vBeh (nm 0) (nm 1) (nI 1) (ρ 0)
    · rw [if_pos hv]
      rw [if_pos hv] at hQ
      obtain ⟨i, hi, e1⟩ := isB_of h6 hv.1.1
      obtain ⟨j, hj, e2⟩ := isB_of h6 hv.1.2.1
      rw [e1, e2, tn_nI (by omega), tn_nI (by omega)] at hQ
      refine ⟨fun _ => ?_, fun h => absurd rfl h⟩
      rw [e1, e2]
      exact e_behX hR hW hi (by omega) (fun κ F r => hQ κ (fr_mono F (fun q e => by omega)) r)
    · rw [if_neg hv]
      rw [if_neg hv] at hQ
      exact ⟨fun h => absurd h (by decide), fun _ => hQ ν fr_rf hR⟩
  · subst e
    rw [if_neg (by decide), if_pos rfl] at hQ
    rw [hAn 0 (by decide), hAn 1 (by decide), hAn 2 (by decide), hAn 3 (by decide), e_whyBlk, h0]
    by_cases hv : vBlk (nm 0) (nm 1) (nm 2) (nm 3)
    · rw [if_pos hv]
      have hlt : nI (ρ 0) < (6 : Int32) ↔ ρ 0 < 6 := nI_ltI (b := 6) (by omega) (by decide)
      by_cases hn : ρ 0 < 6
      · rw [if_pos (hlt.mpr hn)]
        rw [if_pos ⟨hv, hn⟩] at hQ
        obtain ⟨a2, b2, c2, d2, q1, q2, q3, q4, g1, g2, g3, g4⟩ := blk_of hv
        rw [q1, q2, q3, q4, tn_nI (by omega), tn_nI (by omega), tn_nI (by omega), tn_nI (by omega)] at hQ
        refine ⟨fun _ => ?_, fun h => absurd rfl h⟩
        rw [q1, q2, q3, q4]
        exact e_addX hR hn g4.2 (fun κ F r => hQ κ (fr_mono F (fun q e => by omega)) r)
      · rw [if_neg (fun h => hn (hlt.mp h))]
        rw [if_neg (fun h => hn h.2)] at hQ
        exact ⟨fun h => absurd h (by decide), fun _ => hQ ν fr_rf hR⟩
    · rw [if_neg hv]
      rw [if_neg (fun h => hv h.1)] at hQ
      exact ⟨fun h => absurd h (by decide), fun _ => hQ ν fr_rf hR⟩
  · subst e
    rw [if_neg (by decide), if_neg (by decide), if_pos rfl] at hQ
    rw [hAn 0 (by decide), hAn 1 (by decide)]
    refine e_whyPrt hR hW ?_ ?_ ?_ ?_
    · intro hv
      rw [if_neg (fun h => hv h.1)] at hQ
      exact ⟨fun h => absurd h (by decide), fun _ => hQ ν fr_rf hR⟩
    · intro j m q1 q2 hj hm hno
      rw [if_neg (fun h => hno (by have := h.2.1; rw [q1, tn_nI (by omega)] at this; exact this))] at hQ
      exact ⟨fun h => absurd h (by decide), fun _ => hQ ν fr_rf hR⟩
    · intro j m q1 q2 hj hm hyes h12
      rw [if_pos ⟨⟨by rw [q1]; exact isB_nI hj h6, by rw [q2]; exact ⟨nI_pos' (by omega), nI_le (b := 9) hm (by decide)⟩⟩, by rw [q1, tn_nI (by omega)]; exact hyes, h12⟩, q1, q2, tn_nI (by omega), tn_nI (by omega)] at hQ
      refine ⟨fun _ => ?_, fun h => absurd rfl h⟩
      rw [q1, q2]
      exact e_prtX hR hW hj hm h12 (fun κ F r => hQ κ (fr_mono F (fun q e => by omega)) r)
    · intro j m q1 q2 hj hm hyes h12
      rw [if_neg (fun h => by have := h.2.2; omega)] at hQ
      exact ⟨fun h => absurd h (by decide), fun _ => hQ ν fr_rf hR⟩
  · subst e
    rw [if_neg (by decide), if_neg (by decide), if_neg (by decide), if_pos rfl] at hQ
    rw [hAn 0 (by decide), hAn 1 (by decide), hAn 2 (by decide), e_whyShf, h0]
    by_cases hv : oS ρ (nm 0) (nm 1) (nm 2)
    · rw [if_pos hv]
      rw [if_pos hv] at hQ
      obtain ⟨i, hi, q1⟩ := isB_of h6 hv.1
      obtain ⟨x, hx, q2⟩ := sh_of hv.2.1
      obtain ⟨y, hy, q3⟩ := sh_of hv.2.2
      rw [q1, q2, q3, m33, m33, tn_nI (by omega), tn_nI (by omega), tn_nI (by omega)] at hQ
      refine ⟨fun _ => ?_, fun h => absurd rfl h⟩
      rw [q1, q2, q3]
      exact e_shfX hR hW hi hx hy (fun κ F r => hQ κ (fr_mono F (fun q e => by omega)) r)
    · rw [if_neg hv]
      rw [if_neg hv] at hQ
      exact ⟨fun h => absurd h (by decide), fun _ => hQ ν fr_rf hR⟩
  · rw [if_neg e1, if_neg e2, if_neg e3, if_neg e4] at hQ
    exact e_newX hR h6 (fun κ F r => hQ κ (fr_mono F (fun q e => by omega)) r)
/-- the reference's memory while orders are done: all but its row and its sheet stays -/
def FO (μ ν : xM) : Prop := fr (fun q => prP q ∨ q = 105) μ ν ∧ ∀ i, i ≠ 7 → ν.1 104 i = μ.1 104 i
theorem FO_rf {μ : xM} : FO μ μ := ⟨fr_rf, fun _ _ => rfl⟩
theorem FO_tr {μ ν κ : xM} (h1 : FO μ ν) (h2 : FO ν κ) : FO μ κ := ⟨fr_tr h1.1 h2.1, fun i hi => (h2.2 i hi).trans (h1.2 i hi)⟩
theorem FO_105 {μ ν : xM} (h : fr (fun q => q = 105) μ ν) : FO μ ν := ⟨fr_mono h (fun q e => Or.inr e), fun i _ => by rw [(h 104 (by decide)).1]⟩
theorem e_doM {μ : xM} {k l : Nat} {nm : Nat → Int32} {ρ : Nat → Nat} {σ : Int32} (hl : isLt l) (hk : k < 80) (hA : μ.1 118 k = nI l ∧ ∀ i, i < nw l → μ.1 119 (4 * k + i) = nm i) (hM : MR (μ.1 105) ρ σ) (hW : WF ρ) {Q : Int32 → xM → Prop} (hQ : ∀ κ r, FO μ κ → MR (κ.1 105) (ex1 l nm ρ σ).1 (ex1 l nm ρ σ).2.1 → (r < 0 ↔ (ex1 l nm ρ σ).2.2 = false) → Q r κ) : p_X12_doOrder 104 (nI k) μ Q := by
  obtain ⟨hA0, hAn⟩ := hA
  have h6 := hW.1
  have hl2 : l < 2 ^ 31 := by rcases hl with h | h | h | h | h <;> omega
  unfold p_X12_doOrder
  simp only [forall_eq, shm]
  rw [show (4 : Int32) = nI 4 from rfl, show (1 : Int32) = nI 1 from rfl, show (2 : Int32) = nI 2 from rfl, show (3 : Int32) = nI 3 from rfl, pk_mul, nI_add, nI_add, nI_add, nI_clamp (by omega), nI_clamp (by omega), nI_clamp (by omega), nI_clamp (by omega), nI_clamp (by omega)]
  have v320 : ∀ {k : Nat}, k < 320 → vp_in (nI k) 320 := fun h => vp_in_nI h (by decide)
  refine ⟨v320 (by omega), v320 (by omega), v320 (by omega), vp_in_nI (by omega) (by decide), ?_⟩
  rw [hA0, show (97 : Int32) = nI 97 from rfl, show (98 : Int32) = nI 98 from rfl, show (112 : Int32) = nI 112 from rfl, show (115 : Int32) = nI 115 from rfl, nI_eq hl2 (by decide), nI_eq hl2 (by decide), nI_eq hl2 (by decide), nI_eq hl2 (by decide)]
  unfold ex1 at hQ
  have neg : ∀ r : Int32, r < 0 → (r < 0 ↔ (ρ, σ, false).2.2 = false) := fun r hr => ⟨fun _ => rfl, fun _ => hr⟩
  have pos : ∀ (j : Nat) (x : (Nat → Nat)) (y : Int32), j < 2 ^ 31 → (nI j < 0 ↔ (x, y, true).2.2 = false) := fun j x y hj => ⟨fun h => absurd h (nI_pos hj), fun h => absurd h (show ¬ true = false by decide)⟩
  refine ⟨fun e => ?_, fun e1 => ⟨fun e => ⟨v320 (by omega), ?_⟩, fun e2 => ⟨fun e => ?_, fun e3 => ⟨fun e => ?_, fun e4 => ?_⟩⟩⟩⟩
  · subst e
    rw [if_pos rfl] at hQ
    have k0 := hAn 0 (by decide)
    have k1 := hAn 1 (by decide)
    rw [Nat.add_zero] at k0
    rw [k0, k1]
    refine e_doBeh hM hW (fun hv => ?_) (fun hv a2 b2 s2 q1 q2 q3 ha hb hs ν F r => ?_)
    · rw [if_neg hv] at hQ
      exact hQ μ _ FO_rf hM (neg _ (by decide))
    · rw [if_pos hv, q1, q2, tn_nI (by omega), tn_nI (by omega)] at hQ
      have : s2 = 1 := by
        have q : nI s2 = nI 1 := q3.symm
        rw [nI_eq (by omega) (by decide)] at q
        exact q
      subst this
      exact hQ ν _ (FO_105 F) r (pos _ _ _ (by have := bN_le ((ρ (7 + 7 * a2)).testBit b2); omega))
  · subst e
    rw [if_neg (by decide), if_pos rfl] at hQ
    have k0 := hAn 0 (by decide)
    rw [Nat.add_zero] at k0
    rw [k0, hAn 1 (by decide), hAn 2 (by decide), hAn 3 (by decide)]
    refine e_doBlk hM h6 (fun hv => ?_) (fun hv h66 => ?_) (fun hv h66 ν F r => ?_)
    · rw [if_neg (fun h => hv h.1)] at hQ
      exact hQ μ _ FO_rf hM (neg _ (by decide))
    · rw [if_neg (fun h => by have := h.2; omega)] at hQ
      exact hQ μ _ FO_rf hM (neg _ (by decide))
    · rw [if_pos ⟨hv, h66⟩] at hQ
      obtain ⟨a2, b2, c2, d2, q1, q2, q3, q4, g1, g2, g3, g4⟩ := blk_of hv
      have r2 := r a2 b2 c2 d2 q1 q2 q3 q4
      rw [q1, q2, q3, q4, tn_nI (by omega), tn_nI (by omega), tn_nI (by omega), tn_nI (by omega)] at hQ
      exact hQ ν _ (FO_105 F) r2 (pos _ _ _ (by omega))
  · subst e
    rw [if_neg (by decide), if_neg (by decide), if_pos rfl] at hQ
    have k0 := hAn 0 (by decide)
    rw [Nat.add_zero] at k0
    rw [k0, hAn 1 (by decide)]
    refine e_doPrt hM hW ?_ ?_ ?_ ?_
    · intro hv
      rw [if_neg (fun h => hv h.1)] at hQ
      exact hQ μ _ FO_rf hM (neg _ (by decide))
    · intro j m q1 q2 hj hm hno
      rw [if_neg (fun h => hno (by have := h.2.1; rw [q1, tn_nI (by omega)] at this; exact this))] at hQ
      exact hQ μ _ FO_rf hM (neg _ (by decide))
    · intro j m q1 q2 hj hm hyes h12
      rw [if_neg (fun h => by have := h.2.2; omega)] at hQ
      exact hQ μ _ FO_rf hM (neg _ (by decide))
    · intro j m q1 q2 hj hm hyes h12 ν F u r
      rw [if_pos ⟨⟨by rw [q1]; exact isB_nI hj h6, by rw [q2]; exact ⟨nI_pos' (by omega), nI_le (b := 9) hm (by decide)⟩⟩, by rw [q1, tn_nI (by omega)]; exact hyes, h12⟩, q1, q2, tn_nI (by omega), tn_nI (by omega)] at hQ
      have h92 := hW.2.2.2.2.2.1
      obtain ⟨v, hv, ev⟩ := smS_nn (hr := ρ 92 + m) (pl := plc ρ j) hW (by omega) (ρ 93) (Nat.le_refl _)
      refine hQ ν _ ⟨F, u⟩ r ?_
      rw [ev]
      exact pos _ _ _ (by omega)
  · subst e
    rw [if_neg (by decide), if_neg (by decide), if_neg (by decide), if_pos rfl] at hQ
    have k0 := hAn 0 (by decide)
    rw [Nat.add_zero] at k0
    rw [k0, hAn 1 (by decide), hAn 2 (by decide)]
    refine e_doShf hM hW (fun hv => ?_) (fun k2 x2 y2 q1 q2 q3 hk2 hx2 hy2 ν F r => ?_)
    · rw [if_neg hv] at hQ
      exact hQ μ _ FO_rf hM (neg _ (by decide))
    · have hv : oS ρ (nm 0) (nm 1) (nm 2) := by
        have shx : ∀ x, x < 7 → inR (nI x - 3) (-3) 3 := by decide +kernel
        exact ⟨by rw [q1]; exact isB_nI hk2 h6, by rw [q2]; exact shx _ hx2, by rw [q3]; exact shx _ hy2⟩
      rw [if_pos hv, q1, q2, q3, m33, m33, tn_nI (by omega), tn_nI (by omega), tn_nI (by omega)] at hQ
      exact hQ ν _ (FO_105 F) r (pos _ _ _ (by have := pcN_le (plc (rShf ρ k2 x2 y2) k2); omega))
  · rw [if_neg e1, if_neg e2, if_neg e3, if_neg e4] at hQ
    have h12 := hW.2.2.2.2.1
    exact e_newM hM (fun κ F u r => hQ κ _ ⟨F, u⟩ r (pos _ _ _ (by omega)))
