/-! least, nearest -/
theorem bsT_some {ρ : Nat → Nat} {g : Nat} {by' : Bool} {s : bS} {o : Nat → Nat} : ∃ x, bsT ρ g by' s o = some x ∧ (x.2.2 = o ∨ s = some x) := by
  cases s with
  | none => exact ⟨_, rfl, Or.inl rfl⟩
  | some x =>
    simp only [bsT]
    split
    · exact ⟨_, rfl, Or.inl rfl⟩
    · exact ⟨x, rfl, Or.inr rfl⟩
theorem bsF_some {ρ : Nat → Nat} {g : Nat} {by' : Bool} : ∀ (l : List (Nat → Nat)) (x : Int32 × Int32 × (Nat → Nat)), ∃ y, l.foldl (bsT ρ g by') (some x) = some y ∧ (y.2.2 = x.2.2 ∨ y.2.2 ∈ l)
  | [], x => ⟨x, rfl, Or.inl rfl⟩
  | a :: l, x => by
    obtain ⟨y, hy, h1⟩ := bsT_some (ρ := ρ) (g := g) (by' := by') (s := some x) (o := a)
    obtain ⟨z, hz, h2⟩ := bsF_some l y
    refine ⟨z, by rw [List.foldl_cons, hy]; exact hz, ?_⟩
    rcases h2 with h2 | h2
    · rcases h1 with h1 | h1
      · exact Or.inr (by rw [h2, h1]; exact List.mem_cons_self)
      · injection h1 with h1
        exact Or.inl (by rw [h2, h1])
    · exact Or.inr (List.mem_cons_of_mem _ h2)
theorem bsF_ne {ρ : Nat → Nat} {g : Nat} {by' : Bool} {l : List (Nat → Nat)} (h : l.length ≠ 0) : ∃ x, bsF ρ g by' l = some x ∧ x.2.2 ∈ l := by
  cases l with
  | nil => exact absurd rfl h
  | cons a l =>
    obtain ⟨y, hy, h1⟩ := bsF_some (ρ := ρ) (g := g) (by' := by') l (bsH ρ by' a, smrS ρ g a (ρ 0), a)
    refine ⟨y, hy, ?_⟩
    rcases h1 with h1 | h1
    · rw [h1]; exact List.mem_cons_self
    · exact List.mem_cons_of_mem _ h1
theorem bsF_nil {ρ : Nat → Nat} {g : Nat} {by' : Bool} {l : List (Nat → Nat)} (h : l.length = 0) : bsF ρ g by' l = none := by
  cases l with
  | nil => rfl
  | cons a l => simp at h
theorem lvG_16 {n : Nat} {ok : (Nat → Nat) → Nat → Bool} (hn : n ≤ 6) : ∀ f d o p, (∀ i, o i < 16) → p ∈ lvG n ok f d o → ∀ i, p i < 16
  | 0, d, o, p, ho, h, i => by simp only [lvG, List.mem_singleton] at h; rw [h]; exact ho i
  | f + 1, d, o, p, ho, h, i => by
    simp only [lvG, List.mem_flatMap] at h
    obtain ⟨k, hk, h2⟩ := h
    have hk' := List.mem_range.mp hk
    split at h2
    · refine lvG_16 hn f (d + 1) _ p (fun j => ?_) h2 i
      by_cases e : j = d
      · rw [e, up1_s]; omega
      · rw [up1_n e]; exact ho j
    · exact absurd h2 List.not_mem_nil
theorem LV_16 {ρ : Nat → Nat} {n : Nat} (hn : n ≤ 6) {p : Nat → Nat} (h : p ∈ LV ρ n) : ∀ i, p i < 16 := lvG_16 hn n 0 (fun _ => 0) p (fun _ => by decide) h
theorem e_bob {μ : xM} {n : Nat} {b : Int32} {o : Nat → Nat} (h6 : n ≤ 6) (h0 : μ.1 2 0 = nI n) (ho : ∀ i, o i < 16) (h10 : μ.2 93 10 = lN (nb o 16)) {Q : Int32 → xM → Prop} (h1 : b < 0 → Q (-5) μ) (h2 : ¬ b < 0 → nI n ≤ b → Q (-5) μ) (h3 : ∀ i, b = nI i → i < n → Q (nI (o i)) μ) : p_X11_blockOfBest 0 b μ Q := by
  unfold p_X11_blockOfBest
  simp only [shp, h0, h10]
  refine ⟨h1, fun e1 => ⟨h2 e1, fun e2 => ?_⟩⟩
  obtain ⟨i, hi, rfl⟩ := nI_of e1
  have : i < n := by rw [nI_leI (by omega) hi] at e2; omega
  rw [e_nibd (fun j _ => ho j) (by omega)]
  exact h3 i rfl this
section ASK
variable {μ ν κ : xM} {t h L : Nat} {ρ : Nat → Nat} {σ : Int32} {Hρ : Nat → Nat → Nat} {Hσ : Nat → Int32} {c : Nat → Int32} {T : Nat → Nat}
theorem inv_no {j : Nat} (hj : j < 3) (hw : CW ρ h Hρ L T) (hx : CX μ t ρ σ h Hρ Hσ c L T) (hm : CM μ ρ σ h Hρ Hσ c L T) (hF : scr (xi μ 0 (5 + j) (μ.1 0 (5 + j) + 1)) ν) : Inv (t + 1) (xi ν 108 j (ν.1 108 j + 1)) := by
  have x1 := CX_t (Nat.le_succ t) (CX_ref hj hx)
  have m1 : CM (xi μ 0 (5 + j) (μ.1 0 (5 + j) + 1)) ρ σ h Hρ Hσ c L T := CM_fr (fr_xi (Or.inl (by decide))) hm
  exact ⟨ρ, σ, h, Hρ, Hσ, cup c j, L, T, hw, CX_fr (fr_xi (show 104 ≤ 108 by decide)) (CX_scr hF x1), CM_ref hj (CM_scr hF m1)⟩
theorem e_badM {a b : Int32} (by' : Bool) (hb : ¬ (inR a 1 9 ∧ (if by' = true then (-2 : Int32) else -1) ≤ b)) {Q : Int32 → xM → Prop} (hQ : Q (-10) (xi μ 108 0 (μ.1 108 0 + 1))) : p_X12_asked 104 a b (byI by') μ Q := by
  unfold p_X12_asked
  simp only [e_in, y_b0, shm, clamp0, forall_eq]
  have v0 : vp_in (0 : Int32) 3 := vp_in_nI (n := 0) (by decide) (by decide)
  by_cases g1 : inR a 1 9
  · rw [pr1 g1]
    unfold J_X12_asked_21
    simp only [shm, clamp0, forall_eq]
    cases by' with
    | false => exact ⟨fun _ => ⟨fun e => absurd ⟨g1, e⟩ hb, fun _ => ⟨v0, v0, hQ⟩⟩, fun e => absurd rfl e⟩
    | true => exact ⟨fun e => absurd e (by decide), fun _ => ⟨fun e => absurd ⟨g1, e⟩ hb, fun _ => ⟨v0, v0, hQ⟩⟩⟩
  · rw [pr0 g1]
    exact ⟨v0, v0, hQ⟩
theorem e_askM {g : Nat} {b : Int32} (by' : Bool) (hg : 1 ≤ g ∧ g ≤ 9) (hb : (if by' = true then (-2 : Int32) else -1) ≤ b) (hM : MR (μ.1 105) ρ σ) (hW : WF ρ) {Q : Int32 → xM → Prop}
    (hN : bsF ρ g by' (LV ρ (ρ 0)) = none → ∀ ν, scr μ ν → Q (-11) (xi ν 108 1 (ν.1 108 1 + 1)))
    (hS : ∀ x, bsF ρ g by' (LV ρ (ρ 0)) = some x → ∀ ν, scr μ ν → (¬ b < 0 → nI (ρ 0) ≤ b → Q (-5) ν) ∧ (∀ i, b = nI i → i < ρ 0 → Q (nI (x.2.2 i)) ν) ∧ (b < 0 → (by' = false ∨ ¬ b = -1) → Q x.2.1 ν) ∧ (b < 0 → by' = true → b = -1 → Q x.1 ν)) : p_X12_asked 104 (nI g) b (byI by') μ Q := by
  unfold p_X12_asked
  have h6 := hW.1
  have g1 : inR (nI g) 1 9 := ⟨nI_le (a := 1) (by omega) (by omega), nI_le (b := 9) (by omega) (by decide)⟩
  simp only [e_in, y_b0, shm, clamp0, forall_eq]
  rw [pr1 g1]
  have main : ∀ lo : Int32, lo = (if by' = true then (-2 : Int32) else -1) → J_X12_asked_21 104 (nI g) b (byI by') lo b μ Q := by
    intro lo hlo
    unfold J_X12_asked_21
    refine ⟨fun _ => e_isF hM hW (fun ν F B => ?_), fun e => absurd (by rw [hlo]; exact hb) e⟩
    have hM2 : MR (ν.1 105) ρ σ := by rw [(F.1 105 (by decide)).1]; exact hM
    simp only [shm, clamp0, forall_eq, MR_0 hM2, show (1 : Int32).toNatClampNeg = 1 by decide]
    cases hs : bsF ρ g by' (LV ρ (ρ 0)) with
    | none =>
      refine ⟨fun e => absurd rfl e, fun _ => ⟨vp_in_nI (n := 1) (by decide) (by decide), vp_in_nI (n := 1) (by decide) (by decide), hN hs ν F⟩⟩
    | some x =>
      rw [hs] at B
      obtain ⟨-, b2, b3, b4⟩ : fdI (some x) = 1 ∧ ν.1 104 11 = x.1 ∧ ν.1 104 10 = x.2.1 ∧ ∀ i, i < ρ 0 → ν.1 112 i = nI (x.2.2 i) := B
      obtain ⟨s1, s2, s3, s4⟩ := hS x hs ν F
      rw [b2, b3]
      refine ⟨fun _ => ⟨fun e0 => ⟨v131 (k := 0) (by decide), fun e1 => s1 (by grind) e1, fun e1 => ?_⟩, fun e0 => ?_⟩, fun e => absurd e (show ¬ (1 : Int32) = 0 by decide)⟩
      · have e0' : ¬ b < 0 := by grind
        obtain ⟨i, hi, rfl⟩ := nI_of e0'
        have hin : i < ρ 0 := by rw [nI_leI (by omega) hi] at e1; omega
        rw [nI_clamp hi, b4 i hin]
        exact ⟨v6 (by omega), s2 i rfl hin⟩
      · have e0' : b < 0 := by grind
        cases by' with
        | false => exact ⟨fun _ => s3 e0' (Or.inl rfl), fun e => absurd rfl e⟩
        | true => exact ⟨fun e => absurd e (by decide), fun _ => ⟨fun e => s3 e0' (Or.inr e), fun e => s4 e0' rfl e⟩⟩
  cases by' with
  | false => exact ⟨fun _ => main (-1) rfl, fun e => absurd rfl e⟩
  | true => exact ⟨fun e => absurd e (by decide), fun _ => main (-2) rfl⟩
end ASK
theorem op_least {μ : xM} {t : Nat} (hI : Inv t μ) (a b : Int32) : p_X11_least 0 a b μ (fun r1 μ1 => p_X12_least 104 a b μ1 (fun r2 μ2 => r1 = r2 ∧ Inv (t + 1) μ2)) := by
  obtain ⟨ρ, σ, h, Hρ, Hσ, cc, L, T, hw, hx, hm⟩ := hI
  have h6 := hw.1.1
  unfold p_X11_least p_X12_least p_X11_refuseOrder
  simp only [shp, e_within, y_b0]
  have bad : ¬ (inR a 1 9 ∧ (-1 : Int32) ≤ b) → p_X12_asked 104 a b 0 (xi μ 0 5 (μ.1 0 5 + 1)) (fun r2 μ2 => -10 = r2 ∧ Inv (t + 1) μ2) := fun hb => e_badM false hb ⟨rfl, inv_ref (j := 0) (by decide) hw hx hm fr_rf⟩
  by_cases g1 : inR a 1 9
  case neg =>
    rw [pr0 g1]
    exact e_refX0 ⟨fun e => absurd trivial e, fun _ => bad (fun e => g1 e.1)⟩
  rw [pr1 g1]
  refine ⟨fun g2 => ?_, fun g2 => e_refX0 ⟨fun e => absurd trivial e, fun _ => bad (fun e => g2 e.2)⟩⟩
  obtain ⟨g, hg1, hg2, rfl⟩ := i_of1 (m := 9) (by decide) g1.1 g1.2
  refine e_cntX hx.1 hw.1 (fun ν F => ?_)
  have hm1 := CM_fr (fr_lo (fun q h => by omega) F) hm
  have hx1 := CX_99 (fr_mono F (fun q h => by omega)) hx
  have hlen := LV_len (ρ := ρ) h6
  rw [show (0 : Int32) = nI 0 from rfl, nI_eq (by omega) (by decide)]
  refine ⟨fun hn => ?_, fun hn => ?_⟩
  · have hpl : ν.2 1 2 = lN (nb (fun c => ρ (43 + c)) 16) := hx1.1.2.2
    rw [hpl]
    refine e_runB false hw.1 hg2 hx1 (fun κ F2 hx2 B => ?_)
    have hm2 := CM_fr (fr_lo (fun q h => by omega) F2) hm1
    obtain ⟨x, hs, hin⟩ := bsF_ne (ρ := ρ) (g := g) (by' := false) hn
    rw [hs] at B
    obtain ⟨-, -, b3, b4⟩ : κ.1 93 7 = 1 ∧ κ.1 93 8 = x.1 ∧ κ.1 93 9 = x.2.1 ∧ κ.2 93 10 = lN (nb x.2.2 16) := B
    have h0 : κ.1 2 0 = nI (ρ 0) := hx2.1.1.1
    have fin : ∀ ν2, scr κ ν2 → Inv (t + 1) ν2 := fun ν2 s2 => ⟨ρ, σ, h, Hρ, Hσ, cc, L, T, hw, CX_scr s2 hx2, CM_scr s2 hm2⟩
    refine ⟨fun e => ?_, fun e => ?_⟩
    · refine e_bob h6 h0 (LV_16 h6 hin) b4 (fun e1 => ?_) (fun e1 e2 => ?_) (fun i e1 e2 => ?_)
      · exact absurd e1 (fun e1 => e (by grind))
      · refine e_askM false ⟨hg1, hg2⟩ g2 hm2.1 hw.1 (fun e => absurd (hs.symm.trans e) (by simp)) (fun y hy ν2 s2 => ?_)
        exact ⟨fun _ _ => ⟨rfl, fin ν2 s2⟩, fun i e3 e4 => absurd e2 (by rw [e3]; exact nI_ge e4 (by omega)), fun e3 => absurd e3 e1, fun e3 => absurd e3 e1⟩
      · refine e_askM false ⟨hg1, hg2⟩ g2 hm2.1 hw.1 (fun e => absurd (hs.symm.trans e) (by simp)) (fun y hy ν2 s2 => ?_)
        have hxy : x = y := by rw [hs] at hy; injection hy
        have hb0 : ¬ b < 0 := by rw [e1]; exact nI_pos (by omega)
        refine ⟨fun _ e3 => absurd e3 (by rw [e1]; exact nI_ge e2 (by omega)), fun j e3 e4 => ⟨?_, fin ν2 s2⟩, fun e3 => absurd e3 hb0, fun e3 => absurd e3 hb0⟩
        have : i = j := by rw [e1, nI_eq (by omega) (by omega)] at e3; exact e3
        rw [this, hxy]
    · rw [b3]
      refine e_askM false ⟨hg1, hg2⟩ g2 hm2.1 hw.1 (fun e => absurd (hs.symm.trans e) (by simp)) (fun y hy ν2 s2 => ?_)
      have hxy : x = y := by rw [hs] at hy; injection hy
      refine ⟨fun e3 => absurd (by rw [e]; decide) e3, fun i e3 e4 => ?_, fun _ _ => ⟨by rw [hxy], fin ν2 s2⟩, fun _ e3 => absurd e3 (by decide)⟩
      rw [e3] at e
      exact absurd (show nI i < 0 by rw [e]; decide) (nI_pos (by omega))
  · refine e_refX1 ⟨fun _ => ?_, fun e => absurd e (by decide)⟩
    have hs := bsF_nil (ρ := ρ) (g := g) (by' := false) hn
    refine e_askM false ⟨hg1, hg2⟩ g2 (by rw [y_xin (by decide)]; exact hm1.1) hw.1 (fun _ ν2 s2 => ⟨rfl, inv_no (j := 1) (by decide) hw hx1 hm1 s2⟩) (fun y hy => absurd (hs.symm.trans hy) (by simp))
theorem op_nearest {μ : xM} {t : Nat} (hI : Inv t μ) (a b : Int32) : p_X11_nearest 0 a b μ (fun r1 μ1 => p_X12_nearest 104 a b μ1 (fun r2 μ2 => r1 = r2 ∧ Inv (t + 1) μ2)) := by
  obtain ⟨ρ, σ, h, Hρ, Hσ, cc, L, T, hw, hx, hm⟩ := hI
  have h6 := hw.1.1
  unfold p_X11_nearest p_X12_nearest p_X11_refuseOrder
  simp only [shp, e_within, y_b0]
  have bad : ¬ (inR a 1 9 ∧ (-2 : Int32) ≤ b) → p_X12_asked 104 a b 1 (xi μ 0 5 (μ.1 0 5 + 1)) (fun r2 μ2 => -10 = r2 ∧ Inv (t + 1) μ2) := fun hb => e_badM true hb ⟨rfl, inv_ref (j := 0) (by decide) hw hx hm fr_rf⟩
  by_cases g1 : inR a 1 9
  case neg =>
    rw [pr0 g1]
    exact e_refX0 ⟨fun e => absurd trivial e, fun _ => bad (fun e => g1 e.1)⟩
  rw [pr1 g1]
  refine ⟨fun g2 => ?_, fun g2 => e_refX0 ⟨fun e => absurd trivial e, fun _ => bad (fun e => g2 e.2)⟩⟩
  obtain ⟨g, hg1, hg2, rfl⟩ := i_of1 (m := 9) (by decide) g1.1 g1.2
  refine e_cntX hx.1 hw.1 (fun ν F => ?_)
  have hm1 := CM_fr (fr_lo (fun q h => by omega) F) hm
  have hx1 := CX_99 (fr_mono F (fun q h => by omega)) hx
  have hlen := LV_len (ρ := ρ) h6
  rw [show (0 : Int32) = nI 0 from rfl, nI_eq (by omega) (by decide)]
  refine ⟨fun hn => ?_, fun hn => ?_⟩
  · have hpl : ν.2 1 2 = lN (nb (fun c => ρ (43 + c)) 16) := hx1.1.2.2
    rw [hpl]
    refine e_runB true hw.1 hg2 hx1 (fun κ F2 hx2 B => ?_)
    have hm2 := CM_fr (fr_lo (fun q h => by omega) F2) hm1
    obtain ⟨x, hs, hin⟩ := bsF_ne (ρ := ρ) (g := g) (by' := true) hn
    rw [hs] at B
    obtain ⟨-, b2, b3, b4⟩ : κ.1 93 7 = 1 ∧ κ.1 93 8 = x.1 ∧ κ.1 93 9 = x.2.1 ∧ κ.2 93 10 = lN (nb x.2.2 16) := B
    have h0 : κ.1 2 0 = nI (ρ 0) := hx2.1.1.1
    have fin : ∀ ν2, scr κ ν2 → Inv (t + 1) ν2 := fun ν2 s2 => ⟨ρ, σ, h, Hρ, Hσ, cc, L, T, hw, CX_scr s2 hx2, CM_scr s2 hm2⟩
    refine ⟨fun e => ⟨fun e' => ?_, fun e' => ?_⟩, fun e => ?_⟩
    · refine e_bob h6 h0 (LV_16 h6 hin) b4 (fun e1 => ?_) (fun e1 e2 => ?_) (fun i e1 e2 => ?_)
      · exact absurd e1 (fun e1 => by
          have : b = -1 ∨ b = -2 := by grind
          rcases this with h | h
          · exact e h
          · exact e' h)
      · refine e_askM true ⟨hg1, hg2⟩ g2 hm2.1 hw.1 (fun e => absurd (hs.symm.trans e) (by simp)) (fun y hy ν2 s2 => ?_)
        exact ⟨fun _ _ => ⟨rfl, fin ν2 s2⟩, fun i e3 e4 => absurd e2 (by rw [e3]; exact nI_ge e4 (by omega)), fun e3 => absurd e3 e1, fun e3 => absurd e3 e1⟩
      · refine e_askM true ⟨hg1, hg2⟩ g2 hm2.1 hw.1 (fun e => absurd (hs.symm.trans e) (by simp)) (fun y hy ν2 s2 => ?_)
        have hxy : x = y := by rw [hs] at hy; injection hy
        have hb0 : ¬ b < 0 := by rw [e1]; exact nI_pos (by omega)
        refine ⟨fun _ e3 => absurd e3 (by rw [e1]; exact nI_ge e2 (by omega)), fun j e3 e4 => ⟨?_, fin ν2 s2⟩, fun e3 => absurd e3 hb0, fun e3 => absurd e3 hb0⟩
        have : i = j := by rw [e1, nI_eq (by omega) (by omega)] at e3; exact e3
        rw [this, hxy]
    · rw [b3]
      refine e_askM true ⟨hg1, hg2⟩ g2 hm2.1 hw.1 (fun e => absurd (hs.symm.trans e) (by simp)) (fun y hy ν2 s2 => ?_)
      have hxy : x = y := by rw [hs] at hy; injection hy
      refine ⟨fun e3 => absurd (by rw [e']; decide) e3, fun i e3 e4 => ?_, fun _ _ => ⟨by rw [hxy], fin ν2 s2⟩, fun _ _ e3 => absurd e3 e⟩
      rw [e3] at e'
      exact absurd (show nI i < 0 by rw [e']; decide) (nI_pos (by omega))
    · rw [b2]
      refine e_askM true ⟨hg1, hg2⟩ g2 hm2.1 hw.1 (fun e => absurd (hs.symm.trans e) (by simp)) (fun y hy ν2 s2 => ?_)
      have hxy : x = y := by rw [hs] at hy; injection hy
      refine ⟨fun e3 => absurd (by rw [e]; decide) e3, fun i e3 e4 => ?_, fun _ e3 => ?_, fun _ _ _ => ⟨by rw [hxy], fin ν2 s2⟩⟩
      · rw [e3] at e
        exact absurd (show nI i < 0 by rw [e]; decide) (nI_pos (by omega))
      · rcases e3 with e3 | e3
        · exact absurd e3 (by decide)
        · exact absurd e e3
  · refine e_refX1 ⟨fun _ => ?_, fun e => absurd e (by decide)⟩
    have hs := bsF_nil (ρ := ρ) (g := g) (by' := true) hn
    refine e_askM true ⟨hg1, hg2⟩ g2 (by rw [y_xin (by decide)]; exact hm1.1) hw.1 (fun _ ν2 s2 => ⟨rfl, inv_no (j := 1) (by decide) hw hx1 hm1 s2⟩) (fun y hy => absurd (hs.symm.trans hy) (by simp))
