/-! the class reads the text, twice -/
abbrev rT : Type := Sum Nat (List oT)
def goA (T : Nat → Nat) (L : Nat) : Nat → Nat → sT → List oT → rT
  | 0, _, s, acc => if (s.isNone && !acc.isEmpty) = true then .inr acc else .inl L
  | f + 1, i, s, acc => match stp s (T i) with
    | none => .inl i
    | some (s2, em) => goA T L f (i + 1) s2 (acc ++ em.toList)
def anyB (acc : List oT) : Bool := !acc.isEmpty
theorem any_s {acc : List oT} {em : Option oT} : anyB (acc ++ em.toList) = (anyB acc || emO em) := by
  unfold anyB emO
  cases em with
  | none => simp
  | some o => cases acc <;> simp
def exS (x : (Nat → Nat) × Int32 × Nat) (o : oT) : (Nat → Nat) × Int32 × Nat := ((ex1 o.1 o.2 x.1 x.2.1).1, (ex1 o.1 o.2 x.1 x.2.1).2.1, if (ex1 o.1 o.2 x.1 x.2.1).2.2 = true then x.2.2 + 1 else x.2.2)
def exF (ρ : Nat → Nat) (σ : Int32) (l : List oT) : (Nat → Nat) × Int32 × Nat := l.foldl exS (ρ, σ, 0)
theorem exF_s {ρ : Nat → Nat} {σ : Int32} {l : List oT} {o : oT} : exF ρ σ (l ++ [o]) = exS (exF ρ σ l) o := by
  unfold exF
  rw [List.foldl_append]
  rfl
def TX (μ : xM) (L : Nat) (T : Nat → Nat) : Prop := μ.1 100 1 = nI L ∧ (∀ i, i < L → μ.1 101 i = nI (T i)) ∧ L ≤ 150 ∧ ∀ i, i < L → T i < 128
theorem TX_fr {μ ν : xM} {L : Nat} {T : Nat → Nat} {P : Nat → Prop} (h0 : ¬ P 100) (h1 : ¬ P 101) (F : fr P μ ν) (h : TX μ L T) : TX ν L T := by
  unfold TX
  rw [(F 100 h0).1, (F 101 h1).1]
  exact h
theorem rt100 : rt 100 0 = 101 ∧ ln 101 = 150 := by decide +kernel
theorem e_chr {ν : xM} {L i : Nat} {T : Nat → Nat} (h : TX ν L T) (hi : i < L) {Q : Int32 → xM → Prop} : p_X5_at 101 (nI i) ν Q ↔ Q (nI (T i)) ν := by
  have := h.2.2.1
  rw [e_at (by rw [rt100.2]; omega) (by rw [rt100.2]; decide), h.2.1 i hi]
theorem l_flt {μ : xM} {L : Nat} {T : Nat → Nat} (hT : TX μ L T) {K0 : xM → Prop} {K1 : Int32 → xM → Prop} (r : rT) (h0 : ∀ κ acc s, fr rdP μ κ → AX κ (anyB acc) s → goA T L 0 L s acc = r → K0 κ) (h1 : ∀ κ j, fr rdP μ κ → r = .inl j → j < L → K1 (nI j) κ) : ∀ f i s acc ν, i + f = L → okA s → fr rdP μ ν → AX ν (anyB acc) s → goA T L f i s acc = r → L_X11_faultOfText_9 0 (f + 1) (nI i) ν K0 K1
  | 0, i, s, acc, ν, hi, hk, F, hA, hg => by
    obtain rfl : i = L := by omega
    have hT2 := TX_fr (by unfold rdP; decide) (by unfold rdP; decide) F hT
    unfold L_X11_faultOfText_9 B_X11_faultOfText_9
    simp only [shp, hT2.1]
    exact ⟨fun _ => h0 ν acc s F hA hg, fun h => absurd (nI_le (Nat.le_refl _) (by have := hT.2.2.1; omega)) h⟩
  | f + 1, i, s, acc, ν, hi, hk, F, hA, hg => by
    have hT2 := TX_fr (by unfold rdP; decide) (by unfold rdP; decide) F hT
    have hL := hT.2.2.1
    unfold L_X11_faultOfText_9 B_X11_faultOfText_9
    simp only [shp, hT2.1]
    refine ⟨fun h => absurd h (nI_ge (by omega) (by omega)), fun _ => ?_⟩
    rw [e_chr hT2 (by omega)]
    simp only [goA] at hg
    refine e_tk (hT.2.2.2 i (by omega)) hk hA (fun hs κ F2 => ?_) (fun s2 em hs κ F2 A2 E2 => ?_)
    · rw [hs] at hg
      exact ⟨fun h => absurd rfl h, fun _ => h1 κ i (fr_tr F F2) hg.symm (by omega)⟩
    · rw [hs] at hg
      refine ⟨fun _ => ?_, fun h => absurd h (by decide)⟩
      simp only [forall_eq, nI_1]
      refine l_flt hT r h0 h1 f (i + 1) s2 _ κ (by omega) (okA_stp hk hs) (fr_tr F F2) ?_ hg
      rw [any_s]
      exact A2
theorem AX_r {ν : xM} : AX (xi (xi (xi ν 102 2 0) 102 3 0) 102 4 0) false none := by
  refine ⟨?_, ?_⟩
  · rw [x_s]; rfl
  · show _ = _
    rw [x_d (by decide), x_s]
theorem e_flt {μ : xM} {L : Nat} {T : Nat → Nat} (hT : TX μ L T) {Q : Int32 → xM → Prop} (h0 : ∀ κ acc, fr rdP μ κ → goA T L L 0 none [] = .inr acc → Q (-1) κ) (h1 : ∀ κ j, fr rdP μ κ → goA T L L 0 none [] = .inl j → j ≤ L → Q (nI j) κ) : p_X11_faultOfText 0 μ Q := by
  unfold p_X11_faultOfText p_X4_restart
  simp only [forall_eq, shp]
  have F0 : fr rdP μ (xi (xi (xi μ 102 2 0) 102 3 0) 102 4 0) := fr_tr (fr_tr (fr_xi (Or.inl rfl)) (fr_xi (Or.inl rfl))) (fr_xi (Or.inl rfl))
  refine ⟨L + 1, l_flt hT (goA T L L 0 none []) ?_ ?_ L 0 none [] _ (by omega) trivial F0 AX_r rfl⟩
  · intro κ acc s F hA hg
    have hT2 := TX_fr (by unfold rdP; decide) (by unfold rdP; decide) F hT
    unfold p_X4_mayEnd
    dsimp only
    rw [hA.1, hT2.1, bI0]
    simp only [goA] at hg
    have hany : anyB acc = !acc.isEmpty := rfl
    refine ⟨fun e => ⟨fun _ => ?_, fun h => absurd rfl h⟩, fun e => ?_⟩
    · rw [← hany, e, Bool.and_false, if_neg (by decide)] at hg
      exact h1 κ L F hg.symm (Nat.le_refl _)
    · have e' : anyB acc = true := by simpa using e
      rw [← hany, e', Bool.and_true] at hg
      cases s with
      | none =>
        have h3 : κ.1 102 3 = 0 := hA.2
        rw [h3]
        refine ⟨fun h => absurd rfl h, fun _ => ⟨fun h => absurd h (by decide), fun _ => ?_⟩⟩
        exact h0 κ acc F hg.symm
      | some x =>
        obtain ⟨l, e, v, f, g, nm⟩ := x
        have h3 : κ.1 102 3 = 1 := hA.2.1
        rw [h3]
        refine ⟨fun _ => ⟨fun _ => ?_, fun h => absurd rfl h⟩, fun h => absurd h (by decide)⟩
        exact h1 κ L F hg.symm (Nat.le_refl _)
  · intro κ j F hg hj
    exact h1 κ j F hg (by omega)
/-- only letters are read -/
theorem stp_lt {s s2 : sT} {c l : Nat} {nm : Nat → Int32} (hk : okA s) (h : stp s c = some (s2, some (l, nm))) : isLt l := by
  cases s with
  | none =>
    simp only [stp] at h
    split at h
    · simp at h
    · split at h
      · simp at h
      · simp at h
  | some x =>
    obtain ⟨l2, e, v, f, g, nm2⟩ := x
    have k1 : isLt l2 := hk.1
    simp only [stp] at h
    split at h
    · split at h
      · simp at h
      · simp at h
    · split at h
      · simp at h
      · split at h
        · split at h
          · simp at h
          · simp at h
        · split at h
          · split at h
            · injection h with h; injection h with h1 h2; injection h2 with h2; injection h2 with h3 h4
              rw [← h3]; exact k1
            · simp at h
          · split at h
            · simp at h
            · simp at h
def dtP : Nat → Prop := fun q => (2 ≤ q ∧ q ≤ 15) ∨ q = 102 ∨ q = 103
theorem l_dt {μ : xM} {L : Nat} {T : Nat → Nat} {ρ : Nat → Nat} {σ : Int32} (hT : TX μ L T) (fin : List oT) {K0 K1 : Int32 → xM → Prop} (h0 : ∀ κ, fr dtP μ κ → Rep κ 1 (exF ρ σ fin).1 (exF ρ σ fin).2.1 → WF (exF ρ σ fin).1 → K0 (nI (exF ρ σ fin).2.2) κ) : ∀ f i s acc ν, i + f = L → okA s → fr dtP μ ν → AX ν (anyB acc) s → Rep ν 1 (exF ρ σ acc).1 (exF ρ σ acc).2.1 → WF (exF ρ σ acc).1 → goA T L f i s acc = .inr fin → L_X11_doText_11 0 (f + 1) (nI i) (nI (exF ρ σ acc).2.2) ν K0 K1
  | 0, i, s, acc, ν, hi, hk, F, hA, hR, hW, hg => by
    obtain rfl : i = L := by omega
    have hT2 := TX_fr (by unfold dtP; decide) (by unfold dtP; decide) F hT
    unfold L_X11_doText_11 B_X11_doText_11
    simp only [shp, hT2.1]
    refine ⟨fun _ => ?_, fun h => absurd (nI_le (Nat.le_refl _) (by have := hT.2.2.1; omega)) h⟩
    simp only [goA] at hg
    split at hg
    · injection hg with hg
      rw [hg] at hR hW ⊢
      exact h0 ν F hR hW
    · simp at hg
  | f + 1, i, s, acc, ν, hi, hk, F, hA, hR, hW, hg => by
    have hT2 := TX_fr (by unfold dtP; decide) (by unfold dtP; decide) F hT
    have hL := hT.2.2.1
    unfold L_X11_doText_11 B_X11_doText_11
    simp only [shp, hT2.1]
    refine ⟨fun h => absurd h (nI_ge (by omega) (by omega)), fun _ => ?_⟩
    rw [e_chr hT2 (by omega)]
    simp only [goA] at hg
    refine e_tk (hT.2.2.2 i (by omega)) hk hA (fun hs κ F2 => ?_) (fun s2 em hs κ F2 A2 E2 => ?_)
    · rw [hs] at hg
      simp at hg
    · rw [hs] at hg
      refine ⟨fun _ => ?_, fun h => absurd h (by decide)⟩
      have F3 : fr dtP μ κ := fr_tr F (fr_mono F2 (fun q e => by unfold rdP at e; unfold dtP; omega))
      have hR2 : Rep κ 1 (exF ρ σ acc).1 (exF ρ σ acc).2.1 := Rep_fr (fun q q1 q2 => F2 q (by unfold rdP; omega)) hR
      simp only [forall_eq, nI_1]
      rw [E2.1]
      cases em with
      | none =>
        refine ⟨fun _ => ?_, fun h => absurd rfl h⟩
        simp only [Option.toList, List.append_nil] at hg
        rw [show (anyB acc || emO none) = anyB acc by simp [emO]] at A2
        exact l_dt hT fin h0 f (i + 1) s2 acc κ (by omega) (okA_stp hk hs) F3 A2 hR2 hW hg
      | some o =>
        obtain ⟨l, nm⟩ := o
        refine ⟨fun h => absurd h (show ¬ (1 : Int32) = 0 by decide), fun _ => ?_⟩
        have hE := E2.2 l nm rfl
        have hli := stp_lt hk hs
        have hs3 : exF ρ σ (acc ++ [(l, nm)]) = exS (exF ρ σ acc) (l, nm) := exF_s
        have hany : anyB (acc ++ [(l, nm)]) = (anyB acc || emO (some (l, nm))) := any_s (em := some (l, nm))
        refine e_doX hli hE hR2 hW (fun τ F4 r4 => ?_)
        have F5 : fr dtP μ τ := fr_tr F3 (fr_mono F4 (fun q e => by unfold dtP; omega))
        have A4 : AX τ (anyB (acc ++ [(l, nm)])) s2 := by
          rw [hany]
          unfold AX AI at A2 ⊢
          rw [(F4 102 (by omega)).1, (F4 103 (by omega)).1]
          exact A2
        have z := l_dt hT fin h0 (K1 := K1) f (i + 1) s2 (acc ++ [(l, nm)]) τ (by omega) (okA_stp hk hs) F5 A4 (by rw [hs3]; exact r4) (by rw [hs3]; exact ex1_WF hW) hg
        rw [hs3] at z
        unfold exS at z
        rw [bI0]
        refine ⟨fun hb => ?_, fun hb => ?_⟩
        · rw [if_neg (by rw [hb]; decide)] at z
          exact z
        · have hb' : (ex1 l nm (exF ρ σ acc).1 (exF ρ σ acc).2.1).2.2 = true := by simpa using hb
          rw [if_pos hb'] at z
          exact z
theorem e_dt {μ : xM} {L : Nat} {T : Nat → Nat} {ρ : Nat → Nat} {σ : Int32} (hT : TX μ L T) (hR : Rep μ 1 ρ σ) (hW : WF ρ) {fin : List oT} (hg : goA T L L 0 none [] = .inr fin) {Q : Int32 → xM → Prop} (hQ : ∀ κ, fr dtP μ κ → Rep κ 1 (exF ρ σ fin).1 (exF ρ σ fin).2.1 → WF (exF ρ σ fin).1 → Q (nI (exF ρ σ fin).2.2) κ) : p_X11_doText 0 μ Q := by
  unfold p_X11_doText p_X4_restart
  simp only [forall_eq, shp]
  have F0 : fr rdP μ (xi (xi (xi μ 102 2 0) 102 3 0) 102 4 0) := fr_tr (fr_tr (fr_xi (Or.inl rfl)) (fr_xi (Or.inl rfl))) (fr_xi (Or.inl rfl))
  refine ⟨L + 1, l_dt (ρ := ρ) (σ := σ) hT fin hQ L 0 none [] _ (by omega) trivial (fr_mono F0 (fun q e => by unfold rdP at e; unfold dtP; omega)) AX_r ?_ hW hg⟩
  exact Rep_fr (fun q q1 q2 => F0 q (by unfold rdP; omega)) hR
