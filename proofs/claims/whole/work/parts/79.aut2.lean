/-! the class's reader, inside an order -/
theorem ln103 : ln 103 = 4 := shl.2.2.2.2.2.2.2.2.2.2.2.2.2.2.2.2.2
theorem rt102 : rt 102 1 = 103 := by decide +kernel
theorem e_enX {κ : xM} {l e v f : Nat} {g : Bool} {nm : Nat → Int32} (hk : okA (some (l, e, v, f, g, nm))) (hA : AI κ (some (l, e, v, f, g, nm))) (hg : ¬ (g = true ∧ f = 0)) {Q : xM → Prop} (hQ : ∀ τ, fr rdP κ τ → τ.1 102 2 = κ.1 102 2 → τ.1 102 4 = κ.1 102 4 → AI τ (some (l, enE e f, 0, 0, false, enN e v f g nm)) → Q τ) : p_X4_endNumber 102 κ Q := by
  obtain ⟨k1, k2, k3, k4, k5⟩ : isLt l ∧ e ≤ nw l ∧ f ≤ 5 ∧ ((f ≠ 0 ∨ g = true) → e < nw l) ∧ (f = 0 → v = 0) := hk
  obtain ⟨a3, a0, a5, a6, a7, a8, a9, an⟩ : κ.1 102 3 = 1 ∧ κ.1 102 0 = nI l ∧ κ.1 102 5 = nI (nw l) ∧ κ.1 102 6 = nI e ∧ κ.1 102 7 = nI v ∧ κ.1 102 8 = nI f ∧ κ.1 102 9 = bI g ∧ ∀ k, k < e → κ.1 103 k = nm k := hA
  have hnw := nw_le l
  unfold p_X4_endNumber p_X4_startNumber
  simp only [rt102]
  rw [a8, show (0 : Int32) = nI 0 from rfl, nI_eq (by omega) (by decide)]
  refine ⟨fun hf => ?_, fun hf => ?_⟩
  · have he : e < nw l := k4 (Or.inl hf)
    have put : ∀ x, x = sgI g v → ∀ Q2 : xM → Prop, (∀ τ, fr rdP κ τ → τ.1 102 2 = κ.1 102 2 → τ.1 102 4 = κ.1 102 4 → AI τ (some (l, enE e f, 0, 0, false, enN e v f g nm)) → Q2 τ) → p_X5_put 103 (κ.1 102 6) x κ (fun μ3 => ∀ μ4 : xM, μ4 = xi μ3 102 6 (μ3.1 102 6 + 1) → ∀ μ1 : xM, μ1 = xi μ4 102 7 (nI 0) → ∀ μ2 : xM, μ2 = xi μ1 102 8 (nI 0) → ∀ μ3 : xM, μ3 = xi μ2 102 9 (nI 0) → Q2 μ3) := by
      intro x hx Q2 h2
      rw [a6, e_put (by rw [ln103]; omega) (by rw [ln103]; decide)]
      simp only [forall_eq]
      have e6 : (xi κ 103 e x).1 102 6 = nI e := by rw [y_xin (by decide)]; exact a6
      rw [e6, nI_1]
      refine h2 _ (fr_tr (fr_tr (fr_tr (fr_tr (fr_xi (Or.inr rfl)) (fr_xi (Or.inl rfl))) (fr_xi (Or.inl rfl))) (fr_xi (Or.inl rfl))) (fr_xi (Or.inl rfl))) ?_ ?_ ⟨?_, ?_, ?_, ?_, ?_, ?_, ?_, ?_⟩
      · rw [x_d (by decide), x_d (by decide), x_d (by decide), x_d (by decide), y_xin (by decide)]
      · rw [x_d (by decide), x_d (by decide), x_d (by decide), x_d (by decide), y_xin (by decide)]
      · rw [x_d (by decide), x_d (by decide), x_d (by decide), x_d (by decide), y_xin (by decide)]; exact a3
      · rw [x_d (by decide), x_d (by decide), x_d (by decide), x_d (by decide), y_xin (by decide)]; exact a0
      · rw [x_d (by decide), x_d (by decide), x_d (by decide), x_d (by decide), y_xin (by decide)]; exact a5
      · rw [x_d (by decide), x_d (by decide), x_d (by decide), x_s]; unfold enE; rw [if_neg hf]
      · rw [x_d (by decide), x_d (by decide), x_s]
      · rw [x_d (by decide), x_s]
      · rw [x_s]; rfl
      · intro k hk2
        unfold enE at hk2
        rw [if_neg hf] at hk2
        rw [y_xin (by decide), y_xin (by decide), y_xin (by decide), y_xin (by decide)]
        unfold enN upI
        rw [if_neg hf]
        by_cases ek : k = e
        · rw [ek, x_s]; simp [hx]
        · rw [x_d ek, an k (by omega)]; simp [ek]
    rw [a9]
    refine ⟨fun hb => ?_, fun hb => ?_⟩
    · have hg' : g = false := by cases g; rfl; exact absurd hb (by decide)
      exact put _ (by rw [a7, hg']; rfl) Q hQ
    · have hg' : g = true := by cases g; exact absurd (by decide) hb; rfl
      exact put _ (by rw [a7, hg']; rfl) Q hQ
  · have hg' : g = false := by cases g; rfl; exact absurd ⟨rfl, hf⟩ hg
    refine hQ κ fr_rf rfl rfl ?_
    unfold enE enN
    rw [if_pos hf, if_pos hf]
    exact ⟨a3, a0, a5, a6, by rw [a7, k5 hf], by rw [a8, hf], by rw [a9, hg'], an⟩
theorem nar01 : narrow .boolean (.int (1 : Int32)) = .int 1 ∧ narrow .boolean (.int (0 : Int32)) = .int 0 := by
  constructor
  · have z := nar_b (c := True); rw [if_pos trivial] at z; exact z
  · have z := nar_b (c := False); rw [if_neg (fun h => h)] at z; exact z
theorem e_tkI {ν : xM} {a : Bool} {c l e v f : Nat} {g : Bool} {nm : Nat → Int32} (hc : c < 128) (hk : okA (some (l, e, v, f, g, nm))) (hA : AX ν a (some (l, e, v, f, g, nm))) {Q : Int32 → xM → Prop} (h0 : stp (some (l, e, v, f, g, nm)) c = none → ∀ κ, fr rdP ν κ → Q 0 κ) (h1 : ∀ s2 em, stp (some (l, e, v, f, g, nm)) c = some (s2, em) → ∀ κ, fr rdP ν κ → AX κ (a || emO em) s2 → AE κ em → Q 1 κ) : p_X4_takes 102 (nI c) ν Q := by
  obtain ⟨k1, k2, k3, k4, k5⟩ : isLt l ∧ e ≤ nw l ∧ f ≤ 5 ∧ ((f ≠ 0 ∨ g = true) → e < nw l) ∧ (f = 0 → v = 0) := hk
  have hnw := nw_le l
  have hl : l < 128 := by rcases k1 with h | h | h | h | h <;> omega
  obtain ⟨a4, a3, a0, a5, a6, a7, a8, a9, an⟩ : ν.1 102 4 = bI a ∧ ν.1 102 3 = 1 ∧ ν.1 102 0 = nI l ∧ ν.1 102 5 = nI (nw l) ∧ ν.1 102 6 = nI e ∧ ν.1 102 7 = nI v ∧ ν.1 102 8 = nI f ∧ ν.1 102 9 = bI g ∧ ∀ k, k < e → ν.1 103 k = nm k := hA
  unfold p_X4_takes
  simp only [forall_eq]
  generalize hμ : xi ν 102 2 0 = μ
  have F0 : fr rdP ν μ := by rw [← hμ]; exact fr_xi (Or.inl rfl)
  have b2 : μ.1 102 2 = 0 := by rw [← hμ, x_s]
  have b4 : μ.1 102 4 = bI a := by rw [← hμ, x_d (by decide)]; exact a4
  have b3 : μ.1 102 3 = 1 := by rw [← hμ, x_d (by decide)]; exact a3
  have b0 : μ.1 102 0 = nI l := by rw [← hμ, x_d (by decide)]; exact a0
  have b5 : μ.1 102 5 = nI (nw l) := by rw [← hμ, x_d (by decide)]; exact a5
  have b6 : μ.1 102 6 = nI e := by rw [← hμ, x_d (by decide)]; exact a6
  have b7 : μ.1 102 7 = nI v := by rw [← hμ, x_d (by decide)]; exact a7
  have b8 : μ.1 102 8 = nI f := by rw [← hμ, x_d (by decide)]; exact a8
  have b9 : μ.1 102 9 = bI g := by rw [← hμ, x_d (by decide)]; exact a9
  have bn : ∀ k, k < e → μ.1 103 k = nm k := by intro k hk2; rw [← hμ, y_xin (by decide)]; exact an k hk2
  have hAI : AI μ (some (l, e, v, f, g, nm)) := ⟨b3, b0, b5, b6, b7, b8, b9, bn⟩
  rw [b3]
  refine ⟨fun _ => ?_, fun h => absurd h (by decide)⟩
  rw [show (48 : Int32) = nI 48 from rfl, show (57 : Int32) = nI 57 from rfl, nI_ltI (by omega) (by decide), nI_ltI (by decide) (by omega)]
  simp only [stp] at h0 h1
  have other : ¬ (48 ≤ c ∧ c ≤ 57) → J_X4_takes_53 102 (nI c) μ Q := by
    intro hd
    rw [if_neg hd] at h0 h1
    have J69 : ¬ (g = true ∧ f = 0) → J_X4_takes_69 102 (nI c) μ Q := by
      intro hg
      rw [if_neg hg] at h0 h1
      unfold J_X4_takes_69
      refine e_enX ⟨k1, k2, k3, k4, k5⟩ hAI hg (fun τ F1 t2 t4 hTT => ?_)
      obtain ⟨c3, c0, c5, c6, c7, c8, c9, cn⟩ : τ.1 102 3 = 1 ∧ τ.1 102 0 = nI l ∧ τ.1 102 5 = nI (nw l) ∧ τ.1 102 6 = nI (enE e f) ∧ τ.1 102 7 = nI 0 ∧ τ.1 102 8 = nI 0 ∧ τ.1 102 9 = bI false ∧ ∀ k, k < enE e f → τ.1 103 k = enN e v f g nm k := id hTT
      have F2 := fr_tr F0 F1
      have he : enE e f ≤ 5 := by unfold enE; split <;> omega
      rw [show (45 : Int32) = nI 45 from rfl, show (59 : Int32) = nI 59 from rfl, show (32 : Int32) = nI 32 from rfl, nI_eq (by omega) (by decide), nI_eq (by omega) (by decide), nI_eq (by omega) (by decide)]
      refine ⟨fun q1 => ⟨fun q2 => ⟨fun q3 => ?_, fun q3 => ?_⟩, fun q2 => ?_⟩, fun q1 => ?_⟩
      · rw [if_neg q1, if_neg q2, if_neg q3] at h0
        exact h0 rfl τ F2
      · rw [if_neg q1, if_neg q2, if_pos q3] at h1
        refine h1 _ none rfl τ F2 ⟨by rw [t4, b4]; simp [emO], hTT⟩ ⟨by rw [t2, b2]; rfl, fun _ _ h => absurd h (by simp)⟩
      · rw [if_neg q1, if_pos q2] at h0 h1
        unfold p_X4_endOrder
        rw [c6, c5, nI_eq (by omega) (by omega)]
        refine ⟨fun q3 => ?_, fun q3 => ?_⟩
        · rw [if_pos q3] at h1
          simp only [forall_eq]
          refine ⟨nar01.1, h1 none (some (l, enN e v f g nm)) rfl _ (fr_tr (fr_tr (fr_tr F2 (fr_xi (Or.inl rfl))) (fr_xi (Or.inl rfl))) (fr_xi (Or.inl rfl))) ⟨?_, ?_⟩ ⟨x_s, fun l2 nm2 h => ?_⟩⟩
          · rw [x_d (by decide), x_s]; simp [emO]; rfl
          · show _ = _
            rw [x_d (by decide), x_d (by decide), x_s]
          · injection h with h; injection h with h3 h4
            rw [← h3, ← h4]
            refine ⟨?_, fun k hk2 => ?_⟩
            · rw [x_d (by decide), x_d (by decide), x_d (by decide)]; exact c0
            · rw [y_xin (by decide), y_xin (by decide), y_xin (by decide)]; exact cn k (by omega)
        · rw [if_neg q3] at h0
          exact ⟨nar01.2, h0 rfl τ F2⟩
      · rw [if_pos q1] at h0 h1
        unfold p_X4_minus
        simp only [forall_eq]
        have F3 : fr rdP ν (xi τ 102 9 1) := fr_tr F2 (fr_xi (Or.inl rfl))
        have d0 : (xi τ 102 9 1).1 102 0 = nI l := by rw [x_d (by decide)]; exact c0
        have d6 : (xi τ 102 9 1).1 102 6 = nI (enE e f) := by rw [x_d (by decide)]; exact c6
        rw [d0, d6, show (115 : Int32) = nI 115 from rfl, show (1 : Int32) = nI 1 from rfl, show (2 : Int32) = nI 2 from rfl, nI_eq (by omega) (by decide), nI_eq (by omega) (by decide), nI_eq (by omega) (by decide)]
        have good : l = 115 ∧ (enE e f = 1 ∨ enE e f = 2) → narrow .boolean (.int (nI 1)) = .int (nI 1) ∧ Q (nI 1) (xi τ 102 9 (nI 1)) := by
          intro hm
          rw [if_pos hm] at h1
          refine ⟨nar01.1, h1 _ none rfl _ F3 ⟨?_, ?_⟩ ⟨?_, fun _ _ h => absurd h (by simp)⟩⟩
          · rw [x_d (by decide), t4, b4]; simp [emO]
          · refine ⟨?_, ?_, ?_, ?_, ?_, ?_, ?_, fun k hk2 => ?_⟩
            · rw [x_d (by decide)]; exact c3
            · rw [x_d (by decide)]; exact c0
            · rw [x_d (by decide)]; exact c5
            · rw [x_d (by decide)]; exact c6
            · rw [x_d (by decide)]; exact c7
            · rw [x_d (by decide)]; exact c8
            · rw [x_s]; rfl
            · rw [y_xin (by decide)]; exact cn k hk2
          · rw [x_d (by decide), t2, b2]; rfl
        have bad : ¬ (l = 115 ∧ (enE e f = 1 ∨ enE e f = 2)) → narrow .boolean (.int (0 : Int32)) = .int 0 ∧ Q 0 (xi τ 102 9 (nI 1)) := by
          intro hm
          rw [if_neg hm] at h0
          exact ⟨nar01.2, h0 rfl _ F3⟩
        exact ⟨fun q => bad (fun h => q h.1), fun q => ⟨fun q2 => good ⟨q, Or.inl q2⟩, fun q2 => ⟨fun q3 => bad (fun h => by rcases h.2 with h | h; exact q2 h; exact q3 h), fun q3 => good ⟨q, Or.inr q3⟩⟩⟩⟩
    unfold J_X4_takes_53
    rw [b8, b9, bI0, show (0 : Int32) = nI 0 from rfl, nI_eq (by omega) (by decide)]
    refine ⟨fun hg => J69 (fun h => absurd (h.1.symm.trans hg) (by decide)), fun hg => ⟨fun hf => J69 (fun h => hf h.2), fun hf => ?_⟩⟩
    have hg' : g = true := by cases g; exact absurd rfl hg; rfl
    rw [if_pos ⟨hg', hf⟩] at h0
    exact h0 rfl μ F0
  refine ⟨fun hd => other (by omega), fun hd => ⟨fun hd2 => other (by omega), fun hd2 => ?_⟩⟩
  have hdig : 48 ≤ c ∧ c ≤ 57 := by omega
  rw [if_pos hdig] at h0 h1
  unfold p_X4_figure
  rw [b5, b6, b8, nI_leI (by omega) (by omega), show (5 : Int32) = nI 5 from rfl, nI_ltI (by omega) (by decide), pk_sub (by omega)]
  refine ⟨fun q => ⟨nar01.2, h0 (if_pos (Or.inl q)) μ F0⟩, fun q => ⟨fun q2 => ?_, fun q2 => ⟨nar01.2, h0 (if_pos (Or.inr (by omega))) μ F0⟩⟩⟩
  have hn : ¬ (nw l ≤ e ∨ 5 ≤ f) := by omega
  rw [if_neg hn] at h1
  simp only [forall_eq]
  rw [b7, show (10 : Int32) = nI 10 from rfl, pk_mul, nI_add]
  have e8 : (xi μ 102 7 (nI (10 * v + (c - 48)))).1 102 8 = nI f := by rw [x_d (by decide)]; exact b8
  rw [e8, nI_1]
  refine ⟨nar01.1, h1 _ none rfl _ (fr_tr (fr_tr F0 (fr_xi (Or.inl rfl))) (fr_xi (Or.inl rfl))) ⟨?_, ?_⟩ ⟨?_, fun _ _ h => absurd h (by simp)⟩⟩
  · rw [x_d (by decide), x_d (by decide), b4]; simp [emO]
  · refine ⟨?_, ?_, ?_, ?_, ?_, ?_, ?_, fun k hk2 => ?_⟩
    · rw [x_d (by decide), x_d (by decide)]; exact b3
    · rw [x_d (by decide), x_d (by decide)]; exact b0
    · rw [x_d (by decide), x_d (by decide)]; exact b5
    · rw [x_d (by decide), x_d (by decide)]; exact b6
    · rw [x_d (by decide), x_s]
    · rw [x_s]
    · rw [x_d (by decide), x_d (by decide)]; exact b9
    · rw [y_xin (by decide), y_xin (by decide)]; exact bn k hk2
  · rw [x_d (by decide), x_d (by decide), b2]; rfl
theorem e_tk {ν : xM} {a : Bool} {c : Nat} {s : sT} (hc : c < 128) (hk : okA s) (hA : AX ν a s) {Q : Int32 → xM → Prop} (h0 : stp s c = none → ∀ κ, fr rdP ν κ → Q 0 κ) (h1 : ∀ s2 em, stp s c = some (s2, em) → ∀ κ, fr rdP ν κ → AX κ (a || emO em) s2 → AE κ em → Q 1 κ) : p_X4_takes 102 (nI c) ν Q := by
  cases s with
  | none => exact e_tkN hc hA h0 h1
  | some x => obtain ⟨l, e, v, f, g, nm⟩ := x; exact e_tkI hc hk hA h0 h1
