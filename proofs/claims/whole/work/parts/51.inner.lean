abbrev isB (k n : Int32) : Prop := 0 ≤ k ∧ k < n
abbrev inR (k lo hi : Int32) : Prop := lo ≤ k ∧ k ≤ hi
abbrev vBlk (a b c d : Int32) : Prop := inR a 0 3 ∧ inR b 1 7 ∧ inR c 0 9 ∧ inR d 1 65535
theorem e_hasX {q : Nat} {k : Int32} {μ : xM} {Q : Int32 → xM → Prop} : p_X0_has q k μ Q ↔ Q (if isB k (μ.1 q 0) then 1 else 0) μ := by
  unfold p_X0_has
  by_cases h1 : k < 0
  · have : ¬ isB k (μ.1 q 0) := by grind
    rw [if_neg this]
    simp only [h1, true_implies, not_true_eq_false, false_implies, and_true]
  · by_cases h2 : μ.1 q 0 ≤ k
    · have : ¬ isB k (μ.1 q 0) := by grind
      rw [if_neg this]
      simp only [h1, h2, true_implies, false_implies, not_true_eq_false, not_false_eq_true, and_true, true_and]
    · have : isB k (μ.1 q 0) := by grind
      rw [if_pos this]
      simp only [h1, h2, true_implies, false_implies, not_true_eq_false, not_false_eq_true, and_true, true_and, and_self]
theorem pr1 {c A B : Prop} (h : c) : ((¬ c → A) ∧ (¬ ¬ c → B)) ↔ B := ⟨fun x => x.2 (fun y => y h), fun x => ⟨fun y => absurd h y, fun _ => x⟩⟩
theorem pr0 {c A B : Prop} (h : ¬ c) : ((¬ c → A) ∧ (¬ ¬ c → B)) ↔ A := ⟨fun x => x.1 h, fun x => ⟨fun _ => x, fun y => absurd h y⟩⟩
theorem pr1' {c A B : Prop} (h : c) : ((¬ ¬ c → B) ∧ (¬ c → A)) ↔ B := ⟨fun x => x.1 (fun y => y h), fun x => ⟨fun _ => x, fun y => absurd h y⟩⟩
theorem pr0' {c A B : Prop} (h : ¬ c) : ((¬ ¬ c → B) ∧ (¬ c → A)) ↔ A := ⟨fun x => x.2 h, fun x => ⟨fun y => absurd h y, fun _ => x⟩⟩
theorem e_unl {q : Nat} {a b : Int32} {μ : xM} {Q : Int32 → xM → Prop} : p_X0_areUnlike q a b μ Q ↔ Q (if isB a (μ.1 q 0) ∧ isB b (μ.1 q 0) ∧ ¬ a = b then 1 else 0) μ := by
  unfold p_X0_areUnlike
  simp only [e_hasX, y_b0]
  by_cases h1 : isB a (μ.1 q 0)
  · rw [pr1 h1]
    by_cases h2 : isB b (μ.1 q 0)
    · rw [pr1 h2]
      by_cases h3 : a = b
      · rw [if_neg (fun h => h.2.2 h3)]
        exact ⟨fun x => x.1 h3, fun x => ⟨fun _ => x, fun y => absurd h3 y⟩⟩
      · rw [if_pos ⟨h1, h2, h3⟩]
        exact ⟨fun x => x.2 h3, fun x => ⟨fun y => absurd y h3, fun _ => x⟩⟩
    · rw [pr0 h2, if_neg (fun h => h2 h.2.1)]
  · rw [pr0 h1, if_neg (fun h => h1 h.1)]
theorem e_whyBlk {a b c d : Int32} {μ : xM} {Q : Int32 → xM → Prop} : p_X11_whyNoBlock 0 a b c d μ Q ↔ Q (if vBlk a b c d then (if μ.1 2 0 < 6 then 0 else -4) else -2) μ := by
  unfold p_X11_whyNoBlock
  simp only [e_within, y_b0, shp]
  by_cases h1 : inR a 0 3
  · rw [pr1 h1]
    by_cases h2 : inR b 1 7
    · rw [pr1' h2]
      by_cases h3 : inR c 0 9
      · rw [pr1 h3]
        by_cases h4 : inR d 1 65535
        · rw [pr1' h4, if_pos ⟨h1, h2, h3, h4⟩]
          by_cases h5 : μ.1 2 0 < 6
          · rw [if_pos h5]
            exact ⟨fun x => x.1 h5, fun x => ⟨fun _ => x, fun y => absurd h5 y⟩⟩
          · rw [if_neg h5]
            exact ⟨fun x => x.2 h5, fun x => ⟨fun y => absurd y h5, fun _ => x⟩⟩
        · rw [pr0' h4, if_neg (fun h => h4 h.2.2.2)]
      · rw [pr0 h3, if_neg (fun h => h3 h.2.2.1)]
    · rw [pr0' h2, if_neg (fun h => h2 h.2.1)]
  · rw [pr0 h1, if_neg (fun h => h1 h.1)]
theorem e_whyShf {k x y : Int32} {μ : xM} {Q : Int32 → xM → Prop} : p_X11_whyNoShift 0 k x y μ Q ↔ Q (if isB k (μ.1 2 0) ∧ inR x (-3) 3 ∧ inR y (-3) 3 then 0 else -2) μ := by
  unfold p_X11_whyNoShift
  simp only [e_within, e_hasX, y_b0, shp]
  by_cases h1 : isB k (μ.1 2 0)
  · rw [pr1' h1]
    by_cases h2 : inR x (-3) 3
    · rw [pr1 h2]
      by_cases h3 : inR y (-3) 3
      · rw [pr1 h3, if_pos ⟨h1, h2, h3⟩]
      · rw [pr0 h3, if_neg (fun h => h3 h.2.2)]
    · rw [pr0 h2, if_neg (fun h => h2 h.2.1)]
  · rw [pr0' h1, if_neg (fun h => h1 h.1)]
theorem e_whyBeh {a b s : Int32} {μ : xM} {Q : Int32 → xM → Prop} : p_X11_whyNoBehind 0 a b s μ Q ↔ Q (if (isB a (μ.1 2 0) ∧ isB b (μ.1 2 0) ∧ ¬ a = b) ∧ inR s 0 1 then 0 else -2) μ := by
  unfold p_X11_whyNoBehind
  simp only [e_within, e_unl, y_b0, shp]
  by_cases h1 : isB a (μ.1 2 0) ∧ isB b (μ.1 2 0) ∧ ¬ a = b
  · rw [pr1 h1]
    by_cases h2 : inR s 0 1
    · rw [pr1 h2, if_pos ⟨h1, h2⟩]
    · rw [pr0 h2, if_neg (fun h => h2 h.2)]
  · rw [pr0 h1, if_neg (fun h => h1 h.1)]
theorem isB_n : ∀ n, n ≤ 6 → ∀ k : Int32, (0 ≤ k ∧ k ≤ nI n - 1) ↔ isB k (nI n) := by
  intro n hn k
  rcases (show n = 0 ∨ n = 1 ∨ n = 2 ∨ n = 3 ∨ n = 4 ∨ n = 5 ∨ n = 6 by omega) with rfl | rfl | rfl | rfl | rfl | rfl | rfl <;> simp only [← y_lit] <;> grind
theorem nar_b {c : Prop} [Decidable c] : narrow .boolean (.int (if c then (1 : Int32) else 0)) = .int (if c then (1 : Int32) else 0) := by split <;> rfl
theorem e_isBlk {k : Int32} {n : Nat} {μ : xM} {Q : Int32 → xM → Prop} (h0 : μ.1 105 0 = nI n) (hn : n ≤ 6) : p_X12_isBlock 104 k μ Q ↔ Q (if isB k (nI n) then 1 else 0) μ := by
  unfold p_X12_isBlock
  simp only [shm, e_in, nar_b, true_and, clamp0, h0, isB_n n hn]
  have : vp_in (0 : Int32) 131 := vp_in_nI (n := 0) (by decide) (by decide)
  simp only [this, true_and]
theorem isB_of {k : Int32} {n : Nat} (hn : n ≤ 6) (h : isB k (nI n)) : ∃ j, j < n ∧ k = nI j := by
  obtain ⟨j, h1, h2⟩ := nI_of (show ¬ k < 0 by grind)
  refine ⟨j, ?_, h2⟩
  have := h.2
  rw [h2, nI_ltI h1 (by omega)] at this
  exact this
theorem isB_nI {j n : Nat} (hj : j < n) (hn : n ≤ 6) : isB (nI j) (nI n) := ⟨nI_pos' (by omega), nI_lt hj (by omega)⟩
theorem sh_of {x : Int32} (h : inR x (-3) 3) : ∃ j, j < 7 ∧ x = nI j - 3 := by
  have : x = -3 ∨ x = -2 ∨ x = -1 ∨ x = 0 ∨ x = 1 ∨ x = 2 ∨ x = 3 := by grind
  rcases this with rfl | rfl | rfl | rfl | rfl | rfl | rfl
  · exact ⟨0, by decide, by decide⟩
  · exact ⟨1, by decide, by decide⟩
  · exact ⟨2, by decide, by decide⟩
  · exact ⟨3, by decide, by decide⟩
  · exact ⟨4, by decide, by decide⟩
  · exact ⟨5, by decide, by decide⟩
  · exact ⟨6, by decide, by decide⟩
/-- the rows behind what is done -/
def rAdd (ρ : Nat → Nat) (a b c d : Nat) : Nat → Nat := fun i => if i = 0 then ρ 0 + 1 else if i = 1 + 7 * ρ 0 then a else if i = 2 + 7 * ρ 0 then b else if i = 3 + 7 * ρ 0 then c else if i = 4 + 7 * ρ 0 then d else if i = 5 + 7 * ρ 0 then 3 else if i = 6 + 7 * ρ 0 then 3 else if i = 7 + 7 * ρ 0 then 0 else ρ i
theorem rAdd_o {ρ : Nat → Nat} {a b c d i : Nat} (h0 : i ≠ 0) (h : i ≤ 7 * ρ 0 ∨ 8 + 7 * ρ 0 ≤ i) : rAdd ρ a b c d i = ρ i := by
  unfold rAdd
  rw [if_neg h0, if_neg (by omega), if_neg (by omega), if_neg (by omega), if_neg (by omega), if_neg (by omega), if_neg (by omega), if_neg (by omega)]
theorem rAdd_0 {ρ : Nat → Nat} {a b c d : Nat} : rAdd ρ a b c d 0 = ρ 0 + 1 := by simp [rAdd]
theorem rAdd_1 {ρ : Nat → Nat} {a b c d : Nat} : rAdd ρ a b c d (1 + 7 * ρ 0) = a ∧ rAdd ρ a b c d (2 + 7 * ρ 0) = b ∧ rAdd ρ a b c d (3 + 7 * ρ 0) = c ∧ rAdd ρ a b c d (4 + 7 * ρ 0) = d ∧ rAdd ρ a b c d (5 + 7 * ρ 0) = 3 ∧ rAdd ρ a b c d (6 + 7 * ρ 0) = 3 ∧ rAdd ρ a b c d (7 + 7 * ρ 0) = 0 := by
  refine ⟨?_, ?_, ?_, ?_, ?_, ?_, ?_⟩ <;> (unfold rAdd; simp) <;> (try omega)
theorem WF_add {ρ : Nat → Nat} {a b c d : Nat} (hw : WF ρ) (hn : ρ 0 < 6) (ha : a < 4) (hb : 1 ≤ b ∧ b < 8) (hc : c ≤ 9) (hd : 1 ≤ d ∧ d < 65536) : WF (rAdd ρ a b c d) := by
  obtain ⟨h1, h2, h3, h4, h5, h6, h7⟩ := hw
  have g : ∀ i, 43 ≤ i → rAdd ρ a b c d i = ρ i := fun i hi => rAdd_o (by omega) (Or.inr (by omega))
  refine ⟨by rw [rAdd_0]; omega, fun k hk => ?_, fun c hc => ?_, ?_, ?_, ?_, fun i hi => ?_⟩
  · rw [rAdd_0] at hk
    unfold WB
    by_cases e : k = ρ 0
    · obtain ⟨q1, q2, q3, q4, q5, q6, q7⟩ := @rAdd_1 ρ a b c d
      rw [e, q1, q2, q3, q4, q5, q6, q7]
      exact ⟨ha, hb, hc, hd, by decide, by decide, by decide⟩
    · have := h2 k (by omega)
      unfold WB at this
      rw [rAdd_o (by omega) (Or.inl (by omega)), rAdd_o (by omega) (Or.inl (by omega)), rAdd_o (by omega) (Or.inl (by omega)), rAdd_o (by omega) (Or.inl (by omega)), rAdd_o (by omega) (Or.inl (by omega)), rAdd_o (by omega) (Or.inl (by omega)), rAdd_o (by omega) (Or.inl (by omega))]
      exact this
  · rw [g _ (by omega), g _ (by omega), g _ (by omega)]; exact h3 c hc
  · rw [g _ (by omega)]; exact h4
  · rw [g _ (by omega)]; exact h5
  · rw [g _ (by omega), g _ (by omega)]; exact h6
  · rw [g _ (by omega)] at hi
    have := h7 i hi
    rw [g (95 + 3 * i) (by omega), g (96 + 3 * i) (by omega), g (97 + 3 * i) (by omega), g 92 (by omega), rAdd_0]
    exact ⟨by omega, this.2⟩
theorem RH_ext {μ ν : xM} {b : Nat} {ρ ρ2 : Nat → Nat} {σ : Int32} (hf : ∀ q, b + 10 ≤ q → q < b + 15 → ν.1 q = μ.1 q ∧ ν.2 q = μ.2 q) (hρ : ∀ i, 59 ≤ i → ρ2 i = ρ i) (h : RH μ b ρ σ) : RH ν b ρ2 σ := by
  obtain ⟨⟨h1, h2, h3⟩, h4, h5, h6, h7⟩ := h
  have e1 : (fun c => ρ2 (59 + c)) = fun c => ρ (59 + c) := by funext c; exact hρ _ (by omega)
  have e2 : (fun c => ρ2 (75 + c)) = fun c => ρ (75 + c) := by funext c; exact hρ _ (by omega)
  unfold RH SH
  rw [e1, e2, hρ 91 (by omega), hρ 92 (by omega), hρ 93 (by omega), (hf (b + 11) (by omega) (by omega)).1, (hf (b + 11) (by omega) (by omega)).2, (hf (b + 10) (by omega) (by omega)).1]
  refine ⟨⟨h1, h2, h3⟩, h4, h5, h6, fun i hi => ?_⟩
  have := h7 i hi
  unfold RPi at this ⊢
  rw [hρ _ (by omega), hρ _ (by omega), hρ _ (by omega), (hf (b + 12) (by omega) (by omega)).1, (hf (b + 13) (by omega) (by omega)).1, (hf (b + 14) (by omega) (by omega)).1]
  exact this
theorem e_mv2 {k a x y : Nat} (hk : k < 6) (ha : a < 65536) (hx : x < 7) (hy : y < 7) {μ : xM} (hA : μ.1 6 k = nI a) {Q : xM → Prop} (hQ : Q (xi (xi (xi μ 7 k (nI x - 3)) 8 k (nI y - 3)) 9 k (nI (mvN a x y)))) : p_X0_move 2 (nI k) (nI x - 3) (nI y - 3) μ Q := by
  unfold p_X0_move
  simp only [shp]
  rw [e_put (by simp only [shl]; exact hk) (by decide +kernel), e_put (by simp only [shl]; exact hk) (by decide +kernel), e_at (by simp only [shl]; exact hk) (by decide +kernel)]
  rw [y_xi, if_neg (by omega), y_xi, if_neg (by omega), hA]
  refine e_mvX ha hx hy ?_
  rw [e_put (by simp only [shl]; exact hk) (by decide +kernel)]
  exact hQ
theorem e_addX {μ : xM} {ρ : Nat → Nat} {σ : Int32} {a b c d : Nat} (hR : Rep μ 1 ρ σ) (hn : ρ 0 < 6) (hd : d < 65536) {Q : Int32 → xM → Prop} (hQ : ∀ ν, fr (fun q => 2 ≤ q ∧ q ≤ 10) μ ν → Rep ν 1 (rAdd ρ a b c d) σ → Q (nI (ρ 0)) ν) : p_X0_add 2 (nI a) (nI b) (nI c) (nI d) μ Q := by
  obtain ⟨⟨h1, h2⟩, h3, h4⟩ := hR
  unfold p_X0_add
  simp only [shp]
  intro v1 ev
  have h1' : μ.1 2 0 = nI (ρ 0) := h1
  rw [h1'] at ev
  rw [ev, e_put (by simp only [shl]; exact hn) (by decide +kernel), e_put (by simp only [shl]; exact hn) (by decide +kernel), e_put (by simp only [shl]; exact hn) (by decide +kernel), e_put (by simp only [shl]; exact hn) (by decide +kernel), e_put (by simp only [shl]; exact hn) (by decide +kernel)]
  rw [show (0 : Int32) = nI 3 - 3 by decide]
  refine e_mv2 (a := d) hn hd (by decide) (by decide) ?_ ?_
  · simp [y_xi]
  intro μ8 e8
  rw [nI_1] at e8
  have H : ∀ q j, μ8.1 q j = if q = 2 ∧ j = 0 then nI (ρ 0 + 1) else if q = 9 ∧ j = ρ 0 then nI (mvN d 3 3) else if q = 8 ∧ j = ρ 0 then nI 3 - 3 else if q = 7 ∧ j = ρ 0 then nI 3 - 3 else if q = 10 ∧ j = ρ 0 then nI 3 - 3 else if q = 6 ∧ j = ρ 0 then nI d else if q = 5 ∧ j = ρ 0 then nI c else if q = 4 ∧ j = ρ 0 then nI b else if q = 3 ∧ j = ρ 0 then nI a else μ.1 q j := by
    intro q j
    rw [e8]
    simp only [y_xi]
  have F : fr (fun q => 2 ≤ q ∧ q ≤ 10) μ μ8 := by
    rw [e8]
    exact fr_tr (fr_tr (fr_tr (fr_tr (fr_tr (fr_tr (fr_tr (fr_tr (fr_xi (by omega)) (fr_xi (by omega))) (fr_xi (by omega))) (fr_xi (by omega))) (fr_xi (by omega))) (fr_xi (by omega))) (fr_xi (by omega))) (fr_xi (by omega))) (fr_xi (by omega))
  refine hQ μ8 F ⟨⟨?_, fun k hk => ?_⟩, RH_ext (fun q q1 q2 => F q (by omega)) (fun i hi => rAdd_o (by omega) (Or.inr (by omega))) h3, ?_⟩
  · rw [rAdd_0, H, if_pos ⟨rfl, rfl⟩]
  · rw [rAdd_0] at hk
    unfold RBk plc
    by_cases e : k = ρ 0
    · obtain ⟨q1, q2, q3, q4, q5, q6, q7⟩ := @rAdd_1 ρ a b c d
      rw [e, q1, q2, q3, q4, q5, q6, q7]
      simp only [H]
      refine ⟨?_, ?_, ?_, ?_, ?_, ?_, ?_, ?_⟩ <;> simp <;> decide
    · have := h2 k (by omega)
      unfold RBk plc at this
      rw [rAdd_o (by omega) (Or.inl (by omega)), rAdd_o (by omega) (Or.inl (by omega)), rAdd_o (by omega) (Or.inl (by omega)), rAdd_o (by omega) (Or.inl (by omega)), rAdd_o (by omega) (Or.inl (by omega)), rAdd_o (by omega) (Or.inl (by omega)), rAdd_o (by omega) (Or.inl (by omega))]
      simp only [H, e, and_false, if_false, show ((1 : Nat) + 2 = 2) = False by decide, show ((1 : Nat) + 3 = 2) = False by decide, show ((1 : Nat) + 4 = 2) = False by decide, show ((1 : Nat) + 5 = 2) = False by decide, show ((1 : Nat) + 6 = 2) = False by decide, show ((1 : Nat) + 7 = 2) = False by decide, show ((1 : Nat) + 8 = 2) = False by decide, show ((1 : Nat) + 9 = 2) = False by decide, false_and]
      exact this
  · have e1 : (fun i => rAdd ρ a b c d (43 + i)) = fun i => ρ (43 + i) := by funext i; exact rAdd_o (by omega) (Or.inr (by omega))
    rw [e1, (F 1 (by omega)).2]
    exact h4
