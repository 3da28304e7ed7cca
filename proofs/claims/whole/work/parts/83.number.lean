/-! a number, read by the reference -/
theorem sub48 {v c : Nat} (h : 48 ≤ c) : (10 : Int32) * nI v + nI c - 48 = nI (10 * v + (c - 48)) := by
  rw [show (10 : Int32) = nI 10 from rfl, show (48 : Int32) = nI 48 from rfl, pk_mul, nI_add, pk_sub (by omega), show 10 * v + c - 48 = 10 * v + (c - 48) by omega]
theorem l_n50 {μ : xM} {L : Nat} {T : Nat → Nat} (ht : TM μ L T) {l e m : Nat} {g : Bool} {nm : Nat → Int32} {acc : List oT} {r : rT} (he : e < nw l) (a20 : Int32) {K : Int32 → xM → Prop}
    (hK : ∀ κ d v, 1 ≤ d → d ≤ 5 → m + d ≤ L → (d < 5 → m + d < L → ¬ dig (T (m + d))) → F8 μ κ → κ.1 104 18 = nI (m + d) → r = Rg T L (m + d) (some (l, e, v, d, g, nm)) acc → K (nI v) κ) :
    ∀ f d v ν, d + f = 5 → (d = 0 → m < L ∧ dig (T m)) → m + d ≤ L → F8 μ ν → ν.1 104 18 = nI (m + d) → r = Rg T L (m + d) (some (l, e, v, d, g, nm)) acc → L_X12_number_50 a20 104 (f + 1) (nI d) (nI v) ν K
  | 0, d, v, ν, hd, h0, hm, F, e8, hr => by
    obtain rfl : d = 5 := by omega
    unfold L_X12_number_50 B_X12_number_50
    exact ⟨fun _ => hK ν 5 v (by decide) (by decide) hm (fun h => absurd h (by decide)) F e8 hr, fun h => absurd (by decide) h⟩
  | f + 1, d, v, ν, hd, h0, hm, F, e8, hr => by
    have ht2 := FP_TM (F8_FP F) ht
    have hL := ht.2.2.1
    unfold L_X12_number_50 B_X12_number_50
    refine ⟨fun h => absurd h (nI_ge (b := 5) (by omega) (by decide)), fun _ => ?_⟩
    rw [e_fig ht2 hm e8, y_b0]
    by_cases hf : m + d < L ∧ dig (T (m + d))
    · rw [pr1 hf]
      have hc := ht.2.2.2 (m + d) hf.1
      simp only [shm, e8, nI_clamp (show m + d < 2 ^ 31 by omega), ht2.2.1 _ hf.1, forall_eq, nI_1]
      rw [sub48 hf.2.1]
      refine ⟨v150 (by omega), ?_⟩
      refine l_n50 ht he a20 hK f (d + 1) _ _ (by omega) (fun h => by omega) (by omega) (F8_tr F F8_xi) x_s ?_
      rw [hr, Rg_dg hf.1 hf.2 he (by omega)]
      rfl
    · rw [pr0 hf]
      by_cases hd0 : d = 0
      · have := h0 hd0
        exact absurd (by rw [hd0]; exact this) hf
      · exact hK ν d v (by omega) (by omega) hm (fun _ h => fun h2 => hf ⟨h, h2⟩) F e8 hr
theorem e_num {μ : xM} {L i : Nat} {T : Nat → Nat} (ht : TM μ L T) (hi : i ≤ L) (e8 : μ.1 104 18 = nI i) (e9 : μ.1 104 19 = -1) {l e : Nat} {nm : Nat → Int32} {acc : List oT} (he : e < nw l) {sg : Int32} (hs : ¬ sg = 0 ↔ (l = 115 ∧ 0 < e)) {Q : Int32 → xM → Prop}
    (h1 : ∀ j κ r, j ≤ L → Rg T L i (cl l e nm) acc = .inl j → F9 μ κ → κ.1 104 19 = nI j → Q r κ)
    (h2 : ∀ j κ r, i ≤ j → j ≤ L → Rg T L i (cl l e nm) acc = Rg T L j (cl l (e + 1) (upI nm e r)) acc → F9 μ κ → κ.1 104 18 = nI j → κ.1 104 19 = -1 → Q r κ) : p_X12_number 104 sg μ Q := by
  unfold p_X12_number
  have hL := ht.2.2.1
  refine e_here ht hi e8 (fun k κ k1 k2 k3 k4 F ek => ?_)
  have ht2 := FP_TM (F8_FP F) ht
  have hRk : Rg T L i (cl l e nm) acc = Rg T L k (cl l e nm) acc := Rg_h1 (k - i) i k (by omega) k2 k4
  have f9 : κ.1 104 19 = -1 := by rw [F.2 19 (by decide)]; exact e9
  have vI : ∀ j : Nat, j < 2 ^ 31 → ¬ nI j = -1 := fun j hj h => absurd (show nI j < 0 by rw [h]; decide) (nI_pos hj)
  /- from the first figure on -/
  have main : ∀ (g : Bool) (a7 : Int32) (m : Nat) (τ : xM), (a7 = 0 ↔ g = false) → i ≤ m → m ≤ L → F8 μ τ → τ.1 104 18 = nI m → Rg T L i (cl l e nm) acc = Rg T L m (some (l, e, 0, 0, g, nm)) acc → (¬ (m < L ∧ dig (T m)) → Rg T L i (cl l e nm) acc = .inl m) → p_X12_isFigure 104 τ (fun r18 μ17 => (p_X12_must 104 r18 μ17 (fun μ19 => (∃ n24 : Nat, L_X12_number_50 a7 104 n24 (0 : Int32) (0 : Int32) μ19 (fun a38 μ39 => J_X12_number_97 a7 104 a38 μ39 Q))))) := by
    intro g a7 m τ ha m1 m2 F2 em hr hno
    have ht3 := FP_TM (F8_FP F2) ht
    have t9 : τ.1 104 19 = -1 := by rw [F2.2 19 (by decide)]; exact e9
    rw [e_fig ht3 m2 em]
    by_cases hf : m < L ∧ dig (T m)
    · rw [if_pos hf]
      refine e_must1 (by decide) ⟨6, ?_⟩
      refine l_n50 ht (m := m) (g := g) (nm := nm) (acc := acc) (r := Rg T L i (cl l e nm) acc) he a7 (fun κ2 d v d1 d2 d3 d4 F3 e3 hr3 => ?_) 5 0 0 τ rfl (fun _ => hf) (by omega) F2 em hr
      unfold J_X12_number_97
      have ht4 := FP_TM (F8_FP F3) ht
      have t9' : κ2.1 104 19 = -1 := by rw [F3.2 19 (by decide)]; exact e9
      rw [e_fig ht4 d3 e3, y_b0]
      by_cases hg : m + d < L ∧ dig (T (m + d))
      · rw [pr1' hg]
        have d5 : d = 5 := by
          by_cases hd5 : d < 5
          · exact absurd hg.2 (d4 hd5 hg.1)
          · omega
        refine e_must0 t9' ?_
        have fin : ∀ r, Q r (xi κ2 104 19 (κ2.1 104 18)) := fun r => h1 (m + d) _ r d3 (by rw [hr3]; exact Rg_d5 hg.1 hg.2 (Or.inr (by omega))) (F9_tr (F9_8 F3) F9_xi) (by rw [x_s, e3])
        exact ⟨fun _ => fin _, fun _ => fin _⟩
      · rw [pr0' hg]
        refine e_must1 (by decide) ?_
        have hend : Rg T L i (cl l e nm) acc = Rg T L (m + d) (cl l (e + 1) (upI nm e (sgI g v))) acc := by rw [hr3]; exact Rg_pn d3 (by omega) (fun h h2 => hg ⟨h, h2⟩)
        have fin := h2 (m + d) κ2 (sgI g v) (by omega) d3 hend (F9_8 F3) e3 t9'
        refine ⟨fun h => ?_, fun h => ?_⟩
        · rw [ha.mp h] at fin; exact fin
        · have hg' : g = true := by cases g; exact absurd (ha.mpr rfl) h; rfl
          rw [hg'] at fin; exact fin
    · rw [if_neg hf]
      refine e_must0 t9 ⟨1, ?_⟩
      have F3 : F9 μ (xi τ 104 19 (τ.1 104 18)) := F9_tr (F9_8 F2) F9_xi
      have ht4 := FP_TM (F9_FP F3) ht
      have e4 : (xi τ 104 19 (τ.1 104 18)).1 104 18 = nI m := by rw [x_d (by decide)]; exact em
      unfold L_X12_number_50 B_X12_number_50 J_X12_number_97
      refine ⟨fun h => absurd h (by decide), fun _ => ?_⟩
      rw [e_fig ht4 m2 e4, if_neg hf]
      refine ⟨fun _ => ?_, fun h => absurd rfl h⟩
      dsimp only
      rw [e_fig ht4 m2 e4, if_neg hf]
      refine ⟨fun h => absurd rfl h, fun _ => e_must1 (by decide) ?_⟩
      have fin : ∀ r, Q r (xi τ 104 19 (τ.1 104 18)) := fun r => h1 m _ r m2 (hno hf) F3 (by rw [x_s, em])
      exact ⟨fun _ => fin _, fun _ => fin _⟩
  have j33 : ∀ (g : Bool) (a7 : Int32), (a7 = 0 ↔ g = false) → (g = true → k < L ∧ T k = 45 ∧ l = 115 ∧ 0 < e) → (g = false → ¬ (k < L ∧ T k = 45 ∧ l = 115 ∧ 0 < e)) → J_X12_number_18 104 a7 κ Q := by
    intro g a7 ha hg1 hg0
    unfold J_X12_number_18 J_X12_number_33
    simp only [forall_eq, ek]
    refine ⟨fun h => ?_, fun h => ?_⟩
    · have hg' := ha.mp h
      have hn := hg0 hg'
      have e0 : nI k + 0 = nI k := add0 k
      rw [e0]
      have Fx : F8 μ (xi κ 104 18 (nI k)) := F8_tr F F8_xi
      refine main g a7 k _ ha (by omega) k2 Fx x_s (by rw [hRk, hg']) (fun hnf => ?_)
      rw [hRk]
      exact Rg_b0 k2 he k3 (fun h h2 => hnf ⟨h, h2⟩) (fun h h2 => hn ⟨h, h2.1, h2.2.1, h2.2.2⟩)
    · have hg' : g = true := by cases g; exact absurd (ha.mpr rfl) h; rfl
      obtain ⟨q1, q2, q3, q4⟩ := hg1 hg'
      rw [nI_1]
      have Fx : F8 μ (xi κ 104 18 (nI (k + 1))) := F8_tr F F8_xi
      have hR2 : Rg T L i (cl l e nm) acc = Rg T L (k + 1) (some (l, e, 0, 0, true, nm)) acc := by rw [hRk]; exact Rg_mn q1 q2 q3 q4 he
      refine main g a7 (k + 1) _ ha (by omega) (by omega) Fx x_s (by rw [hR2, hg']) (fun hnf => ?_)
      rw [hR2]
      exact Rg_m0 (by omega) (fun h h2 => hnf ⟨h, h2⟩)
  have h45 : ∀ c, c < 128 → (nI c = 45 ↔ c = 45) := fun c hc => nI_eq (b := 45) (by omega) (by decide)
  unfold J_X12_number_17
  by_cases hk : k < L
  · rw [if_pos hk, h45 _ (ht.2.2.2 k hk)]
    refine ⟨fun h => j33 false 0 ⟨fun _ => rfl, fun _ => rfl⟩ (fun h => absurd h (by decide)) (fun _ hh => h hh.2.1), fun h => ⟨fun h0 => ?_, fun h0 => ?_⟩⟩
    · exact j33 false 0 ⟨fun _ => rfl, fun _ => rfl⟩ (fun h => absurd h (by decide)) (fun _ hh => absurd h0 (hs.mpr ⟨hh.2.2.1, hh.2.2.2⟩))
    · have hh := hs.mp h0
      exact j33 true 1 ⟨fun h => absurd h (by decide), fun h => absurd h (by decide)⟩ (fun _ => ⟨hk, h, hh.1, hh.2⟩) (fun h => absurd h (by decide))
  · rw [if_neg hk]
    refine ⟨fun _ => j33 false 0 ⟨fun _ => rfl, fun _ => rfl⟩ (fun h => absurd h (by decide)) (fun _ hh => hk hh.1), fun h => absurd h (by decide)⟩
