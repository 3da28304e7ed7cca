/-! the class goes through all lawful orders -/
theorem sm_mono (f : Nat → Nat) {j : Nat} : ∀ n, j ≤ n → sm f j ≤ sm f n
  | 0, h => by rw [show j = 0 by omega]; exact Nat.le_refl _
  | n + 1, h => by
    by_cases e : j = n + 1
    · rw [e]; exact Nat.le_refl _
    · have := sm_mono f n (show j ≤ n by omega)
      simp only [sm]
      omega
def lvK (ρ : Nat → Nat) (n f d : Nat) (o : Nat → Nat) (k : Nat) : List (Nat → Nat) := (List.range k).flatMap (fun k => if (fre o d k && okL ρ (up1 o d k) d) = true then lvG n (okL ρ) f (d + 1) (up1 o d k) else [])
theorem lvK_s (ρ : Nat → Nat) (n f d : Nat) (o : Nat → Nat) (k : Nat) : lvK ρ n f d o (k + 1) = lvK ρ n f d o k ++ (if (fre o d k && okL ρ (up1 o d k) d) = true then lvG n (okL ρ) f (d + 1) (up1 o d k) else []) := by
  unfold lvK
  rw [List.range_succ, List.flatMap_append]
  simp
theorem lvK_len (ρ : Nat → Nat) (n f d : Nat) (o : Nat → Nat) {j k : Nat} (h : j ≤ k) : (lvK ρ n f d o j).length ≤ (lvK ρ n f d o k).length := by
  unfold lvK
  rw [len_fm, len_fm]
  exact sm_mono _ k h
section DFS
variable {ρ : Nat → Nat} {g : Nat} {J : List (Nat → Nat) → xM → Prop}
theorem l_ext (hW : WF ρ) (hg9 : g ≤ 9) (hJR : ∀ l ν, J l ν → Rep ν 1 ρ (ν.1 11 3) ∧ ν.1 93 5 = nI g) (hJ94 : ∀ l ν κ, J l ν → fr (fun q => q = 94) ν κ → J l κ)
    {f d : Nat} {o : Nat → Nat} (hd : d + (f + 1) = ρ 0) (h1 : ∀ i, i < d → o i < ρ 0) (h2 : ∀ i, d ≤ i → o i = 0) {rec : Nat → Int32 → Int32 → Int64 → Int32 → xM → (xM → Prop) → Prop}
    (hrec : ∀ k l2 κ Q2, k < ρ 0 → J l2 κ → l2.length + (lvG (ρ 0) (okL ρ) f (d + 1) (up1 o d k)).length ≤ 720 → SH κ 94 (stC ρ (up1 o d k) (d + 1)).1 (stC ρ (up1 o d k) (d + 1)).2.1 (stC ρ (up1 o d k) (d + 1)).2.2 → (∀ κ', J (l2 ++ lvG (ρ 0) (okL ρ) f (d + 1) (up1 o d k)) κ' → Q2 κ') → rec 93 (nI (d + 1)) (nI (usd (up1 o d k) (d + 1))) (lN (nb (up1 o d k) 16)) (smrS ρ g (up1 o d k) (d + 1)) κ Q2)
    {l : List (Nat → Nat)} (hlen : l.length + (lvK ρ (ρ 0) f d o (ρ 0)).length ≤ 720) {K : xM → Prop} (hK : ∀ κ, J (l ++ lvK ρ (ρ 0) f d o (ρ 0)) κ → K κ) : ∀ m k ν, k + m = ρ 0 → J (l ++ lvK ρ (ρ 0) f d o k) ν → L_X6_extend_55 rec (nI (stC ρ o d).2.2) (lN (nb (stC ρ o d).2.1 16)) (lN (nb (stC ρ o d).1 16)) 93 (nI d) (nI (usd o d)) (lN (nb o 16)) (smrS ρ g o d) (m + 1) (nI k) ν K
  | 0, k, ν, h, hJ => by
    obtain rfl : k = ρ 0 := by omega
    unfold L_X6_extend_55 B_X6_extend_55
    have h6 := hW.1
    have h0 : ν.1 2 0 = nI (ρ 0) := (hJR _ _ hJ).1.1.1
    simp only [shp, h0]
    exact ⟨fun _ => hK ν hJ, fun h => absurd (nI_le (Nat.le_refl _) (by omega)) h⟩
  | m + 1, k, ν, h, hJ => by
    have ih := l_ext hW hg9 hJR hJ94 hd h1 h2 hrec hlen hK m (k + 1)
    have h6 := hW.1
    have hk : k < ρ 0 := by omega
    obtain ⟨hR, hg⟩ := hJR _ _ hJ
    have h0 : ν.1 2 0 = nI (ρ 0) := hR.1.1
    have b7 : ρ (7 + 7 * k) < 64 := (hW.2.1 _ hk).2.2.2.2.2.2
    have hu : usd o d < 2 ^ ρ 0 := usd_lt d h1
    have hu6 : 2 ^ ρ 0 ≤ 2 ^ 6 := Nat.pow_le_pow_right (by decide) h6
    rw [lvK_s] at ih
    unfold L_X6_extend_55 B_X6_extend_55
    simp only [shp, h0]
    refine ⟨fun h => absurd h (nI_ge hk (by omega)), fun _ => ?_⟩
    rw [y_ubit (by omega) (by omega), bN_0, usd_bit]
    unfold J_X6_extend_81
    simp only [forall_eq, nI_1, shp]
    by_cases hf : fre o d k = true
    · rw [hf]
      refine ⟨fun h => absurd rfl h, fun _ => ⟨fun h => absurd h (by decide), fun _ => ?_⟩⟩
      rw [e_mayF hR h6 hk b7, y_b0]
      rw [hf, Bool.true_and] at ih
      have eok : okL ρ (up1 o d k) d = okS ρ k (usd o d) := okL_S
      by_cases ho : ndf (ρ (7 + 7 * k)) (usd o d) = 0
      · have eo : okL ρ (up1 o d k) d = true := by rw [eok]; unfold okS; simpa using ho
        rw [pr1' ho]
        rw [if_pos eo] at ih
        unfold p_X7_lay
        simp only [forall_eq]
        obtain ⟨g1, g2, g3⟩ := stC_ok hW (o := o) d h1
        generalize hκ : xi (xl (xl ν 94 0 (lN (nb (stC ρ o d).1 16))) 94 1 (lN (nb (stC ρ o d).2.1 16))) 94 2 (nI (stC ρ o d).2.2) = κ
        have F1 : fr (fun q => q = 94) ν κ := by rw [← hκ]; exact fr_tr (fr_tr (fr_xl rfl) (fr_xl rfl)) (fr_xi rfl)
        have hs : SH κ 94 (stC ρ o d).1 (stC ρ o d).2.1 (stC ρ o d).2.2 := by
          rw [← hκ]
          refine ⟨?_, ?_, ?_⟩
          · rw [y_xi2, y_xl, if_neg (by omega), y_xl, if_pos ⟨rfl, rfl⟩]
          · rw [y_xi2, y_xl, if_pos ⟨rfl, rfl⟩]
          · rw [y_xi, if_pos ⟨rfl, rfl⟩]
        have hJ1 := hJ94 _ _ _ hJ F1
        have hB1 : RB κ 1 ρ := (hJR _ _ hJ1).1.1
        refine e_prOn hB1 hW hk hs g1 g2 (fun τ F2 hs2 => ?_)
        have hJ2 := hJ94 _ _ _ hJ1 F2
        obtain ⟨hR2, hgg⟩ := hJR _ _ hJ2
        have o16 : ∀ i, i < 16 → o i < 16 := fun i hi => by
          by_cases e : i < d
          · have := h1 i e; omega
          · rw [h2 i (by omega)]; decide
        refine e_srX hR2.1 hW hgg hg9 hk (by omega) h1 o16 ?_
        rw [e_wnib o16 (by omega) (by omega), show (1 : Int32) <<< (nI k &&& 31) = nI (2 ^ k) by rw [show (1 : Int32) = nI 1 from rfl, y_shl (by omega), Nat.one_mul], y_or]
        have eu : usd o d ||| 2 ^ k = usd (up1 o d k) (d + 1) := by
          simp only [usd]
          rw [up1_s, usd_ext (o := o) d (fun i hi => up1_n (by omega))]
        rw [eu, ← smrS_up]
        have hl2 := lvK_len ρ (ρ 0) f d o (show k + 1 ≤ ρ 0 by omega)
        rw [lvK_s, hf, Bool.true_and, if_pos eo, List.length_append] at hl2
        refine hrec k _ τ _ hk hJ2 (by rw [List.length_append]; omega) ?_ (fun κ' hJ' => ih κ' (by omega) ?_)
        · rw [stC_up]; exact hs2
        · rw [← List.append_assoc]; exact hJ'
      · have eo : ¬ okL ρ (up1 o d k) d = true := by rw [eok]; unfold okS; simpa using ho
        rw [pr0' ho]
        rw [if_neg eo, List.append_nil] at ih
        exact ih ν (by omega) hJ
    · have hf' : fre o d k = false := by simpa using hf
      rw [hf', Bool.false_and, if_neg (by decide), List.append_nil] at ih
      rw [hf']
      exact ⟨fun _ => ⟨fun _ => ih ν (by omega) hJ, fun h => absurd trivial h⟩, fun h => absurd h (by decide)⟩
theorem e_ext (hW : WF ρ) (hg9 : g ≤ 9) (hJR : ∀ l ν, J l ν → Rep ν 1 ρ (ν.1 11 3) ∧ ν.1 93 5 = nI g) (hJ94 : ∀ l ν κ, J l ν → fr (fun q => q = 94) ν κ → J l κ)
    (hJj : ∀ l ν o Q, J l ν → l.length < 720 → (∀ i, i < ρ 0 → o i < ρ 0) → (∀ i, ρ 0 ≤ i → o i = 0) → SH ν 94 (stC ρ o (ρ 0)).1 (stC ρ o (ρ 0)).2.1 (stC ρ o (ρ 0)).2.2 → (∀ κ, J (l ++ [o]) κ → Q κ) → p_X6_judge 93 (lN (nb o 16)) (smrS ρ g o (ρ 0)) ν Q) (e : Nat) :
    ∀ f d o l ν Q, d + f = ρ 0 → (∀ i, i < d → o i < ρ 0) → (∀ i, d ≤ i → o i = 0) → J l ν → l.length + (lvG (ρ 0) (okL ρ) f d o).length ≤ 720 → SH ν 94 (stC ρ o d).1 (stC ρ o d).2.1 (stC ρ o d).2.2 → (∀ κ, J (l ++ lvG (ρ 0) (okL ρ) f d o) κ → Q κ) → R_X6_extend (e + f + 1) 93 (nI d) (nI (usd o d)) (lN (nb o 16)) (smrS ρ g o d) ν Q
  | 0, d, o, l, ν, Q, hd, h1, h2, hJ, hlen, hs, hQ => by
    obtain rfl : d = ρ 0 := by omega
    have h6 := hW.1
    have h0 : ν.1 2 0 = nI (ρ 0) := (hJR _ _ hJ).1.1.1
    unfold R_X6_extend pb_X6_extend
    simp only [shp, h0]
    refine ⟨fun _ => ?_, fun h => absurd (nI_le (Nat.le_refl _) (by omega)) h⟩
    exact hJj l ν o Q hJ (by simp only [lvG, List.length_cons, List.length_nil] at hlen; omega) h1 h2 hs hQ
  | f + 1, d, o, l, ν, Q, hd, h1, h2, hJ, hlen, hs, hQ => by
    have h6 := hW.1
    have h0 : ν.1 2 0 = nI (ρ 0) := (hJR _ _ hJ).1.1.1
    unfold R_X6_extend pb_X6_extend
    simp only [shp, h0]
    refine ⟨fun h => absurd h (nI_ge (by omega) (by omega)), fun _ => ⟨fun _ => ?_, fun h => absurd (nI_lt (b := 6) (by omega) (by decide)) h⟩⟩
    rw [hs.1, hs.2.1, hs.2.2]
    simp only [forall_eq]
    refine ⟨ρ 0 + 1, ?_⟩
    refine l_ext (l := l) hW hg9 hJR hJ94 hd h1 h2 ?_ hlen (fun κ hκ => hQ κ hκ) (ρ 0) 0 ν (by omega) (by rw [show lvK ρ (ρ 0) f d o 0 = [] from rfl, List.append_nil]; exact hJ)
    intro k l2 κ Q2 hk hJ2 hlen2 hs2 hQ2
    exact e_ext hW hg9 hJR hJ94 hJj e f (d + 1) (up1 o d k) l2 κ Q2 (by omega) (fun i hi => by
      by_cases e : i = d
      · rw [e, up1_s]; exact hk
      · rw [up1_n e]; exact h1 i (by omega)) (fun i hi => by rw [up1_n (by omega)]; exact h2 i (by omega)) hJ2 hlen2 hs2 hQ2
end DFS
