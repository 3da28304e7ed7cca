/-! an AREA moved: x, y with 3 each -/
abbrev mvok (a x y c : Nat) : Prop := (3 ≤ c % 4 + x ∧ c % 4 + x ≤ 6) ∧ (3 ≤ c / 4 + y ∧ c / 4 + y ≤ 6) ∧ a.testBit c = true
def mvS (a x y : Nat) : Nat → Nat
  | 0 => 0
  | c + 1 => if mvok a x y c then mvS a x y c ||| 2 ^ (4 * (c / 4 + y - 3) + (c % 4 + x - 3)) else mvS a x y c
def mvN (a x y : Nat) : Nat := mvS a x y 16
theorem mvS_p {a x y c : Nat} (h : mvok a x y c) : mvS a x y (c + 1) = mvS a x y c ||| 2 ^ (4 * (c / 4 + y - 3) + (c % 4 + x - 3)) := by
  simp only [mvS, if_pos h]
theorem mvS_n {a x y c : Nat} (h : ¬ mvok a x y c) : mvS a x y (c + 1) = mvS a x y c := by
  simp only [mvS, if_neg h]
theorem mvS_lt (a x y : Nat) : ∀ c, mvS a x y c < 2 ^ 16
  | 0 => by simp [mvS]
  | c + 1 => by
    have ih := mvS_lt a x y c
    by_cases h : mvok a x y c
    · rw [mvS_p h]
      apply Nat.or_lt_two_pow ih
      obtain ⟨h1, h2, -⟩ := h
      exact Nat.pow_lt_pow_right (by decide) (by omega)
    · rw [mvS_n h]; exact ih
theorem mvN_lt (a x y : Nat) : mvN a x y < 65536 := mvS_lt a x y 16
theorem sh_cond : ∀ u, u < 4 → ∀ x, x < 7 → ((0 ≤ nI u + (nI x - 3) ∧ nI u + (nI x - 3) ≤ 3) ↔ (3 ≤ u + x ∧ u + x ≤ 6)) := by decide +kernel
theorem sh_val : ∀ u, u < 4 → ∀ x, x < 7 → 3 ≤ u + x → nI u + (nI x - 3) = nI (u + x - 3) := by decide +kernel
theorem mv_bitX {r k m c : Nat} (hr : r < 4) (hk : k < 4) : nI m ||| ((1 : Int32) <<< ((nI r * 4 + nI k) &&& 31)) = nI (m ||| 2 ^ (4 * r + k)) := by
  rw [show (4 : Int32) = nI 4 from rfl, pk_mul, nI_add, show (1 : Int32) = nI 1 from rfl, y_shl (by omega), y_or, Nat.one_mul, Nat.mul_comm r 4]
theorem mv_bitM {r k m : Nat} (hr : r < 4) (hk : k < 4) : nI m ||| ((1 : Int32) <<< ((4 * nI r + nI k) &&& 31)) = nI (m ||| 2 ^ (4 * r + k)) := by
  rw [show (4 : Int32) = nI 4 from rfl, pk_mul, nI_add, show (1 : Int32) = nI 1 from rfl, y_shl (by omega), y_or, Nat.one_mul]
theorem l_mvX {a x y : Nat} (ha : a < 65536) (hx : x < 7) (hy : y < 7) {μ : xM} {K : Int32 → xM → Prop} (hK : K (nI (mvN a x y)) μ) : ∀ d c, c + d = 16 → L_X1_moved_5 (nI a) (nI x - 3) (nI y - 3) (d + 1) (nI c) (nI (mvS a x y c)) μ K
  | 0, c, h => by
    obtain rfl : c = 16 := by omega
    unfold L_X1_moved_5 B_X1_moved_5
    exact ⟨fun _ => hK, fun h => absurd (by decide) h⟩
  | d + 1, c, h => by
    have ih := l_mvX ha hx hy hK d (c + 1) (by omega)
    unfold L_X1_moved_5 B_X1_moved_5
    refine ⟨fun h2 => absurd h2 (nI_ge (b := 16) (by omega) (by decide)), fun _ => ?_⟩
    rw [show (4 : Int32) = nI 4 from rfl, pk_rem (by omega) (by decide) (by decide), pk_div (by omega) (by decide) (by decide)]
    have h4 : c % 4 < 4 := Nat.mod_lt _ (by decide)
    have h5 : c / 4 < 4 := by omega
    have c1 := sh_cond _ h4 x hx
    have c2 := sh_cond _ h5 y hy
    have hb : (uS (nI a) (nI c) &&& 1) = nI (bN (a.testBit c)) := y_ubit (by omega) (by omega)
    have hn : nI c + 1 = nI (c + 1) := nI_1 c
    unfold J_X1_moved_52 J_X1_moved_53
    simp only [forall_eq, e_within, y_b0, c1, c2, hb, bN_1, hn]
    by_cases p1 : 3 ≤ c % 4 + x ∧ c % 4 + x ≤ 6
    · by_cases p2 : 3 ≤ c / 4 + y ∧ c / 4 + y ≤ 6
      · by_cases p3 : a.testBit c = true
        · simp only [p1, p2, p3, Bool.false_eq_true, not_true_eq_false, false_implies, true_implies, true_and, and_true, and_self, not_false_eq_true, show ((1 : Int32) = 0) = False from by decide]
          rw [mvS_p ⟨p1, p2, p3⟩] at ih
          rw [sh_val _ h4 x hx p1.1, sh_val _ h5 y hy p2.1, mv_bitX (c := c) (by omega) (by omega)]
          exact ih
        · simp only [p1, p2, p3, Bool.false_eq_true, not_true_eq_false, false_implies, true_implies, true_and, and_true, and_self, not_false_eq_true, show ((1 : Int32) = 0) = False from by decide]
          rw [mvS_n (fun h => p3 h.2.2)] at ih
          exact ih
      · simp only [p1, p2, not_true_eq_false, false_implies, true_implies, true_and, and_true, and_self, not_false_eq_true]
        rw [mvS_n (fun h => p2 h.2.1)] at ih
        exact ih
    · simp only [p1, not_true_eq_false, false_implies, true_implies, true_and, and_true, and_self, not_false_eq_true]
      rw [mvS_n (fun h => p1 h.1)] at ih
      exact ih
theorem e_mvX {a x y : Nat} (ha : a < 65536) (hx : x < 7) (hy : y < 7) {μ : xM} {Q : Int32 → xM → Prop} (hQ : Q (nI (mvN a x y)) μ) : p_X1_moved (nI a) (nI x - 3) (nI y - 3) μ Q := by
  unfold p_X1_moved
  exact ⟨17, l_mvX ha hx hy hQ 16 0 rfl⟩
theorem l_mvM {a x y : Nat} (ha : a < 65536) (hx : x < 7) (hy : y < 7) {μ : xM} {K : Int32 → xM → Prop} (hK : K (nI (mvN a x y)) μ) : ∀ d c, c + d = 16 → L_X12_moved_5 (nI a) (nI x - 3) (nI y - 3) (d + 1) (nI c) (nI (mvS a x y c)) μ K
  | 0, c, h => by
    obtain rfl : c = 16 := by omega
    unfold L_X12_moved_5 B_X12_moved_5
    exact ⟨fun _ => hK, fun h => absurd (by decide) h⟩
  | d + 1, c, h => by
    have ih := l_mvM ha hx hy hK d (c + 1) (by omega)
    unfold L_X12_moved_5 B_X12_moved_5
    refine ⟨fun h2 => absurd h2 (nI_ge (b := 16) (by omega) (by decide)), fun _ => ?_⟩
    rw [show (4 : Int32) = nI 4 from rfl, pk_rem (by omega) (by decide) (by decide), pk_div (by omega) (by decide) (by decide)]
    have h4 : c % 4 < 4 := Nat.mod_lt _ (by decide)
    have h5 : c / 4 < 4 := by omega
    have c1 := sh_cond _ h4 x hx
    have c2 := sh_cond _ h5 y hy
    have hn : nI c + 1 = nI (c + 1) := nI_1 c
    simp only [forall_eq, e_in, y_b0, c1, c2, e_has (show a < 2 ^ 31 by omega) (show c < 32 by omega), hn]
    by_cases p3 : a.testBit c = true
    · by_cases p1 : 3 ≤ c % 4 + x ∧ c % 4 + x ≤ 6
      · by_cases p2 : 3 ≤ c / 4 + y ∧ c / 4 + y ≤ 6
        · simp only [p1, p2, p3, Bool.false_eq_true, not_true_eq_false, false_implies, true_implies, true_and, and_true, and_self, not_false_eq_true]
          rw [mvS_p ⟨p1, p2, p3⟩] at ih
          rw [sh_val _ h4 x hx p1.1, sh_val _ h5 y hy p2.1, ← show (4 : Int32) = nI 4 from rfl, mv_bitM (by omega) (by omega)]
          exact ih
        · simp only [p1, p2, p3, Bool.false_eq_true, not_true_eq_false, false_implies, true_implies, true_and, and_true, and_self, not_false_eq_true]
          rw [mvS_n (fun h => p2 h.2.1)] at ih
          exact ih
      · simp only [p1, p3, Bool.false_eq_true, not_true_eq_false, false_implies, true_implies, true_and, and_true, and_self, not_false_eq_true]
        rw [mvS_n (fun h => p1 h.1)] at ih
        exact ih
    · simp only [p3, Bool.false_eq_true, not_true_eq_false, false_implies, true_implies, true_and, and_true, and_self, not_false_eq_true]
      rw [mvS_n (fun h => p3 h.2.2)] at ih
      exact ih
theorem e_mvM {a x y : Nat} (ha : a < 65536) (hx : x < 7) (hy : y < 7) {μ : xM} {Q : Int32 → xM → Prop} (hQ : Q (nI (mvN a x y)) μ) : p_X12_moved (nI a) (nI x - 3) (nI y - 3) μ Q := by
  unfold p_X12_moved
  exact ⟨17, l_mvM ha hx hy hQ 16 0 rfl⟩
