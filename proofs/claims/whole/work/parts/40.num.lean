/-! numbers: ints as nI of naturals, bits by testBit -/
theorem y_lit (n : Nat) : (OfNat.ofNat n : Int32) = nI n := rfl
theorem y_0 : (0 : Int32) = nI 0 := rfl
theorem y_litL (n : Nat) : (OfNat.ofNat n : Int64) = lN n := rfl
theorem y_bv (n : Nat) : (nI n).toBitVec = BitVec.ofNat 32 n := rfl
theorem y_bvL (n : Nat) : (lN n).toBitVec = BitVec.ofNat 64 n := rfl
theorem y_inj {x y : Int32} (h : x.toBitVec = y.toBitVec) : x = y := Int32.toBitVec_inj.mp h
theorem y_injL {x y : Int64} (h : x.toBitVec = y.toBitVec) : x = y := Int64.toBitVec_inj.mp h
theorem y_and (a b : Nat) : nI a &&& nI b = nI (a &&& b) := by
  apply y_inj
  rw [Int32.toBitVec_and, y_bv, y_bv, y_bv]
  apply BitVec.eq_of_getLsbD_eq
  intro i hi
  simp [BitVec.getLsbD_ofNat, Nat.testBit_and, hi]
theorem y_or (a b : Nat) : nI a ||| nI b = nI (a ||| b) := by
  apply y_inj
  rw [Int32.toBitVec_or, y_bv, y_bv, y_bv]
  apply BitVec.eq_of_getLsbD_eq
  intro i hi
  simp [BitVec.getLsbD_ofNat, Nat.testBit_or, hi]
/-- a without b -/
def ndf (a b : Nat) : Nat := a ^^^ (a &&& b)
theorem ndf_bit (a b i : Nat) : (ndf a b).testBit i = (a.testBit i && !b.testBit i) := by
  unfold ndf
  rw [Nat.testBit_xor, Nat.testBit_and]
  cases a.testBit i <;> cases b.testBit i <;> rfl
theorem y_andn (a b : Nat) : nI a &&& (nI b ^^^ -1) = nI (ndf a b) := by
  apply y_inj
  rw [Int32.toBitVec_and, Int32.toBitVec_xor, y_bv, y_bv, y_bv]
  apply BitVec.eq_of_getLsbD_eq
  intro i hi
  have h1 : (-1 : Int32).toBitVec = BitVec.allOnes 32 := by decide
  rw [h1]
  simp only [BitVec.getLsbD_and, BitVec.getLsbD_xor, BitVec.getLsbD_allOnes, BitVec.getLsbD_ofNat, ndf_bit, hi, decide_true, Bool.true_and, Bool.xor_true]
theorem ndf_lt {a b n : Nat} (h : a < 2 ^ n) : ndf a b < 2 ^ n := by
  apply Nat.lt_pow_two_of_testBit
  intro i hi
  rw [ndf_bit, Nat.testBit_lt_two_pow (Nat.lt_of_lt_of_le h (Nat.pow_le_pow_right (by decide) hi))]
  rfl
theorem y_s31 {k : Nat} (h : k < 32) : nI k &&& 31 = nI k := by
  rw [show (31 : Int32) = nI 31 from rfl, y_and]
  congr 1
  rw [show (31 : Nat) = 2 ^ 5 - 1 from rfl, Nat.and_two_pow_sub_one_eq_mod]
  omega
theorem y_shl {a k : Nat} (hk : k < 32) : nI a <<< (nI k &&& 31) = nI (a * 2 ^ k) := by
  apply y_inj
  rw [y_s31 hk]
  rw [Int32.toBitVec_shiftLeft, y_bv, y_bv, y_bv]
  have : ((BitVec.ofNat 32 k).smod 32) = BitVec.ofNat 32 k := by
    revert hk; revert k; decide
  rw [this]
  apply BitVec.eq_of_toNat_eq
  simp [BitVec.toNat_shiftLeft, Nat.shiftLeft_eq]
  rw [Nat.mod_eq_of_lt (show k < 4294967296 by omega)]
theorem y_uS {a k : Nat} (ha : a < 2 ^ 32) (hk : k < 32) : uS (nI a) (nI k) = nI (a / 2 ^ k) := by
  unfold uS
  exact pk_ushrN ha (nI k) k (by revert hk; revert k; decide)
theorem y_sS {a k : Nat} (ha : a < 2 ^ 31) (hk : k < 32) : nI a >>> (nI k &&& 31) = nI (a / 2 ^ k) := by
  rw [y_s31 hk]
  exact pk_shrN ha (nI k) k (by revert hk; revert k; decide)
theorem y_and1 (a : Nat) : nI a &&& 1 = nI (a % 2) := by
  rw [show (1 : Int32) = nI 1 from rfl, y_and]
  congr 1
  exact Nat.and_one_is_mod a
def bN (b : Bool) : Nat := if b then 1 else 0
theorem bN_bit (a k : Nat) : a / 2 ^ k % 2 = bN (a.testBit k) := by
  rw [Nat.testBit_eq_decide_div_mod_eq]
  unfold bN
  rcases Nat.mod_two_eq_zero_or_one (a / 2 ^ k) with h | h <;> rw [h] <;> decide
theorem y_ubit {a k : Nat} (ha : a < 2 ^ 32) (hk : k < 32) : uS (nI a) (nI k) &&& 1 = nI (bN (a.testBit k)) := by
  rw [y_uS ha hk, y_and1, bN_bit]
theorem y_sbit {a k : Nat} (ha : a < 2 ^ 31) (hk : k < 32) : nI a >>> (nI k &&& 31) &&& 1 = nI (bN (a.testBit k)) := by
  rw [y_sS ha hk, y_and1, bN_bit]
theorem bN_1 (b : Bool) : nI (bN b) = 1 ↔ b = true := by cases b <;> decide
theorem bN_0 (b : Bool) : nI (bN b) = 0 ↔ b = false := by cases b <;> decide
theorem y_b0 {c : Prop} [Decidable c] : ((if c then (1 : Int32) else 0) = 0) ↔ ¬ c := by split <;> simp_all
theorem y_b1 {c : Prop} [Decidable c] : ((if c then (1 : Int32) else 0) = 1) ↔ c := by split <;> simp_all
theorem y_xi {μ : xM} {q j q2 j2 : Nat} {v : Int32} : (xi μ q j v).1 q2 j2 = if q2 = q ∧ j2 = j then v else μ.1 q2 j2 := by
  unfold xi xup
  by_cases h : q2 = q
  · subst h; simp
  · simp [h]
theorem y_xi2 {μ : xM} {q j : Nat} {v : Int32} : (xi μ q j v).2 = μ.2 := rfl
theorem y_xin {μ : xM} {q j q2 : Nat} {v : Int32} (h : q2 ≠ q) : (xi μ q j v).1 q2 = μ.1 q2 := by unfold xi xup; simp [h]
theorem y_xl {μ : xM} {q j q2 j2 : Nat} {v : Int64} : (xl μ q j v).2 q2 j2 = if q2 = q ∧ j2 = j then v else μ.2 q2 j2 := by
  unfold xl xup
  by_cases h : q2 = q
  · subst h; simp
  · simp [h]
theorem y_xl1 {μ : xM} {q j : Nat} {v : Int64} : (xl μ q j v).1 = μ.1 := rfl
theorem y_xln {μ : xM} {q j q2 : Nat} {v : Int64} (h : q2 ≠ q) : (xl μ q j v).2 q2 = μ.2 q2 := by unfold xl xup; simp [h]
/-! the shape, for rewriting -/
theorem shp : rt 0 0 = 1 ∧ rt 0 1 = 16 ∧ rt 0 2 = 93 ∧ rt 0 3 = 100 ∧ rt 0 4 = 102 ∧ rt 1 0 = 2 ∧ rt 1 1 = 11 ∧ rt 2 1 = 3 ∧ rt 2 2 = 4 ∧ rt 2 3 = 5 ∧ rt 2 4 = 6 ∧ rt 2 5 = 7 ∧ rt 2 6 = 8 ∧ rt 2 7 = 9 ∧ rt 2 8 = 10 ∧ rt 11 0 = 12 ∧ rt 11 4 = 13 ∧ rt 11 5 = 14 ∧ rt 11 6 = 15 ∧ rt 16 0 = 17 ∧ rt 93 0 = 2 ∧ rt 93 1 = 94 ∧ rt 93 2 = 95 ∧ rt 93 3 = 99 ∧ rt 95 0 = 96 ∧ rt 95 1 = 97 ∧ rt 95 2 = 98 ∧ rt 100 0 = 101 ∧ rt 102 1 = 103 := by decide +kernel
theorem shl : ln 3 = 6 ∧ ln 4 = 6 ∧ ln 5 = 6 ∧ ln 6 = 6 ∧ ln 7 = 6 ∧ ln 8 = 6 ∧ ln 9 = 6 ∧ ln 10 = 6 ∧ ln 13 = 12 ∧ ln 14 = 12 ∧ ln 15 = 12 ∧ ln 17 = 5 ∧ ln 96 = 1024 ∧ ln 97 = 1024 ∧ ln 98 = 1024 ∧ ln 99 = 64 ∧ ln 101 = 150 ∧ ln 103 = 4 := by decide +kernel
theorem shm : rt 104 0 = 105 ∧ rt 104 1 = 106 ∧ rt 104 2 = 107 ∧ rt 104 4 = 108 ∧ rt 104 5 = 109 ∧ rt 104 6 = 110 ∧ rt 104 8 = 111 ∧ rt 104 9 = 112 ∧ rt 104 12 = 113 ∧ rt 104 13 = 114 ∧ rt 104 14 = 115 ∧ rt 104 15 = 116 ∧ rt 104 16 = 117 ∧ rt 104 21 = 118 ∧ rt 104 22 = 119 ∧ ln 105 = 131 ∧ ln 106 = 131 ∧ ln 107 = 655 ∧ ln 108 = 3 ∧ ln 109 = 16 ∧ ln 110 = 16 ∧ ln 111 = 6 ∧ ln 112 = 6 ∧ ln 113 = 6 ∧ ln 114 = 720 ∧ ln 115 = 720 ∧ ln 116 = 720 ∧ ln 117 = 150 ∧ ln 118 = 80 ∧ ln 119 = 320 := by decide +kernel
/-! the leaves -/
theorem e_within {v lo hi : Int32} {μ : xM} {Q : Int32 → xM → Prop} : p_X11_within v lo hi μ Q ↔ Q (if lo ≤ v ∧ v ≤ hi then 1 else 0) μ := by
  unfold p_X11_within
  by_cases h1 : v < lo
  · have : ¬ (lo ≤ v ∧ v ≤ hi) := by grind
    simp [h1, this]
  · by_cases h2 : hi < v
    · have : ¬ (lo ≤ v ∧ v ≤ hi) := by grind
      simp [h1, h2, this]
    · have : lo ≤ v ∧ v ≤ hi := by grind
      simp [h1, h2, this]
theorem e_in {v lo hi : Int32} {μ : xM} {Q : Int32 → xM → Prop} : p_X12_in v lo hi μ Q ↔ Q (if lo ≤ v ∧ v ≤ hi then 1 else 0) μ := by
  unfold p_X12_in
  by_cases h1 : v < lo
  · have : ¬ (lo ≤ v ∧ v ≤ hi) := by grind
    simp [h1, this]
  · by_cases h2 : hi < v
    · have : ¬ (lo ≤ v ∧ v ≤ hi) := by grind
      simp [h1, h2, this]
    · have : lo ≤ v ∧ v ≤ hi := by grind
      simp [h1, h2, this]
theorem e_at {q k : Nat} {μ : xM} {Q : Int32 → xM → Prop} (hk : k < ln q) (hn : ln q < 2 ^ 31) : p_X5_at q (nI k) μ Q ↔ Q (μ.1 q k) μ := by
  unfold p_X5_at
  have h1 : ¬ nI k < 0 := nI_pos (by omega)
  have h2 : ¬ nI (ln q) ≤ nI k := nI_ge hk hn
  have h3 : ¬ Int32.ofNat (ln q) ≤ nI k := h2
  simp only [h1, h3, nI_clamp (show k < 2 ^ 31 by omega), vp_in_nI hk hn, false_implies, not_false_eq_true, true_implies, true_and]
theorem e_put {q k : Nat} {v : Int32} {μ : xM} {Q : xM → Prop} (hk : k < ln q) (hn : ln q < 2 ^ 31) : p_X5_put q (nI k) v μ Q ↔ Q (xi μ q k v) := by
  unfold p_X5_put
  have h1 : ¬ nI k < 0 := nI_pos (by omega)
  have h2 : ¬ nI (ln q) ≤ nI k := nI_ge hk hn
  have h3 : ¬ Int32.ofNat (ln q) ≤ nI k := h2
  simp only [h1, h3, nI_clamp (show k < 2 ^ 31 by omega), vp_in_nI hk hn, false_implies, not_false_eq_true, true_implies, true_and, forall_eq]
theorem e_has {s k : Nat} {μ : xM} {Q : Int32 → xM → Prop} (hs : s < 2 ^ 31) (hk : k < 32) : p_X12_has (nI s) (nI k) μ Q ↔ Q (if s.testBit k = true then 1 else 0) μ := by
  unfold p_X12_has
  rw [y_sbit hs hk, bN_1]
  cases s.testBit k <;> simp
