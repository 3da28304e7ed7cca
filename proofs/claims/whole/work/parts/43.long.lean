/-! longs as lN of naturals -/
theorem yl_and (a b : Nat) : lN a &&& lN b = lN (a &&& b) := by
  apply y_injL
  rw [Int64.toBitVec_and, y_bvL, y_bvL, y_bvL]
  apply BitVec.eq_of_getLsbD_eq
  intro i hi
  simp only [BitVec.getLsbD_and, BitVec.getLsbD_ofNat, Nat.testBit_and, hi, decide_true, Bool.true_and]
theorem yl_or (a b : Nat) : lN a ||| lN b = lN (a ||| b) := by
  apply y_injL
  rw [Int64.toBitVec_or, y_bvL, y_bvL, y_bvL]
  apply BitVec.eq_of_getLsbD_eq
  intro i hi
  simp only [BitVec.getLsbD_or, BitVec.getLsbD_ofNat, Nat.testBit_or, hi, decide_true, Bool.true_and]
theorem yl_xor (a b : Nat) : lN a ^^^ lN b = lN (a ^^^ b) := by
  apply y_injL
  rw [Int64.toBitVec_xor, y_bvL, y_bvL, y_bvL]
  apply BitVec.eq_of_getLsbD_eq
  intro i hi
  simp only [BitVec.getLsbD_xor, BitVec.getLsbD_ofNat, Nat.testBit_xor, hi, decide_true, Bool.true_and]
theorem yl_andn (a b : Nat) : lN a &&& (lN b ^^^ -1) = lN (ndf a b) := by
  apply y_injL
  rw [Int64.toBitVec_and, Int64.toBitVec_xor, y_bvL, y_bvL, y_bvL]
  apply BitVec.eq_of_getLsbD_eq
  intro i hi
  have h1 : (-1 : Int64).toBitVec = BitVec.allOnes 64 := by decide
  rw [h1]
  simp only [BitVec.getLsbD_and, BitVec.getLsbD_xor, BitVec.getLsbD_allOnes, BitVec.getLsbD_ofNat, ndf_bit, hi, decide_true, Bool.true_and, Bool.xor_true]
theorem yl_sm : ∀ k, k < 64 → ((nI k).toInt64.toUInt64 &&& Int64.toUInt64 63) = UInt64.ofNat k := by decide
theorem yl_sl : ∀ k, k < 64 → (((nI k).toInt64 &&& 63).toBitVec.smod 64) = BitVec.ofNat 64 k := by decide
theorem yl_U {n k : Nat} (hn : n < 2 ^ 64) (hk : k < 64) : lU (lN n) (nI k) = lN (n / 2 ^ k) := by
  unfold lU
  rw [yl_sm k hk]
  apply y_injL
  rw [y_bvL]
  apply BitVec.eq_of_toNat_eq
  have e1 : ((lN n).toUInt64 >>> UInt64.ofNat k).toInt64.toBitVec.toNat = (lN n).toUInt64.toNat >>> ((UInt64.ofNat k).toNat % 64) := by
    show ((lN n).toUInt64 >>> UInt64.ofNat k).toNat = _
    rw [UInt64.toNat_shiftRight]
  rw [e1]
  have e2 : (lN n).toUInt64.toNat = n := by
    show (BitVec.ofNat 64 n).toNat = n
    rw [BitVec.toNat_ofNat, Nat.mod_eq_of_lt hn]
  have e3 : (UInt64.ofNat k).toNat = k := by
    rw [UInt64.toNat_ofNat']
    omega
  rw [e2, e3, Nat.mod_eq_of_lt hk, Nat.shiftRight_eq_div_pow, BitVec.toNat_ofNat, Nat.mod_eq_of_lt]
  exact Nat.lt_of_le_of_lt (Nat.div_le_self _ _) hn
theorem yl_L {n k : Nat} (hk : k < 64) : lL (lN n) (nI k) = lN (n * 2 ^ k) := by
  unfold lL
  apply y_injL
  rw [Int64.toBitVec_shiftLeft, yl_sl k hk, y_bvL, y_bvL]
  apply BitVec.eq_of_toNat_eq
  rw [BitVec.shiftLeft_eq', BitVec.toNat_shiftLeft, BitVec.toNat_ofNat, BitVec.toNat_ofNat, BitVec.toNat_ofNat, Nat.mod_eq_of_lt (show k < 2 ^ 64 by omega), Nat.shiftLeft_eq, Nat.mod_mul_mod]
theorem yl_i (n : Nat) : (lN n).toInt32 = nI n := lN_i n
theorem yl_l {n : Nat} (h : n < 2 ^ 31) : (nI n).toInt64 = lN n := nI_l h
/-- sums -/
def sm (o : Nat → Nat) : Nat → Nat
  | 0 => 0
  | k + 1 => sm o k + o k
theorem pcS_sm (s : Nat) : ∀ k, pcS s k = sm (fun i => bN (s.testBit i)) k
  | 0 => rfl
  | k + 1 => by simp only [pcS, sm]; rw [pcS_sm s k]
theorem sm_ext {a b : Nat → Nat} : ∀ k, (∀ i, i < k → a i = b i) → sm a k = sm b k
  | 0, _ => rfl
  | k + 1, h => by simp only [sm]; rw [sm_ext k (fun i hi => h i (by omega)), h k (by omega)]
/-- nibble and withNibble -/
theorem e_nib {n c : Nat} {μ : xM} {Q : Int32 → xM → Prop} (hn : n < 2 ^ 64) (hc : c < 16) : p_X1_nibble (lN n) (nI c) μ Q ↔ Q (nI (n / 16 ^ c % 16)) μ := by
  unfold p_X1_nibble
  rw [show (4 : Int32) = nI 4 from rfl, pk_mul, yl_U hn (by omega), yl_i, show (15 : Int32) = nI 15 from rfl, y_and, show (15 : Nat) = 2 ^ 4 - 1 from rfl, Nat.and_two_pow_sub_one_eq_mod, p16]
theorem e_nibd {d : Nat → Nat} {c : Nat} {μ : xM} {Q : Int32 → xM → Prop} (hd : ∀ i, i < 16 → d i < 16) (hc : c < 16) : p_X1_nibble (lN (nb d 16)) (nI c) μ Q ↔ Q (nI (d c)) μ := by
  rw [e_nib (by have := nb_lt 16 hd; rw [p16] at this; exact this) hc, nb_dig hd hc]
def up1 (d : Nat → Nat) (c v : Nat) : Nat → Nat := fun i => if i = c then v else d i
theorem nb_one (c v : Nat) : ∀ k, c < k → nb (fun i => if i = c then v else 0) k = v * 16 ^ c
  | 0, h => by omega
  | k + 1, h => by
    simp only [nb]
    by_cases hk : k = c
    · subst hk
      rw [if_pos rfl]
      have : nb (fun i => if i = k then v else 0) k = nb (fun _ => 0) k := nb_ext k (fun i hi => by simp [show i ≠ k by omega])
      rw [this]
      have hz : ∀ m, nb (fun _ => 0) m = 0 := by
        intro m
        induction m with
        | zero => rfl
        | succ m ih => simp [nb, ih]
      rw [hz]; omega
    · rw [if_neg hk, nb_one c v k (by omega)]; omega
theorem e_wnib {d : Nat → Nat} {c v : Nat} {μ : xM} {Q : Int64 → xM → Prop} (hd : ∀ i, i < 16 → d i < 16) (hc : c < 16) (hv : v < 16) : p_X1_withNibble (lN (nb d 16)) (nI c) (nI v) μ Q ↔ Q (lN (nb (up1 d c v) 16)) μ := by
  unfold p_X1_withNibble
  have h1 : lL (15 : Int64) ((4 : Int32) * nI c) = lN (nb (fun i => if i = c then 15 else 0) 16) := by
    rw [show (15 : Int64) = lN 15 from rfl, show (4 : Int32) = nI 4 from rfl, pk_mul, yl_L (by omega), nb_one c 15 16 hc, p16]
  have h2 : lL ((nI v).toInt64) ((4 : Int32) * nI c) = lN (nb (fun i => if i = c then v else 0) 16) := by
    rw [yl_l (by omega), show (4 : Int32) = nI 4 from rfl, pk_mul, yl_L (by omega), nb_one c v 16 hc, p16]
  rw [h1, h2, yl_andn, nb_ndf hd (fun i _ => by split <;> decide), yl_or, nb_or]
  · rw [nb_ext (d2 := up1 d c v) 16]
    intro i hi
    unfold up1
    have h15 : ∀ x, x < 16 → ndf x 15 = 0 := by decide
    have h0 : ∀ x, x < 16 → ndf x 0 = x := by decide
    by_cases e : i = c
    · simp [e, h15 _ (hd c hc)]
    · simp [e, h0 _ (hd i hi)]
  · intro i hi
    exact ndf_lt (n := 4) (hd i hi)
  · intro i hi
    split
    · exact hv
    · decide
theorem nb64 {d : Nat → Nat} (hd : ∀ i, i < 16 → d i < 16) : nb d 16 < 2 ^ 64 := by
  have := nb_lt 16 hd
  rw [p16] at this
  exact this
theorem e_filled {x : Nat} {μ : xM} {Q : Int64 → xM → Prop} (hx : x < 2 ^ 64) : p_X1_filled (lN x) μ Q ↔ Q (lN (fil x)) μ := by
  unfold p_X1_filled fil
  rw [show (1 : Int32) = nI 1 from rfl, show (2 : Int32) = nI 2 from rfl, show (3 : Int32) = nI 3 from rfl, yl_U hx (by decide), yl_U hx (by decide), yl_U hx (by decide), yl_or, yl_or, yl_or, show (1229782938247303441 : Int64) = lN 1229782938247303441 from rfl, yl_and]
theorem e_spread {s : Nat} {μ : xM} {Q : Int64 → xM → Prop} (hs : s < 65536) : p_X1_spread (nI s) μ Q ↔ Q (lN (spr s)) μ := by
  unfold p_X1_spread
  simp only [forall_eq]
  rw [show (65535 : Int32) = nI 65535 from rfl, y_and, show (65535 : Nat) = 2 ^ 16 - 1 from rfl, Nat.and_two_pow_sub_one_eq_mod, Nat.mod_eq_of_lt hs, yl_l (by omega), show (24 : Int32) = nI 24 from rfl, show (12 : Int32) = nI 12 from rfl, show (6 : Int32) = nI 6 from rfl, show (3 : Int32) = nI 3 from rfl, show (1095216660735 : Int64) = lN 1095216660735 from rfl, show (4222189076152335 : Int64) = lN 4222189076152335 from rfl, show (217020518514230019 : Int64) = lN 217020518514230019 from rfl, show (1229782938247303441 : Int64) = lN 1229782938247303441 from rfl]
  simp only [yl_L (show 24 < 64 by decide), yl_L (show 12 < 64 by decide), yl_L (show 6 < 64 by decide), yl_L (show 3 < 64 by decide), yl_or, yl_and]
  rfl
