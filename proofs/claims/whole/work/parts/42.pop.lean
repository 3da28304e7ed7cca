/-! counting bits -/
def pcS (s : Nat) : Nat → Nat
  | 0 => 0
  | k + 1 => pcS s k + bN (s.testBit k)
def pcN (s : Nat) : Nat := pcS s 16
theorem bN_le (b : Bool) : bN b ≤ 1 := by cases b <;> decide
theorem pcS_le (s : Nat) : ∀ k, pcS s k ≤ k
  | 0 => Nat.le_refl _
  | k + 1 => by simp only [pcS]; have := pcS_le s k; have := bN_le (s.testBit k); omega
theorem pcS_half (s : Nat) : ∀ k, pcS s (k + 1) = s % 2 + pcS (s / 2) k
  | 0 => by
    simp only [pcS]
    have := bN_bit s 0
    simp only [Nat.pow_zero, Nat.div_one] at this
    omega
  | k + 1 => by
    rw [pcS, pcS_half s k, pcS, tb2]
    omega
theorem and_half (a b : Nat) : (a &&& b) / 2 = a / 2 &&& b / 2 := by
  apply Nat.eq_of_testBit_eq
  intro j
  simp only [tb2, Nat.testBit_and]
theorem and_mod2 (a b : Nat) : (a &&& b) % 2 = if a % 2 = 1 ∧ b % 2 = 1 then 1 else 0 := by
  have h := bN_bit (a &&& b) 0
  have h1 := bN_bit a 0
  have h2 := bN_bit b 0
  simp only [Nat.pow_zero, Nat.div_one] at h h1 h2
  rw [h, h1, h2, Nat.testBit_and]
  cases a.testBit 0 <;> cases b.testBit 0 <;> decide
theorem pcS_kern : ∀ (k s : Nat), 0 < s → s < 2 ^ k → pcS (s &&& (s - 1)) k + 1 = pcS s k
  | 0, s, h0, h => by simp at h; omega
  | k + 1, s, h0, h => by
    rw [pcS_half, pcS_half, and_half, and_mod2]
    rw [Nat.pow_succ] at h
    rcases Nat.mod_two_eq_zero_or_one s with e | e
    · have e1 : (s - 1) / 2 = s / 2 - 1 := by omega
      rw [e1, e, if_neg (by omega)]
      have := pcS_kern k (s / 2) (by omega) (by omega)
      omega
    · have e1 : (s - 1) / 2 = s / 2 := by omega
      rw [e1, if_neg (by omega), Nat.and_self, e]
      omega
theorem kern_lt {s : Nat} (h : 0 < s) : s &&& (s - 1) < s := Nat.lt_of_le_of_lt Nat.and_le_right (by omega)
/-- a mask by bytes -/
theorem and_256 (a m : Nat) : a &&& m = (a % 256 &&& m % 256) + 256 * (a / 256 &&& m / 256) := by
  have h1 : (a &&& m) % 256 = a % 256 &&& m % 256 := by
    apply Nat.eq_of_testBit_eq
    intro j
    rw [show (256 : Nat) = 2 ^ 8 from rfl]
    simp only [Nat.testBit_and, Nat.testBit_mod_two_pow]
    cases decide (j < 8) <;> simp
  have h2 : (a &&& m) / 256 = a / 256 &&& m / 256 := by
    apply Nat.eq_of_testBit_eq
    intro j
    rw [show (256 : Nat) = 2 ^ 8 from rfl]
    simp only [Nat.testBit_and, Nat.testBit_div_two_pow]
  rw [← h1, ← h2]
  omega
theorem and_256' {u v m : Nat} (hu : u < 256) : (u + 256 * v) &&& m = (u &&& m % 256) + 256 * (v &&& m / 256) := by
  rw [and_256]
  have e1 : (u + 256 * v) % 256 = u := by omega
  have e2 : (u + 256 * v) / 256 = v := by omega
  rw [e1, e2]
def sA (x : Nat) : Nat := x - ((x / 2) &&& 85)
def sB (a : Nat) : Nat := (a &&& 51) + ((a / 4) &&& 51)
def sC (b : Nat) : Nat := (b + b / 16) &&& 15
theorem s_fact : ∀ x, x < 256 → (x / 2) &&& 85 ≤ x ∧ sB (sA x) ≤ 68 ∧ sB (sA x) % 16 ≤ 4 ∧ sC (sB (sA x)) = pcS x 8 ∧ (x / 2) &&& 5592405 = (x / 2) &&& 85 ∧ (x / 4) &&& 3355443 = (x / 4) &&& 51 ∧ x &&& 3355443 = x &&& 51 := by decide +kernel
theorem s_f1 : ∀ x, x < 256 → ∀ t, t < 2 → (x / 2 + 128 * t) &&& 85 = (x / 2) &&& 85 := by decide +kernel
theorem s_f2 : ∀ x, x < 256 → ∀ t, t < 4 → (x / 4 + 64 * t) &&& 51 = (x / 4) &&& 51 := by decide +kernel
theorem s_f3 : ∀ p, p < 69 → p % 16 ≤ 4 → ∀ t, t < 5 → (p + p / 16 + 16 * t) &&& 15 = (p + p / 16) &&& 15 := by decide +kernel
theorem s_f4 : ∀ p, p < 69 → (p + p / 16) &&& 986895 = (p + p / 16) &&& 15 := by decide +kernel
theorem pcS_bytes (s : Nat) : pcS s 16 = pcS (s % 256) 8 + pcS (s / 256) 8 := by
  have h1 : ∀ k, k ≤ 8 → pcS (s % 256) k = pcS s k := by
    intro k
    induction k with
    | zero => intro _; rfl
    | succ k ih =>
      intro hk
      simp only [pcS]
      rw [ih (by omega), show (256 : Nat) = 2 ^ 8 from rfl, Nat.testBit_mod_two_pow]
      simp [show k < 8 by omega]
  have h2 : ∀ k, pcS s (8 + k) = pcS s 8 + pcS (s / 256) k := by
    intro k
    induction k with
    | zero => rfl
    | succ k ih =>
      show pcS s (8 + k) + bN (s.testBit (8 + k)) = pcS s 8 + (pcS (s / 256) k + bN ((s / 256).testBit k))
      rw [ih, show (s / 256).testBit k = s.testBit (k + 8) from Nat.testBit_div_two_pow (n := 8) s k, Nat.add_comm 8 k]
      omega
  rw [h1 8 (Nat.le_refl _), show (16 : Nat) = 8 + 8 from rfl, h2]
def swA (s : Nat) : Nat := s - ((s / 2) &&& 1431655765)
def swB (a : Nat) : Nat := (a &&& 858993459) + ((a / 4) &&& 858993459)
def swC (b : Nat) : Nat := (b + b / 16) &&& 252645135
theorem swA_b {x y : Nat} (hx : x < 256) (hy : y < 256) : ((x + 256 * y) / 2) &&& 1431655765 ≤ x + 256 * y ∧ swA (x + 256 * y) = sA x + 256 * sA y := by
  have e : (x + 256 * y) / 2 = (x / 2 + 128 * (y % 2)) + 256 * (y / 2) := by omega
  have h : ((x + 256 * y) / 2) &&& 1431655765 = ((x / 2) &&& 85) + 256 * ((y / 2) &&& 85) := by
    rw [e, and_256' (by omega), show 1431655765 % 256 = 85 from rfl, show 1431655765 / 256 = 5592405 from rfl, s_f1 x hx _ (Nat.mod_lt _ (by decide)), (s_fact y hy).2.2.2.2.1]
  have hx1 := (s_fact x hx).1
  have hy1 := (s_fact y hy).1
  constructor
  · rw [h]; omega
  · unfold swA sA
    rw [h]
    omega
theorem sA_lt {x : Nat} (h : x < 256) : sA x < 256 := Nat.lt_of_le_of_lt (Nat.sub_le _ _) h
theorem swB_b {u v : Nat} (hu : u < 256) (hv : v < 256) : swB (u + 256 * v) = sB u + 256 * sB v := by
  have e : (u + 256 * v) / 4 = (u / 4 + 64 * (v % 4)) + 256 * (v / 4) := by omega
  unfold swB sB
  rw [e, and_256' hu, and_256' (by omega), show 858993459 % 256 = 51 from rfl, show 858993459 / 256 = 3355443 from rfl, s_f2 u hu _ (Nat.mod_lt _ (by decide)), (s_fact v hv).2.2.2.2.2.1, (s_fact v hv).2.2.2.2.2.2]
  omega
theorem swC_b {p q : Nat} (hp : p ≤ 68) (hp2 : p % 16 ≤ 4) (hq : q ≤ 68) (hq2 : q % 16 ≤ 4) : swC (p + 256 * q) = sC p + 256 * sC q := by
  have e : (p + 256 * q) + (p + 256 * q) / 16 = (p + p / 16 + 16 * (q % 16)) + 256 * (q + q / 16) := by omega
  unfold swC sC
  rw [e, and_256' (by omega), show 252645135 % 256 = 15 from rfl, show 252645135 / 256 = 986895 from rfl, s_f3 p (by omega) hp2 _ (by omega), s_f4 q (by omega)]
theorem swar {s : Nat} (hs : s < 65536) : (s / 2) &&& 1431655765 ≤ s ∧ swC (swB (swA s)) = pcS (s % 256) 8 + 256 * pcS (s / 256) 8 ∧ swA s < 65536 ∧ swB (swA s) < 65536 := by
  have e : s = s % 256 + 256 * (s / 256) := by omega
  have hx : s % 256 < 256 := Nat.mod_lt _ (by decide)
  have hy : s / 256 < 256 := by omega
  obtain ⟨h1, h2⟩ := swA_b hx hy
  rw [← e] at h1 h2
  have fx := s_fact _ hx
  have fy := s_fact _ hy
  have lx := sA_lt hx
  have ly := sA_lt hy
  have h3 := swB_b lx ly
  rw [← h2] at h3
  have h4 := swC_b fx.2.1 fx.2.2.1 fy.2.1 fy.2.2.1
  rw [← h3, fx.2.2.2.1, fy.2.2.2.1] at h4
  exact ⟨h1, h4, by omega, by omega⟩
theorem e_bc {s : Nat} {μ : xM} {Q : Int32 → xM → Prop} (hs : s < 65536) : p_J6_bitCount_0f7a4 (nI s) μ Q ↔ Q (nI (pcN s)) μ := by
  obtain ⟨h1, h2, h3, h4⟩ := swar hs
  unfold p_J6_bitCount_0f7a4
  simp only [forall_eq]
  have a1 : nI s - (uS (nI s) 1 &&& 1431655765) = nI (swA s) := by
    rw [show (1 : Int32) = nI 1 from rfl, y_uS (by omega) (by decide), show (1431655765 : Int32) = nI 1431655765 from rfl, y_and, Nat.pow_one, pk_sub h1]
    rfl
  rw [a1]
  have a2 : (nI (swA s) &&& 858993459) + (uS (nI (swA s)) 2 &&& 858993459) = nI (swB (swA s)) := by
    rw [show (2 : Int32) = nI 2 from rfl, y_uS (by omega) (by decide), show (858993459 : Int32) = nI 858993459 from rfl, y_and, y_and, nI_add]
    rfl
  rw [a2]
  have a3 : (nI (swB (swA s)) + uS (nI (swB (swA s))) 4) &&& 252645135 = nI (swC (swB (swA s))) := by
    rw [show (4 : Int32) = nI 4 from rfl, y_uS (by omega) (by decide), nI_add, show (252645135 : Int32) = nI 252645135 from rfl, y_and]
    rfl
  rw [a3, h2]
  have b1 := pcS_le (s % 256) 8
  have b2 := pcS_le (s / 256) 8
  generalize hx : pcS (s % 256) 8 = x at *
  generalize hy : pcS (s / 256) 8 = y at *
  rw [show (8 : Int32) = nI 8 from rfl, show (16 : Int32) = nI 16 from rfl, show (63 : Int32) = nI 63 from rfl, y_uS (by omega) (by decide), nI_add, y_uS (by omega) (by decide), nI_add, y_and]
  have e2 : x + 256 * y + (x + 256 * y) / 2 ^ 8 + (x + 256 * y + (x + 256 * y) / 2 ^ 8) / 2 ^ 16 &&& 63 = pcN s := by
    rw [show (63 : Nat) = 2 ^ 6 - 1 from rfl, Nat.and_two_pow_sub_one_eq_mod]
    unfold pcN
    rw [pcS_bytes, hx, hy]
    have g1 : (x + 256 * y) / 2 ^ 8 = y := by omega
    rw [g1]
    have g2 : (x + 256 * y + y) / 2 ^ 16 = 0 := by omega
    rw [g2]
    omega
  rw [e2]
/-- the reference's way -/
theorem pcN_0 : pcN 0 = 0 := by decide
theorem pcN_le (s : Nat) : pcN s ≤ 16 := pcS_le s 16
theorem l_bits {μ : xM} {K : Int32 → xM → Prop} {t : Nat} (hK : K (nI t) μ) : ∀ (n s c : Nat), s < 65536 → pcN s < n → c + pcN s = t → L_X12_bits_4 n (nI s) (nI c) μ K
  | 0, s, c, hs, hn, ht => by omega
  | n + 1, s, c, hs, hn, ht => by
    unfold L_X12_bits_4 B_X12_bits_4
    simp only [forall_eq]
    have e0 : nI s = 0 ↔ s = 0 := nI_eq (by omega) (by decide)
    rw [e0]
    constructor
    · intro h
      subst h
      rw [pcN_0] at ht
      rw [show c = t by omega]
      exact hK
    · intro h
      have hk := pcS_kern 16 s (by omega) hs
      have hl := kern_lt (show 0 < s by omega)
      have hk2 : pcN (s &&& (s - 1)) + 1 = pcN s := hk
      rw [show (1 : Int32) = nI 1 from rfl, nI_add, pk_sub (by omega), y_and]
      exact l_bits hK n _ _ (by omega) (by omega) (by omega)
theorem e_bits {s : Nat} {μ : xM} {Q : Int32 → xM → Prop} (hs : s < 65536) (h : Q (nI (pcN s)) μ) : p_X12_bits (nI s) μ Q := by
  unfold p_X12_bits
  exact ⟨17, l_bits h 17 s 0 hs (by have := pcN_le s; omega) (by omega)⟩
