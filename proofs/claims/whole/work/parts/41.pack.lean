/-! nibbles: k digits by 16, the least first -/
def nb (d : Nat → Nat) : Nat → Nat
  | 0 => 0
  | k + 1 => nb d k + d k * 16 ^ k
theorem p16 (k : Nat) : 16 ^ k = 2 ^ (4 * k) := by rw [show 16 = 2 ^ 4 from rfl, ← Nat.pow_mul]
theorem nb_lt {d : Nat → Nat} : ∀ (k : Nat), (∀ i, i < k → d i < 16) → nb d k < 16 ^ k
  | 0, _ => by simp [nb]
  | k + 1, h => by
    have h1 := nb_lt k (fun i hi => h i (by omega))
    have h2 : d k * 16 ^ k ≤ 15 * 16 ^ k := Nat.mul_le_mul_right _ (by have := h k (by omega); omega)
    simp only [nb, Nat.pow_succ]
    omega
theorem nb_ext {d d2 : Nat → Nat} : ∀ (k : Nat), (∀ i, i < k → d i = d2 i) → nb d k = nb d2 k
  | 0, _ => rfl
  | k + 1, h => by simp only [nb]; rw [nb_ext k (fun i hi => h i (by omega)), h k (by omega)]
theorem nb_add (a b : Nat → Nat) : ∀ k, nb a k + nb b k = nb (fun i => a i + b i) k
  | 0 => rfl
  | k + 1 => by simp only [nb]; rw [← nb_add a b k, Nat.add_mul]; omega
theorem nb_mul_c (a : Nat → Nat) (c : Nat) : ∀ k, nb a k * c = nb (fun i => a i * c) k
  | 0 => by simp [nb]
  | k + 1 => by
    simp only [nb]
    rw [← nb_mul_c a c k, Nat.add_mul]
    congr 1
    rw [Nat.mul_right_comm]
/-- bit j is bit j by 4 left over of digit j by 4 -/
theorem nb_bit {d : Nat → Nat} : ∀ (k : Nat), (∀ i, i < k → d i < 16) → ∀ j, (nb d k).testBit j = (decide (j / 4 < k) && (d (j / 4)).testBit (j % 4))
  | 0, _, j => by simp [nb]
  | k + 1, h, j => by
    have h1 := nb_lt k (fun i hi => h i (by omega))
    have h2 := nb_bit k (fun i hi => h i (by omega)) j
    simp only [nb]
    rw [p16] at h1
    rw [p16, Nat.add_comm, Nat.mul_comm, Nat.testBit_two_pow_mul_add _ h1]
    by_cases hj : j < 4 * k
    · rw [if_pos hj, h2]
      have e1 : j / 4 < k := by omega
      have e2 : j / 4 < k + 1 := by omega
      simp [e1, e2]
    · rw [if_neg hj]
      by_cases hk : j / 4 = k
      · rw [hk]
        have e : j - 4 * k = j % 4 := by omega
        simp [e]
      · have e2 : ¬ j / 4 < k + 1 := by omega
        rw [show decide (j / 4 < k + 1) = false by simp [e2], Bool.false_and]
        apply Nat.testBit_lt_two_pow
        have h3 := h k (by omega)
        have h4 : 2 ^ 4 ≤ 2 ^ (j - 4 * k) := Nat.pow_le_pow_right (by decide) (by omega)
        omega
theorem nb_bits {d : Nat → Nat} {k : Nat} (h : ∀ i, i < k → d i < 16) {x : Nat} (hx : ∀ j, x.testBit j = (decide (j / 4 < k) && (d (j / 4)).testBit (j % 4))) : x = nb d k := by
  apply Nat.eq_of_testBit_eq
  intro j
  rw [hx, nb_bit k h]
theorem nb_and {a b : Nat → Nat} {k : Nat} (ha : ∀ i, i < k → a i < 16) (hb : ∀ i, i < k → b i < 16) : nb a k &&& nb b k = nb (fun i => a i &&& b i) k := by
  apply nb_bits (fun i hi => Nat.lt_of_le_of_lt Nat.and_le_left (ha i hi))
  intro j
  rw [Nat.testBit_and, nb_bit k ha, nb_bit k hb, Nat.testBit_and]
  cases decide (j / 4 < k) <;> simp
theorem nb_or {a b : Nat → Nat} {k : Nat} (ha : ∀ i, i < k → a i < 16) (hb : ∀ i, i < k → b i < 16) : nb a k ||| nb b k = nb (fun i => a i ||| b i) k := by
  apply nb_bits (fun i hi => Nat.or_lt_two_pow (n := 4) (ha i hi) (hb i hi))
  intro j
  rw [Nat.testBit_or, nb_bit k ha, nb_bit k hb, Nat.testBit_or]
  cases decide (j / 4 < k) <;> simp
theorem nb_xor {a b : Nat → Nat} {k : Nat} (ha : ∀ i, i < k → a i < 16) (hb : ∀ i, i < k → b i < 16) : nb a k ^^^ nb b k = nb (fun i => a i ^^^ b i) k := by
  apply nb_bits (fun i hi => Nat.xor_lt_two_pow (n := 4) (ha i hi) (hb i hi))
  intro j
  rw [Nat.testBit_xor, nb_bit k ha, nb_bit k hb, Nat.testBit_xor]
  cases decide (j / 4 < k) <;> simp
theorem nb_ndf {a b : Nat → Nat} {k : Nat} (ha : ∀ i, i < k → a i < 16) (hb : ∀ i, i < k → b i < 16) : ndf (nb a k) (nb b k) = nb (fun i => ndf (a i) (b i)) k := by
  apply nb_bits (fun i hi => ndf_lt (n := 4) (ha i hi))
  intro j
  rw [ndf_bit, nb_bit k ha, nb_bit k hb, ndf_bit]
  cases decide (j / 4 < k) <;> simp
theorem nb_dig {d : Nat → Nat} {k : Nat} (h : ∀ i, i < k → d i < 16) {c : Nat} (hc : c < k) : nb d k / 16 ^ c % 16 = d c := by
  rw [p16]
  apply Nat.eq_of_testBit_eq
  intro j
  rw [show (16 : Nat) = 2 ^ 4 from rfl, Nat.testBit_mod_two_pow, Nat.testBit_div_two_pow, nb_bit k h]
  by_cases hj : j < 4
  · have e1 : (j + 4 * c) / 4 = c := by omega
    have e2 : (j + 4 * c) % 4 = j := by omega
    simp [hj, e1, e2, hc]
  · have h1 := h c hc
    have h2 : (d c).testBit j = false := Nat.testBit_lt_two_pow (Nat.lt_of_lt_of_le h1 (Nat.pow_le_pow_right (n := 2) (by decide) (show 4 ≤ j by omega)))
    simp [hj, h2]
theorem nb_inj {a b : Nat → Nat} {k : Nat} (ha : ∀ i, i < k → a i < 16) (hb : ∀ i, i < k → b i < 16) (h : nb a k = nb b k) (i : Nat) (hi : i < k) : a i = b i := by
  rw [← nb_dig ha hi, ← nb_dig hb hi, h]
/-- any number by its digits -/
theorem nb_of (x : Nat) : ∀ k, x < 16 ^ k → x = nb (fun i => x / 16 ^ i % 16) k := by
  intro k h
  apply nb_bits (fun i _ => Nat.mod_lt _ (by decide))
  intro j
  rw [p16, show (16 : Nat) = 2 ^ 4 from rfl, Nat.testBit_mod_two_pow, Nat.testBit_div_two_pow]
  rw [show j % 4 + 4 * (j / 4) = j by omega]
  have : j % 4 < 4 := Nat.mod_lt _ (by decide)
  by_cases hk : j / 4 < k
  · simp [hk, this]
  · rw [p16] at h
    have := Nat.testBit_lt_two_pow (Nat.lt_of_lt_of_le h (Nat.pow_le_pow_right (n := 2) (by decide) (show 4 * k ≤ j by omega)))
    simp [hk, this]
/-- ones: 1 in every digit -/
theorem ones_nb : 1229782938247303441 = nb (fun _ => 1) 16 := by decide +kernel
theorem sevens_nb : 8608480567731124087 = nb (fun _ => 7) 16 := by decide +kernel
theorem tb2 (x j : Nat) : (x / 2).testBit j = x.testBit (j + 1) := Nat.testBit_div_two_pow (n := 1) x j
theorem tb4 (x j : Nat) : (x / 4).testBit j = x.testBit (j + 2) := Nat.testBit_div_two_pow (n := 2) x j
theorem tb8 (x j : Nat) : (x / 8).testBit j = x.testBit (j + 3) := Nat.testBit_div_two_pow (n := 3) x j
def fil (x : Nat) : Nat := (((x ||| x / 2) ||| x / 4) ||| x / 8) &&& 1229782938247303441
theorem fil_nb {d : Nat → Nat} (h : ∀ i, i < 16 → d i < 16) : fil (nb d 16) = nb (fun i => if d i = 0 then 0 else 1) 16 := by
  have hd : ∀ v, v < 16 → (v.testBit 0 || v.testBit 1 || v.testBit 2 || v.testBit 3) = (if v = 0 then 0 else 1).testBit 0 := by decide
  have h1 : ∀ r, r < 4 → (1 : Nat).testBit r = decide (r = 0) := by decide
  have h0 : ∀ v : Nat, ∀ r, r < 4 → r ≠ 0 → (if v = 0 then 0 else 1 : Nat).testBit r = false := by
    intro v r hr hr0
    split
    · simp
    · rw [h1 r hr]; simp [hr0]
  apply nb_bits (fun i _ => by split <;> decide)
  intro j
  unfold fil
  rw [ones_nb]
  simp only [Nat.testBit_and, Nat.testBit_or, tb2, tb4, tb8, nb_bit 16 h, nb_bit (d := fun _ => 1) 16 (fun _ _ => by decide)]
  have hr : j % 4 < 4 := Nat.mod_lt _ (by decide)
  rw [h1 _ hr]
  by_cases hz : j % 4 = 0
  · have e1 : (j + 1) / 4 = j / 4 ∧ (j + 2) / 4 = j / 4 ∧ (j + 3) / 4 = j / 4 ∧ (j + 1) % 4 = 1 ∧ (j + 2) % 4 = 2 ∧ (j + 3) % 4 = 3 := by omega
    rw [e1.1, e1.2.1, e1.2.2.1, e1.2.2.2.1, e1.2.2.2.2.1, e1.2.2.2.2.2, hz]
    by_cases hk : j / 4 < 16
    · rw [← hd _ (h _ hk)]
      simp [hk]
    · simp [hk]
  · rw [h0 _ _ hr hz]
    simp [hz]
/-- polish: 1 more where it is open, but for 9 -/
theorem nines_nb {d o : Nat → Nat} (hd : ∀ i, i < 16 → d i < 10) (ho : ∀ i, i < 16 → o i < 2) : ndf (nb o 16) ((nb d 16 / 8) &&& nb d 16) = nb (fun i => if d i = 9 then 0 else o i) 16 := by
  have hd' : ∀ i, i < 16 → d i < 16 := fun i hi => Nat.lt_trans (hd i hi) (by decide)
  have ho' : ∀ i, i < 16 → o i < 16 := fun i hi => Nat.lt_trans (ho i hi) (by decide)
  have h1 : ∀ v, v < 10 → ∀ u, u < 2 → (u.testBit 0 && !(v.testBit 3 && v.testBit 0)) = (if v = 9 then 0 else u).testBit 0 := by decide
  have h2 : ∀ u, u < 2 → ∀ r, r < 4 → r ≠ 0 → u.testBit r = false := by decide
  apply nb_bits (fun i hi => by split <;> first | decide | exact ho' i hi)
  intro j
  rw [ndf_bit, Nat.testBit_and, tb8, nb_bit 16 hd', nb_bit 16 hd', nb_bit 16 ho']
  have hr : j % 4 < 4 := Nat.mod_lt _ (by decide)
  by_cases hk : j / 4 < 16
  · by_cases hz : j % 4 = 0
    · have e1 : (j + 3) / 4 = j / 4 ∧ (j + 3) % 4 = 3 := by omega
      rw [e1.1, e1.2, hz, ← h1 _ (hd _ hk) _ (ho _ hk)]
      simp [hk]
    · rw [h2 _ (ho _ hk) _ hr hz]
      split
      · simp
      · rw [h2 _ (ho _ hk) _ hr hz]; simp
  · simp [hk]
/-- spread: bit i becomes digit i -/
def spr (s : Nat) : Nat :=
  let a := (s ||| s * 16777216) &&& 1095216660735
  let b := (a ||| a * 4096) &&& 4222189076152335
  let c := (b ||| b * 64) &&& 217020518514230019
  (c ||| c * 8) &&& 1229782938247303441
theorem tbm (x k j : Nat) : (x * 2 ^ k).testBit j = (decide (k ≤ j) && x.testBit (j - k)) := by
  rw [← Nat.shiftLeft_eq, Nat.testBit_shiftLeft]
theorem mask_ge {m n j : Nat} (h : m < 2 ^ n) (hj : n ≤ j) : m.testBit j = false := Nat.testBit_lt_two_pow (Nat.lt_of_lt_of_le h (Nat.pow_le_pow_right (by decide) hj))
theorem m2_bit : ∀ j, j < 64 → Nat.testBit 1095216660735 j = decide (j % 32 < 8) := by decide +kernel
theorem m3_bit : ∀ j, j < 64 → Nat.testBit 4222189076152335 j = decide (j % 16 < 4) := by decide +kernel
theorem m4_bit : ∀ j, j < 64 → Nat.testBit 217020518514230019 j = decide (j % 8 < 2) := by decide +kernel
theorem m5_bit : ∀ j, j < 64 → Nat.testBit 1229782938247303441 j = decide (j % 4 = 0) := by decide +kernel
theorem spr_bit {s : Nat} (hs : s < 65536) (j : Nat) (hj : j < 64) : (spr s).testBit j = (decide (j % 4 = 0) && s.testBit (j / 4)) := by
  have hz : ∀ i, 16 ≤ i → s.testBit i = false := fun i hi => mask_ge (n := 16) hs hi
  unfold spr
  rw [show (16777216 : Nat) = 2 ^ 24 from rfl, show (4096 : Nat) = 2 ^ 12 from rfl, show (64 : Nat) = 2 ^ 6 from rfl, show (8 : Nat) = 2 ^ 3 from rfl]
  simp only [Nat.testBit_and, Nat.testBit_or, tbm, m5_bit j hj]
  by_cases h4 : j % 4 = 0
  · obtain ⟨c, rfl⟩ : ∃ c, j = 4 * c := ⟨j / 4, by omega⟩
    have hc : c < 16 := by omega
    rcases (show c = 0 ∨ c = 1 ∨ c = 2 ∨ c = 3 ∨ c = 4 ∨ c = 5 ∨ c = 6 ∨ c = 7 ∨ c = 8 ∨ c = 9 ∨ c = 10 ∨ c = 11 ∨ c = 12 ∨ c = 13 ∨ c = 14 ∨ c = 15 by omega) with rfl | rfl | rfl | rfl | rfl | rfl | rfl | rfl | rfl | rfl | rfl | rfl | rfl | rfl | rfl | rfl <;> simp [m2_bit, m3_bit, m4_bit, hz]
  · simp [h4]
theorem spr_nb {s : Nat} (hs : s < 65536) : spr s = nb (fun i => bN (s.testBit i)) 16 := by
  have hb : ∀ b : Bool, bN b < 16 := by decide
  have h0 : ∀ b : Bool, ∀ r, r < 4 → (bN b).testBit r = (decide (r = 0) && b) := by decide
  apply nb_bits (fun i _ => hb _)
  intro j
  by_cases hj : j < 64
  · rw [spr_bit hs j hj, h0 _ _ (Nat.mod_lt _ (by decide))]
    have : j / 4 < 16 := by omega
    simp [this]
  · have h1 : spr s < 2 ^ 64 := Nat.lt_of_le_of_lt Nat.and_le_right (by decide)
    rw [mask_ge h1 (by omega)]
    have : ¬ j / 4 < 16 := by omega
    simp [this]
