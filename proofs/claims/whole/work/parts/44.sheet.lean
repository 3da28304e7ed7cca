/-! what a call may change -/
def fr (P : Nat → Prop) (μ ν : xM) : Prop := ∀ q, ¬ P q → ν.1 q = μ.1 q ∧ ν.2 q = μ.2 q
theorem fr_rf {P : Nat → Prop} {μ : xM} : fr P μ μ := fun _ _ => ⟨rfl, rfl⟩
theorem fr_tr {P : Nat → Prop} {μ ν κ : xM} (h1 : fr P μ ν) (h2 : fr P ν κ) : fr P μ κ := fun q hq => ⟨(h2 q hq).1.trans (h1 q hq).1, (h2 q hq).2.trans (h1 q hq).2⟩
theorem fr_mono {P P2 : Nat → Prop} {μ ν : xM} (h : fr P μ ν) (hp : ∀ q, P q → P2 q) : fr P2 μ ν := fun q hq => h q (fun h => hq (hp q h))
theorem fr_xi {P : Nat → Prop} {μ : xM} {q j : Nat} {v : Int32} (h : P q) : fr P μ (xi μ q j v) := fun q2 h2 => ⟨y_xin (fun e => h2 (e ▸ h)), rfl⟩
theorem fr_xl {P : Nat → Prop} {μ : xM} {q j : Nat} {v : Int64} (h : P q) : fr P μ (xl μ q j v) := fun q2 h2 => ⟨rfl, y_xln (fun e => h2 (e ▸ h))⟩
/-! how many digits are 1 -/
theorem o_bit {o : Nat → Nat} (ho : ∀ i, i < 16 → o i < 2) (j : Nat) (h : (nb o 16).testBit j = true) : j < 64 ∧ j % 4 = 0 := by
  rw [nb_bit 16 (fun i hi => Nat.lt_trans (ho i hi) (by decide)) j] at h
  simp only [Bool.and_eq_true, decide_eq_true_eq] at h
  have h2 : ∀ u, u < 2 → ∀ r, r < 4 → u.testBit r = true → r = 0 := by decide
  exact ⟨by omega, h2 _ (ho _ h.1) _ (Nat.mod_lt _ (by decide)) h.2⟩
theorem o_m1 : ∀ j, j < 64 → Nat.testBit 6148914691236517205 j = decide (j % 2 = 0) := by decide +kernel
theorem o_m2 : ∀ j, j < 64 → Nat.testBit 3689348814741910323 j = decide (j % 4 < 2) := by decide +kernel
theorem o_s1 {o : Nat → Nat} (ho : ∀ i, i < 16 → o i < 2) : (nb o 16 / 2) &&& 6148914691236517205 = 0 := by
  apply Nat.eq_of_testBit_eq
  intro j
  rw [Nat.testBit_and, tb2, Nat.zero_testBit]
  cases h : (nb o 16).testBit (j + 1)
  · rfl
  · obtain ⟨h1, h2⟩ := o_bit ho _ h
    rw [o_m1 j (by omega)]
    have : ¬ j % 2 = 0 := by omega
    simp [this]
theorem o_s2 {o : Nat → Nat} (ho : ∀ i, i < 16 → o i < 2) : (nb o 16 / 4) &&& 3689348814741910323 = 0 := by
  apply Nat.eq_of_testBit_eq
  intro j
  rw [Nat.testBit_and, tb4, Nat.zero_testBit]
  cases h : (nb o 16).testBit (j + 2)
  · rfl
  · obtain ⟨h1, h2⟩ := o_bit ho _ h
    rw [o_m2 j (by omega)]
    have : ¬ j % 4 < 2 := by omega
    simp [this]
theorem o_s3 {o : Nat → Nat} (ho : ∀ i, i < 16 → o i < 2) : nb o 16 &&& 3689348814741910323 = nb o 16 := by
  apply Nat.eq_of_testBit_eq
  intro j
  rw [Nat.testBit_and]
  cases h : (nb o 16).testBit j
  · rfl
  · obtain ⟨h1, h2⟩ := o_bit ho _ h
    rw [o_m2 j h1]
    have : j % 4 < 2 := by omega
    simp [this]
theorem o_m3 : 1085102592571150095 = nb (fun i => if i % 2 = 0 then 15 else 0) 16 := by decide +kernel
theorem nb_h (d : Nat → Nat) : ∀ k, nb d (k + 1) = d 0 + 16 * nb (fun i => d (i + 1)) k
  | 0 => by simp [nb]
  | k + 1 => by
    rw [nb, nb_h d k, nb, Nat.pow_succ, Nat.mul_add]
    have : d (k + 1) * (16 ^ k * 16) = 16 * (d (k + 1) * 16 ^ k) := by rw [← Nat.mul_assoc, Nat.mul_comm _ 16]
    omega
theorem nb_div (d : Nat → Nat) (k : Nat) (h : d 0 < 16) : nb d (k + 1) / 16 = nb (fun i => d (i + 1)) k := by
  rw [nb_h]
  omega
theorem nb_z (d : Nat → Nat) : ∀ k, nb d k = nb (fun i => if i < k then d i else 0) (k + 1) := by
  intro k
  have h : nb (fun i => if i < k then d i else 0) k = nb d k := nb_ext k (fun i hi => by simp [hi])
  rw [nb, h]
  simp
theorem nb_2 (d : Nat → Nat) (k : Nat) (h : ∀ i, i % 2 = 1 → d i = 0) : nb d (k + 2) = d 0 + 256 * nb (fun i => d (i + 2)) k := by
  rw [nb_h, nb_h, h (0 + 1) rfl, show (fun i => d (i + 1 + 1)) = (fun i => d (i + 2)) from rfl]
  omega
theorem o_s4 {o : Nat → Nat} (ho : ∀ i, i < 16 → o i < 2) : (nb o 16 + nb o 16 / 16) &&& 1085102592571150095 = (o 0 + o 1) + 256 * ((o 2 + o 3) + 256 * ((o 4 + o 5) + 256 * ((o 6 + o 7) + 256 * ((o 8 + o 9) + 256 * ((o 10 + o 11) + 256 * ((o 12 + o 13) + 256 * (o 14 + o 15))))))) := by
  have hd : nb o 16 / 16 = nb (fun i => if i < 15 then o (i + 1) else 0) 16 := by
    rw [nb_div o 15 (Nat.lt_trans (ho 0 (by decide)) (by decide)), nb_z]
  rw [hd, nb_add, o_m3, nb_and]
  · rw [nb_ext (d2 := fun i => if i % 2 = 0 then o i + o (i + 1) else 0) 16]
    · rw [nb_2 _ 14 (fun i hi => by simp [hi]), nb_2 _ 12 (fun i hi => by simp [hi]), nb_2 _ 10 (fun i hi => by simp [hi]), nb_2 _ 8 (fun i hi => by simp [hi]), nb_2 _ 6 (fun i hi => by simp [hi]), nb_2 _ 4 (fun i hi => by simp [hi]), nb_2 _ 2 (fun i hi => by simp [hi]), nb_2 _ 0 (fun i hi => by simp [hi])]
      simp [nb]
    · intro i hi
      have h1 := ho i hi
      by_cases h15 : i < 15
      · have h2 := ho (i + 1) (by omega)
        have h3 : ∀ v, v < 4 → v &&& 15 = v := by decide
        by_cases e : i % 2 = 0
        · simp [e, h15, h3 (o i + o (i + 1)) (by omega)]
        · simp [e]
      · have e : i % 2 ≠ 0 := by omega
        simp [e]
  · intro i hi
    have h1 := ho i hi
    by_cases h15 : i < 15
    · have h2 := ho (i + 1) (by omega)
      simp [h15]; omega
    · simp [h15]; omega
  · intro i hi
    split <;> decide
theorem bc_1 {a b : Nat} (h : a < 2 ^ 8) : (a + 256 * b) / 2 ^ 8 = b := by omega
theorem bc_2 {a b c : Nat} (ha : a ≤ 4) (hb : b ≤ 4) : (a + 256 * b + 65536 * c) / 2 ^ 16 = c := by omega
theorem bc_3 {a b c d e : Nat} (ha : a ≤ 8) (hb : b ≤ 8) (hc : c ≤ 8) (hd : d ≤ 8) : (a + 256 * b + 65536 * c + 16777216 * d + 4294967296 * e) / 2 ^ 32 = e := by omega
theorem bc_4 {a b c d e f : Nat} (h : a + e ≤ 16) : ((a + 256 * b + 65536 * c + 16777216 * d + 4294967296 * (e + 256 * f)) + (e + 256 * f)) % 2 ^ 7 = a + e := by omega
theorem bc_q2 {c0 c1 c2 c3 c4 c5 c6 c7 u w1 w2 : Nat} (hu : u = c0 + 256 * w1) (hw1 : w1 = c1 + 256 * (c2 + 256 * (c3 + 256 * (c4 + 256 * (c5 + 256 * (c6 + 256 * c7)))))) (hw2 : w2 = (c2 + c3) + 256 * ((c3 + c4) + 256 * ((c4 + c5) + 256 * ((c5 + c6) + 256 * ((c6 + c7) + 256 * c7))))) : u + w1 = (c0 + c1) + 256 * (c1 + c2) + 65536 * w2 := by
  subst hu hw1 hw2
  simp only [Nat.mul_add, ← Nat.mul_assoc, Nat.reduceMul]
  omega
theorem bc_q4 {c0 c1 c2 c3 c4 c5 c6 c7 u1 w2 f : Nat} (hu : u1 = (c0 + c1) + 256 * (c1 + c2) + 65536 * w2) (hw2 : w2 = (c2 + c3) + 256 * ((c3 + c4) + 256 * ((c4 + c5) + 256 * ((c5 + c6) + 256 * ((c6 + c7) + 256 * c7))))) (hf : f = (c5 + c6 + c7) + 256 * ((c6 + c7) + 256 * c7)) : u1 + w2 = (c0 + c1 + c2 + c3) + 256 * (c1 + c2 + c3 + c4) + 65536 * (c2 + c3 + c4 + c5) + 16777216 * (c3 + c4 + c5 + c6) + 4294967296 * ((c4 + c5 + c6 + c7) + 256 * f) := by
  subst hu hw2 hf
  simp only [Nat.mul_add, ← Nat.mul_assoc, Nat.reduceMul]
  omega
theorem bc_b1 {a b k : Nat} (ha : a ≤ 2) (hb : b < k) : a + 256 * b < 256 * k := by omega
theorem bc_b {c0 c1 c2 c3 c4 c5 c6 c7 : Nat} (b0 : c0 ≤ 2) (b1 : c1 ≤ 2) (b2 : c2 ≤ 2) (b3 : c3 ≤ 2) (b4 : c4 ≤ 2) (b5 : c5 ≤ 2) (b6 : c6 ≤ 2) (b7 : c7 ≤ 2) : c0 + 256 * (c1 + 256 * (c2 + 256 * (c3 + 256 * (c4 + 256 * (c5 + 256 * (c6 + 256 * c7)))))) < 2 ^ 58 :=
  bc_b1 b0 (k := 2 ^ 50) (bc_b1 b1 (k := 2 ^ 42) (bc_b1 b2 (k := 2 ^ 34) (bc_b1 b3 (k := 2 ^ 26) (bc_b1 b4 (k := 2 ^ 18) (bc_b1 b5 (k := 2 ^ 10) (bc_b1 b6 (k := 4) (by omega)))))))
theorem bc_tail {c0 c1 c2 c3 c4 c5 c6 c7 : Nat} (b0 : c0 ≤ 2) (b1 : c1 ≤ 2) (b2 : c2 ≤ 2) (b3 : c3 ≤ 2) (b4 : c4 ≤ 2) (b5 : c5 ≤ 2) (b6 : c6 ≤ 2) (b7 : c7 ≤ 2) {v3 v4 v5 v6 : Int64} (a4 : v3 = lN (c0 + 256 * (c1 + 256 * (c2 + 256 * (c3 + 256 * (c4 + 256 * (c5 + 256 * (c6 + 256 * c7)))))))) (h4 : v4 = v3 + lU v3 (8 : Int32)) (h5 : v5 = v4 + lU v4 (16 : Int32)) (h6 : v6 = v5 + lU v5 (32 : Int32)) : v6.toInt32 &&& (127 : Int32) = nI (c0 + c1 + c2 + c3 + (c4 + c5 + c6 + c7)) := by
  have ub := bc_b b0 b1 b2 b3 b4 b5 b6 b7
  obtain ⟨w1, hw1⟩ : ∃ u, u = c1 + 256 * (c2 + 256 * (c3 + 256 * (c4 + 256 * (c5 + 256 * (c6 + 256 * c7))))) := ⟨_, rfl⟩
  rw [← hw1] at a4 ub
  obtain ⟨u, hu⟩ : ∃ u, u = c0 + 256 * w1 := ⟨_, rfl⟩
  rw [← hu] at a4 ub
  obtain ⟨w2, hw2⟩ : ∃ u, u = (c2 + c3) + 256 * ((c3 + c4) + 256 * ((c4 + c5) + 256 * ((c5 + c6) + 256 * ((c6 + c7) + 256 * c7)))) := ⟨_, rfl⟩
  obtain ⟨f, hf⟩ : ∃ f, f = (c5 + c6 + c7) + 256 * ((c6 + c7) + 256 * c7) := ⟨_, rfl⟩
  have q2 := bc_q2 hu hw1 hw2
  have q4 := bc_q4 q2 hw2 hf
  clear hw1 hw2 hf
  have q1 : u / 2 ^ 8 = w1 := by rw [hu]; exact bc_1 (Nat.lt_of_le_of_lt b0 (by decide))
  have q3 : (u + w1) / 2 ^ 16 = w2 := by rw [q2]; exact bc_2 (by clear q4 q2 q1 ub hu; omega) (by clear q4 q2 q1 ub hu; omega)
  have q5 : (u + w1 + w2) / 2 ^ 32 = (c4 + c5 + c6 + c7) + 256 * f := by rw [q4]; exact bc_3 (by clear q4 q2 q1 ub hu q3; omega) (by clear q4 q2 q1 ub hu q3; omega) (by clear q4 q2 q1 ub hu q3; omega) (by clear q4 q2 q1 ub hu q3; omega)
  have l1 : w1 ≤ u := by rw [← q1]; exact Nat.div_le_self _ _
  have l2 : w2 ≤ u + w1 := by rw [← q3]; exact Nat.div_le_self _ _
  have hq : (u + w1 + w2 + ((c4 + c5 + c6 + c7) + 256 * f)) % 2 ^ 7 = c0 + c1 + c2 + c3 + (c4 + c5 + c6 + c7) := by rw [q4]; exact bc_4 (by clear q4 q2 q1 ub hu q3 q5 l1 l2; omega)
  clear q2 q4 hu b0 b1 b2 b3 b4 b5 b6 b7
  have u1 : u < 2 ^ 64 := Nat.lt_trans ub (by decide)
  have u2 : u + w1 < 2 ^ 64 := by clear q1 q3 q5 hq; omega
  have u3 : u + w1 + w2 < 2 ^ 64 := by clear q1 q3 q5 hq; omega
  have a5 : v4 = lN (u + w1) := by
    rw [h4, a4, show (8 : Int32) = nI 8 from rfl, yl_U u1 (by decide), lN_add, q1]
  have a6 : v5 = lN (u + w1 + w2) := by
    rw [h5, a5, show (16 : Int32) = nI 16 from rfl, yl_U u2 (by decide), lN_add, q3]
  have a7 : v6 = lN (u + w1 + w2 + ((c4 + c5 + c6 + c7) + 256 * f)) := by
    rw [h6, a6, show (32 : Int32) = nI 32 from rfl, yl_U u3 (by decide), lN_add, q5]
  rw [a7, yl_i, show (127 : Int32) = nI 127 from rfl, y_and, show (127 : Nat) = 2 ^ 7 - 1 from rfl, Nat.and_two_pow_sub_one_eq_mod, hq]
theorem e_bcL {o : Nat → Nat} {μ : xM} {Q : Int32 → xM → Prop} (ho : ∀ i, i < 16 → o i < 2) (hQ : Q (nI (sm o 16)) μ) : p_J13_bitCount_95d88 (lN (nb o 16)) μ Q := by
  have hx : nb o 16 < 2 ^ 64 := nb64 (fun i hi => Nat.lt_trans (ho i hi) (by decide))
  unfold p_J13_bitCount_95d88
  intro v1 h1 v2 h2 v3 h3 v4 h4 v5 h5 v6 h6
  have a1 : v1 = lN (nb o 16) := by
    rw [h1, show (1 : Int32) = nI 1 from rfl, show (6148914691236517205 : Int64) = lN 6148914691236517205 from rfl, yl_U hx (by decide), yl_and, Nat.pow_one, o_s1 ho, lN_sub (Nat.zero_le _), Nat.sub_zero]
  have a2 : v2 = lN (nb o 16) := by
    rw [h2, a1, show (2 : Int32) = nI 2 from rfl, show (3689348814741910323 : Int64) = lN 3689348814741910323 from rfl, yl_U hx (by decide), yl_and, yl_and, show (2 : Nat) ^ 2 = 4 from rfl, o_s2 ho, o_s3 ho, lN_add, Nat.add_zero]
  have hb : ∀ i, i < 15 → o i + o (i + 1) ≤ 2 := fun i hi => by have := ho i (by omega); have := ho (i + 1) (by omega); omega
  have hs : sm o 16 = (o 0 + o 1) + (o 2 + o 3) + (o 4 + o 5) + (o 6 + o 7) + ((o 8 + o 9) + (o 10 + o 11) + (o 12 + o 13) + (o 14 + o 15)) := by simp only [sm]; omega
  have a4 : v3 = lN ((o 0 + o 1) + 256 * ((o 2 + o 3) + 256 * ((o 4 + o 5) + 256 * ((o 6 + o 7) + 256 * ((o 8 + o 9) + 256 * ((o 10 + o 11) + 256 * ((o 12 + o 13) + 256 * (o 14 + o 15)))))))) := by
    rw [h3, a2, show (4 : Int32) = nI 4 from rfl, show (1085102592571150095 : Int64) = lN 1085102592571150095 from rfl, yl_U hx (by decide), lN_add, yl_and, show (2 : Nat) ^ 4 = 16 from rfl, o_s4 ho]
  rw [bc_tail (hb 0 (by decide)) (hb 2 (by decide)) (hb 4 (by decide)) (hb 6 (by decide)) (hb 8 (by decide)) (hb 10 (by decide)) (hb 12 (by decide)) (hb 14 (by decide)) a4 h4 h5 h6]
  rw [hs] at hQ
  exact hQ
