/-! a SHEET in the class: digits of two longs, bits of an int -/
def SH (μ : xM) (q : Nat) (C S : Nat → Nat) (cl : Nat) : Prop := μ.2 q 0 = lN (nb C 16) ∧ μ.2 q 1 = lN (nb S 16) ∧ μ.1 q 2 = nI cl
def opn (place cl i : Nat) : Bool := place.testBit i && !cl.testBit i
def mixN (a c : Nat) : Nat := if (a + c) % 8 = 0 then 1 else (a + c) % 8
def prC (kind col place cl : Nat) (C : Nat → Nat) : Nat → Nat := fun i => if opn place cl i = true then (if kind = 0 then col else if kind = 1 then mixN (C i) col else C i) else C i
def prS (kind place cl : Nat) (S : Nat → Nat) : Nat → Nat := fun i => if opn place cl i = true then (if kind = 0 then 0 else if kind = 2 then (if S i = 9 then 9 else S i + 1) else S i) else S i
def prL (kind place cl : Nat) : Nat := if kind = 3 then cl ||| place else cl
theorem ndf_b (place cl : Nat) : (fun i => bN ((ndf place cl).testBit i)) = fun i => bN (opn place cl i) := by
  funext i
  rw [ndf_bit]
  rfl
theorem bN_16 (b : Bool) : bN b < 16 := by cases b <;> decide
theorem bN_2 (b : Bool) : bN b < 2 := by cases b <;> decide
theorem lt10_16 {f : Nat → Nat} (h : ∀ i, i < 16 → f i < 10) : ∀ i, i < 16 → f i < 16 := fun i hi => Nat.lt_trans (h i hi) (by decide)
theorem lt8_16 {f : Nat → Nat} (h : ∀ i, i < 16 → f i < 8) : ∀ i, i < 16 → f i < 16 := fun i hi => Nat.lt_trans (h i hi) (by decide)
theorem e_cover {q col place cl : Nat} {C S : Nat → Nat} {μ : xM} {Q : xM → Prop} (hs : SH μ q C S cl) (hC : ∀ i, i < 16 → C i < 8) (hS : ∀ i, i < 16 → S i < 10) (hc : col < 8)
    (hQ : ∀ ν, fr (fun x => x = q) μ ν → SH ν q (prC 0 col place cl C) (prS 0 place cl S) cl → Q ν) : p_X7_cover q (nI col) (lN (nb (fun i => bN (opn place cl i)) 16)) μ Q := by
  obtain ⟨h1, h2, h3⟩ := hs
  unfold p_X7_cover
  simp only [forall_eq]
  have d15 : ∀ i, i < 16 → bN (opn place cl i) * 15 < 16 := fun i _ => by cases opn place cl i <;> decide
  have dc : ∀ i, i < 16 → bN (opn place cl i) * col < 16 := fun i _ => by cases opn place cl i <;> simp [bN] <;> omega
  have e15 : lN (nb (fun i => bN (opn place cl i)) 16) * (15 : Int64) = lN (nb (fun i => bN (opn place cl i) * 15) 16) := by
    rw [show (15 : Int64) = lN 15 from rfl, lN_mul, nb_mul_c]
  have ec : lN (nb (fun i => bN (opn place cl i)) 16) * (nI col).toInt64 = lN (nb (fun i => bN (opn place cl i) * col) 16) := by
    rw [yl_l (by omega), lN_mul, nb_mul_c]
  have n15 : ∀ x, x < 16 → ndf x 15 = 0 := by decide
  have n0 : ∀ x, x < 16 → ndf x 0 = x := by decide
  apply hQ
  · exact fr_tr (fr_xl rfl) (fr_xl rfl)
  · refine ⟨?_, ?_, ?_⟩
    · rw [y_xl, if_neg (by simp), y_xl, if_pos ⟨rfl, rfl⟩, h1, e15, ec, yl_andn, nb_ndf (lt8_16 hC) d15, yl_or, nb_or (fun i hi => ndf_lt (n := 4) (lt8_16 hC i hi)) dc]
      congr 1
      apply nb_ext
      intro i hi
      unfold prC
      cases ho : opn place cl i
      · simp [bN, n0 _ (lt8_16 hC i hi)]
      · simp [bN, n15 _ (lt8_16 hC i hi)]
    · rw [y_xl, if_pos ⟨rfl, rfl⟩, y_xl, if_neg (by simp), h2, e15, yl_andn, nb_ndf (lt10_16 hS) d15]
      congr 1
      apply nb_ext
      intro i hi
      unfold prS
      cases ho : opn place cl i
      · simp [bN, n0 _ (lt10_16 hS i hi)]
      · simp [bN, n15 _ (lt10_16 hS i hi)]
    · rw [y_xl1, y_xl1]; exact h3
theorem mix_f : ∀ a, a < 8 → ∀ c, c < 8 → ∀ o, o < 2 → (((a + o * c) &&& 7) ||| ndf o (if (a + o * c) &&& 7 = 0 then 0 else 1)) = (if o = 1 then (if (a + c) % 8 = 0 then 1 else (a + c) % 8) else (if a = 0 then o else a)) := by decide +kernel
theorem e_mix {q col place cl : Nat} {C S : Nat → Nat} {μ : xM} {Q : xM → Prop} (hs : SH μ q C S cl) (hC : ∀ i, i < 16 → C i < 8) (hc : col < 8)
    (hQ : ∀ ν, fr (fun x => x = q) μ ν → SH ν q (prC 1 col place cl C) (prS 1 place cl S) cl → Q ν) : p_X7_mix q (nI col) (lN (nb (fun i => bN (opn place cl i)) 16)) μ Q := by
  obtain ⟨h1, h2, h3⟩ := hs
  unfold p_X7_mix
  intro v1 hv1
  have dc : ∀ i, i < 16 → C i + bN (opn place cl i) * col < 16 := fun i hi => by
    have := hC i hi
    cases opn place cl i <;> simp [bN] <;> omega
  have d7 : ∀ i, i < 16 → (C i + bN (opn place cl i) * col) &&& 7 < 16 := fun i hi => Nat.lt_of_le_of_lt Nat.and_le_right (by decide)
  have e1 : v1 = lN (nb (fun i => (C i + bN (opn place cl i) * col) &&& 7) 16) := by
    rw [hv1, h1, yl_l (by omega), lN_mul, nb_mul_c, lN_add, nb_add, show (8608480567731124087 : Int64) = lN 8608480567731124087 from rfl, yl_and, sevens_nb, nb_and dc (fun _ _ => by decide)]
  rw [e1, e_filled (nb64 d7), fil_nb d7]
  intro μ4 h4
  rw [yl_andn, nb_ndf (fun i _ => bN_16 _) (fun i _ => by split <;> decide), yl_or, nb_or d7 (fun i _ => ndf_lt (n := 4) (bN_16 _))] at h4
  subst h4
  apply hQ
  · exact fr_xl rfl
  · refine ⟨?_, ?_, ?_⟩
    · rw [y_xl, if_pos ⟨rfl, rfl⟩]
      congr 1
      apply nb_ext
      intro i hi
      have hm := mix_f (C i) (hC i hi) col hc (bN (opn place cl i)) (bN_2 _)
      rw [hm]
      unfold prC mixN
      cases ho : opn place cl i
      · simp [bN]
        intro h; exact h.symm
      · simp [bN]
    · rw [y_xl, if_neg (by simp), h2]
      congr 1
      apply nb_ext
      intro i hi
      unfold prS
      simp
    · exact h3
theorem e_polish {q place cl col : Nat} {C S : Nat → Nat} {μ : xM} {Q : xM → Prop} (hs : SH μ q C S cl) (hS : ∀ i, i < 16 → S i < 10)
    (hQ : ∀ ν, fr (fun x => x = q) μ ν → SH ν q (prC 2 col place cl C) (prS 2 place cl S) cl → Q ν) : p_X7_polish q (lN (nb (fun i => bN (opn place cl i)) 16)) μ Q := by
  obtain ⟨h1, h2, h3⟩ := hs
  unfold p_X7_polish
  intro v1 hv1 μ4 h4
  rw [h2, show (3 : Int32) = nI 3 from rfl, yl_U (nb64 (lt10_16 hS)) (by decide), yl_and, show (2 : Nat) ^ 3 = 8 from rfl] at hv1
  rw [hv1, h2, yl_andn, nines_nb hS (fun i _ => bN_2 _), lN_add, nb_add] at h4
  subst h4
  apply hQ
  · exact fr_xl rfl
  · refine ⟨?_, ?_, ?_⟩
    · rw [y_xl, if_neg (by simp), h1]
      congr 1
      apply nb_ext
      intro i hi
      unfold prC
      simp
    · rw [y_xl, if_pos ⟨rfl, rfl⟩]
      congr 1
      apply nb_ext
      intro i hi
      unfold prS
      cases ho : opn place cl i
      · simp [bN]
      · by_cases h9 : S i = 9 <;> simp [bN, h9]
    · exact h3
theorem e_take {q kind col place cl : Nat} {C S : Nat → Nat} {μ : xM} {Q : xM → Prop} (hs : SH μ q C S cl) (hC : ∀ i, i < 16 → C i < 8) (hS : ∀ i, i < 16 → S i < 10) (hc : col < 8) (hk : kind < 4) (hp : place < 65536)
    (hQ : ∀ ν, fr (fun x => x = q) μ ν → SH ν q (prC kind col place cl C) (prS kind place cl S) (prL kind place cl) → Q ν) : p_X7_take q (nI kind) (nI col) (nI place) μ Q := by
  unfold p_X7_take
  rw [hs.2.2, y_andn, e_spread (ndf_lt (n := 16) hp), spr_nb (ndf_lt (n := 16) hp), ndf_b]
  rcases (show kind = 0 ∨ kind = 1 ∨ kind = 2 ∨ kind = 3 by omega) with rfl | rfl | rfl | rfl
  · have e : (nI 0 = (0 : Int32)) = True := by decide
    simp only [e, true_implies, not_true_eq_false, false_implies, and_true]
    exact e_cover hs hC hS hc hQ
  · have e : (nI 1 = (0 : Int32)) = False := by decide
    have e1 : (nI 1 = (1 : Int32)) = True := by decide
    simp only [e, e1, false_implies, not_false_eq_true, true_implies, not_true_eq_false, and_true, true_and]
    exact e_mix hs hC hc hQ
  · have e : (nI 2 = (0 : Int32)) = False := by decide
    have e1 : (nI 2 = (1 : Int32)) = False := by decide
    have e2 : (nI 2 = (2 : Int32)) = True := by decide
    simp only [e, e1, e2, false_implies, not_false_eq_true, true_implies, not_true_eq_false, and_true, true_and]
    exact e_polish hs hS hQ
  · have e : (nI 3 = (0 : Int32)) = False := by decide
    have e1 : (nI 3 = (1 : Int32)) = False := by decide
    have e2 : (nI 3 = (2 : Int32)) = False := by decide
    have e3 : (nI 3 = (3 : Int32)) = True := by decide
    simp only [e, e1, e2, e3, false_implies, not_false_eq_true, true_implies, not_true_eq_false, and_true, true_and, forall_eq]
    apply hQ
    · exact fr_xi rfl
    · obtain ⟨h1, h2, h3⟩ := hs
      refine ⟨?_, ?_, ?_⟩
      · rw [y_xi2, h1]
        congr 1
        apply nb_ext
        intro i hi
        unfold prC
        simp
      · rw [y_xi2, h2]
        congr 1
        apply nb_ext
        intro i hi
        unfold prS
        simp
      · rw [y_xi, if_pos ⟨rfl, rfl⟩, h3, y_or]
        rfl
