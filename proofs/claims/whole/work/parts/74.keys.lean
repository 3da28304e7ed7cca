/-! unlike sheets: their keys -/
abbrev kT : Type := Nat × Nat × Nat
def vk (k : kT) : Prop := k.1 < 16 ^ 16 ∧ (∀ i, i < 16 → k.1 / 16 ^ i % 16 < 8) ∧ k.2.1 < 16 ^ 16 ∧ k.2.2 < 65536
theorem e1616 : 16 ^ 16 = 2 ^ 64 := by decide
theorem lN_ij {a b : Nat} (ha : a < 16 ^ 16) (hb : b < 16 ^ 16) : lN a = lN b ↔ a = b := by
  rw [e1616] at ha hb
  constructor
  · intro h
    have h2 : (lN a).toBitVec.toNat = (lN b).toBitVec.toNat := by rw [h]
    rw [y_bvL, y_bvL, BitVec.toNat_ofNat, BitVec.toNat_ofNat, Nat.mod_eq_of_lt ha, Nat.mod_eq_of_lt hb] at h2
    exact h2
  · intro h; rw [h]
def fcN (k : kT) : Nat := k.1 ||| spr k.2.2 * 2 ^ 3
theorem fc_d : ∀ a, a < 8 → ∀ b, b < 2 → a ||| b * 8 = a + 8 * b := by decide +kernel
theorem fc_nb {k : kT} (h : vk k) : fcN k = nb (fun i => k.1 / 16 ^ i % 16 + 8 * bN (k.2.2.testBit i)) 16 := by
  unfold fcN
  rw [spr_nb h.2.2.2, nb_mul_c]
  conv => lhs; rw [nb_of k.1 16 h.1]
  rw [nb_or (fun i hi => Nat.mod_lt _ (by decide)) (fun i hi => by have := bN_le (k.2.2.testBit i); show bN (k.2.2.testBit i) * 2 ^ 3 < 16; omega)]
  apply nb_ext
  intro i hi
  exact fc_d _ (h.2.1 i hi) _ (bN_2 _)
theorem fc_lt {k : kT} (h : vk k) : fcN k < 16 ^ 16 := by
  rw [fc_nb h]
  refine nb_lt 16 (fun i hi => ?_)
  have h1 := h.2.1 i hi
  have h2 := bN_le (k.2.2.testBit i)
  show k.1 / 16 ^ i % 16 + 8 * bN (k.2.2.testBit i) < 16
  omega
theorem fc_inj {k m : kT} (hk : vk k) (hm : vk m) (h1 : fcN k = fcN m) (h2 : k.2.1 = m.2.1) : k = m := by
  rw [fc_nb hk, fc_nb hm] at h1
  have b16 : ∀ {k : kT}, vk k → ∀ i, i < 16 → k.1 / 16 ^ i % 16 + 8 * bN (k.2.2.testBit i) < 16 := by
    intro k h i hi
    have h1 := h.2.1 i hi
    have h2 := bN_le (k.2.2.testBit i)
    omega
  have hd := nb_inj (b16 hk) (b16 hm) h1
  have e1 : k.1 = m.1 := by
    rw [nb_of k.1 16 hk.1, nb_of m.1 16 hm.1]
    apply nb_ext
    intro i hi
    have := hd i hi
    have a1 := hk.2.1 i hi
    have a2 := hm.2.1 i hi
    have a3 := bN_le (k.2.2.testBit i)
    have a4 := bN_le (m.2.2.testBit i)
    omega
  have e3 : k.2.2 = m.2.2 := by
    apply Nat.eq_of_testBit_eq
    intro i
    by_cases hi : i < 16
    · have := hd i hi
      have a1 := hk.2.1 i hi
      have a2 := hm.2.1 i hi
      have a5 : bN (k.2.2.testBit i) = bN (m.2.2.testBit i) := by omega
      cases h1 : k.2.2.testBit i <;> cases h2 : m.2.2.testBit i <;> rw [h1, h2] at a5 <;> first | rfl | exact absurd a5 (by decide)
    · rw [mask_ge (n := 16) hk.2.2.2 (by omega), mask_ge (n := 16) hm.2.2.2 (by omega)]
  exact Prod.ext e1 (Prod.ext h2 e3)
def kyS (x : (Nat → Nat) × (Nat → Nat) × Nat) : kT := (nb x.1 16, nb x.2.1 16, x.2.2)
theorem vkSh {x : (Nat → Nat) × (Nat → Nat) × Nat} (h : (∀ i, i < 16 → x.1 i < 8) ∧ (∀ i, i < 16 → x.2.1 i < 10) ∧ x.2.2 < 65536) : vk (kyS x) := by
  refine ⟨nb_lt 16 (lt8_16 h.1), fun i hi => ?_, nb_lt 16 (lt10_16 h.2.1), h.2.2⟩
  show nb x.1 16 / 16 ^ i % 16 < 8
  rw [nb_dig (lt8_16 h.1) hi]
  exact h.1 i hi
def mxK (k : kT) : Int64 := lN (fcN k) * (-7046029254386353131 : Int64) + lN k.2.1 * (-4417276706812531889 : Int64)
def stK (k : kT) : Nat := (mxK k).toBitVec.toNat / 2 ^ 54
theorem stK_lt (k : kT) : stK k < 1024 := by
  unfold stK
  have := (mxK k).toBitVec.isLt
  omega
theorem lN_of (x : Int64) : x = lN x.toBitVec.toNat := by
  apply y_injL
  rw [y_bvL, BitVec.ofNat_toNat]
  simp
theorem st_i (k : kT) : (lU (mxK k) 54).toInt32 = nI (stK k) := by
  conv => lhs; rw [lN_of (mxK k)]
  rw [show (54 : Int32) = nI 54 from rfl, yl_U (mxK k).toBitVec.isLt (by decide), yl_i]
  rfl
theorem e_cc {μ : xM} {q : Nat} {C S : Nat → Nat} {cl : Nat} (hs : SH μ q C S cl) (hcl : cl < 65536) {Q : Int64 → xM → Prop} (hQ : Q (lN (fcN (kyS (C, S, cl)))) μ) : p_X7_coloursAndClosed q μ Q := by
  unfold p_X7_coloursAndClosed
  rw [hs.1, hs.2.2, e_spread hcl, show (3 : Int32) = nI 3 from rfl, yl_L (by decide), yl_or]
  exact hQ
abbrev tkn (μ : xM) (r s : Nat) : Prop := μ.1 98 s = nI r
def hld (μ : xM) (s : Nat) (k : kT) : Prop := μ.2 96 s = lN (fcN k) ∧ μ.2 97 s = lN k.2.1
def SI (μ : xM) (r : Nat) (l : List kT) : Prop :=
  (μ.1 95 3 = nI r ∧ μ.1 95 4 = nI l.length) ∧ (∀ s, s < 1024 → tkn μ r s → ∃ k, k ∈ l ∧ hld μ s k) ∧
  (∀ k, k ∈ l → vk k ∧ ∃ t, t < 1024 ∧ tkn μ r ((stK k + t) % 1024) ∧ hld μ ((stK k + t) % 1024) k ∧ ∀ u, u < t → tkn μ r ((stK k + u) % 1024)) ∧
  sm (fun s => if tkn μ r s then 1 else 0) 1024 = l.length ∧ (∀ s, s < 1024 → ∃ e, e ≤ r ∧ μ.1 98 s = nI e)
theorem sm_all {p : Nat → Nat} : ∀ n, (∀ i, i < n → p i = 1) → sm p n = n
  | 0, _ => rfl
  | n + 1, h => by simp only [sm]; rw [sm_all n (fun i hi => h i (by omega)), h n (by omega)]
theorem sm_up {p q : Nat → Nat} {s : Nat} (hp : p s = 0) (hq : q s = 1) (he : ∀ i, i ≠ s → q i = p i) : ∀ n, s < n → sm q n = sm p n + 1
  | 0, h => by omega
  | n + 1, h => by
    simp only [sm]
    by_cases e : n = s
    · subst e
      rw [hp, hq, sm_ext (b := p) n (fun i hi => he i (by omega))]
    · rw [sm_up hp hq he n (by omega), he n e]; omega
theorem SI_free {μ : xM} {r : Nat} {l : List kT} (h : SI μ r l) (hl : l.length < 1024) (st : Nat) : ∃ t, t < 1024 ∧ ¬ tkn μ r ((st + t) % 1024) := by
  apply Classical.byContradiction
  intro hn
  have hall : ∀ s, s < 1024 → tkn μ r s := by
    intro s hs
    apply Classical.byContradiction
    intro h2
    refine hn ⟨(s + 1024 - st % 1024) % 1024, Nat.mod_lt _ (by decide), ?_⟩
    rw [show (st + (s + 1024 - st % 1024) % 1024) % 1024 = s by omega]
    exact h2
  have := h.2.2.2.1
  rw [sm_all 1024 (fun i hi => if_pos (hall i hi))] at this
  omega
theorem v1024 {k : Nat} (h : k < 1024) : vp_in (nI k) 1024 := vp_in_nI h (by decide)
theorem shs : rt 95 0 = 96 ∧ rt 95 1 = 97 ∧ rt 95 2 = 98 := by decide +kernel
/-- the search for a slot -/
theorem l_add {μ : xM} {r : Nat} {l : List kT} {k : kT} (hS : SI μ r l) (hl : l.length < 1024) (hk : vk k) {K0 : xM → Prop} {K1 : Int32 → xM → Prop} {K2 : xM → Prop}
    (h1 : ∀ t, t < 1024 → k ∉ l → ¬ tkn μ r ((stK k + t) % 1024) → (∀ u, u < t → tkn μ r ((stK k + u) % 1024)) → K1 (nI ((stK k + t) % 1024)) μ) (h2 : k ∈ l → K2 μ) : ∀ d t, t + d = 1024 → (∀ u, u < t → tkn μ r ((stK k + u) % 1024) ∧ ¬ hld μ ((stK k + u) % 1024) k) → L_X8_add_36 (nI (stK k)) (lN k.2.1) (lN (fcN k)) 95 (d + 1) (nI t) μ K0 K1 K2
  | 0, t, h, hu => by
    obtain ⟨t2, h3, h4⟩ := SI_free hS hl (stK k)
    exact absurd (hu t2 (by omega)).1 h4
  | d + 1, t, h, hu => by
    unfold L_X8_add_36 B_X8_add_36
    refine ⟨fun h => absurd h (nI_ge (b := 1024) (by omega) (by decide)), fun _ => ?_⟩
    have es : (nI (stK k) + nI t) &&& 1023 = nI ((stK k + t) % 1024) := by
      rw [nI_add, show (1023 : Int32) = nI 1023 from rfl, y_and, show 1023 = 2 ^ 10 - 1 from rfl, Nat.and_two_pow_sub_one_eq_mod]
    have hlt : (stK k + t) % 1024 < 1024 := Nat.mod_lt _ (by decide)
    rw [es]
    generalize hs : (stK k + t) % 1024 = s at *
    simp only [forall_eq, shs, nI_clamp (show s < 2 ^ 31 by omega), hS.1.1, nI_1, lg_cmp_eq]
    have l6 : ln 96 = 1024 ∧ ln 97 = 1024 ∧ ln 98 = 1024 := ⟨shl.2.2.2.2.2.2.2.2.2.2.2.2.1, shl.2.2.2.2.2.2.2.2.2.2.2.2.2.1, shl.2.2.2.2.2.2.2.2.2.2.2.2.2.2.1⟩
    rw [l6.1, l6.2.1, l6.2.2]
    refine ⟨v1024 hlt, fun ht => ⟨v1024 hlt, ?_⟩, fun ht => ?_⟩
    · have next : ¬ hld μ s k → L_X8_add_36 (nI (stK k)) (lN k.2.1) (lN (fcN k)) 95 (d + 1) (nI (t + 1)) μ K0 K1 K2 := by
        intro hn
        refine l_add hS hl hk h1 h2 d (t + 1) (by omega) (fun u hu2 => ?_)
        by_cases e : u = t
        · rw [e, hs]; exact ⟨ht, hn⟩
        · exact hu u (by omega)
      refine ⟨fun hn => next (fun e => hn e.1), fun e1 => ⟨v1024 hlt, fun hn => next (fun e => hn e.2), fun e2 => ?_⟩⟩
      obtain ⟨k2, hk2, hh⟩ := hS.2.1 s hlt ht
      have vk2 := (hS.2.2.1 k2 hk2).1
      have e3 : k = k2 := by
        refine fc_inj hk vk2 ?_ ?_
        · have := e1.symm.trans hh.1; rw [lN_ij (fc_lt hk) (fc_lt vk2)] at this; exact this
        · have := e2.symm.trans hh.2; rw [lN_ij hk.2.2.1 vk2.2.2.1] at this; exact this
      exact h2 (by rw [e3]; exact hk2)
    · rw [← hs]
      refine h1 t (by omega) (fun hin => ?_) (by rw [hs]; exact ht) (fun u hu2 => (hu u hu2).1)
      obtain ⟨-, t0, ht0, a1, a2, a3⟩ := hS.2.2.1 k hin
      by_cases c1 : t < t0
      · have := a3 t c1; rw [hs] at this; exact ht this
      · by_cases c2 : t = t0
        · rw [← c2, hs] at a1; exact ht a1
        · exact (hu t0 (by omega)).2 a2
